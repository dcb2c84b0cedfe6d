/-! ===== the reference lays them ===== -/
def wmR (M : zM) (W : Nat → Nat → Nat) : Prop := ∀ i j, i < 8 → j < 8 → M.1 470 (8 * i + j) = Int32.ofNat (W i j)
theorem of_8 (r o : Nat) : 8 * Int32.ofNat r + Int32.ofNat o = Int32.ofNat (8 * r + o) := by rw [Int32.ofNat_add, Int32.ofNat_mul]; rfl
theorem r172 {X : (Nat → Int32) × Nat} {d : Nat} {R : Nat → Nat → Nat} {M : zM} (hG : zGE M) (hR : ∀ x y, x < 8 → y < 8 → M.1 493 (8 * x + y) = Int32.ofNat (R x y)) (hb : ∀ x y, R x y ≤ 100000) : ∃ M', zC X d 172 [.ref 460] M = some (none, M') ∧ zfr 470 471 M M' ∧ wmR M' (fwN (fun x y => if x = y then 0 else R x y) 8) := by
  show ∃ M', zR X d 172 (0, [.ref 460, zjk, zjk, zjk, zjk], [], M) = some (none, M') ∧ _
  generalize hD : (fun x y => if x = y then 0 else R x y) = D
  have hDv : ∀ x y, D x y = if x = y then 0 else R x y := fun x y => by rw [← hD]
  have lit8 : (8 : Int32) = Int32.ofNat 8 := rfl
  have gG : ∀ {M1}, zfr 470 471 M M1 → zGE M1 := fun h => zfr_G h hG
  have nn : ∀ i j, i < 8 → j < 8 → (Int32.ofNat (8 * i + j)).toNatClampNeg = 8 * i + j := fun i j _ _ => toNat_of (by omega)
  have ini2 : ∀ m j i v3 v4 M1, j + m = 8 → i < 8 → zfr 470 471 M M1 → (∀ x y, x < 8 → y < 8 → (x < i ∨ (x = i ∧ y < j)) → M1.1 470 (8 * x + y) = Int32.ofNat (D x y)) → ∃ M2, zR X d 172 (10, [.ref 460, .int (Int32.ofNat i), .int (Int32.ofNat j), v3, v4], [], M1) = zR X d 172 (2, [.ref 460, .int (Int32.ofNat (i + 1)), .int (Int32.ofNat 8), v3, v4], [], M2) ∧ zfr 470 471 M M2 ∧ ∀ x y, x < 8 → y < 8 → x < i + 1 → M2.1 470 (8 * x + y) = Int32.ofNat (D x y) := by
    intro m
    induction m with
    | zero =>
      intro j i v3 v4 M1 hj hi hz h
      have e8 : j = 8 := by omega
      subst e8
      have hle : (8 : Int32) ≤ Int32.ofNat 8 := by decide
      rw [t172_10 _ _ _ _ _ (gG hz) (fun h => absurd hle h) (fun h => absurd hle h), if_pos hle, of_succ]
      exact ⟨M1, rfl, hz, fun x y hx hy h1 => h x y hx hy (by omega)⟩
    | succ m ih =>
      intro j i v3 v4 M1 hj hi hz h
      have hle : ¬ (8 : Int32) ≤ Int32.ofNat j := by rw [lit8, of_le (by omega) (by omega)]; omega
      rw [t172_10 _ _ _ _ _ (gG hz) (fun _ _ => by rw [of_8]; exact vp_of (by omega) (by omega)) (fun _ _ => by rw [of_8]; exact vp_of (by omega) (by omega)), if_neg hle, of_8, nn i j hi (by omega), of_succ, fi_ne (by omega) (by omega)]
      have st : ∀ (v : Int32), v = Int32.ofNat (D i j) → ∃ M2, zR X d 172 (10, [.ref 460, .int (Int32.ofNat i), .int (Int32.ofNat (j + 1)), v3, v4], [], zsI M1 470 (8 * i + j) v) = zR X d 172 (2, [.ref 460, .int (Int32.ofNat (i + 1)), .int (Int32.ofNat 8), v3, v4], [], M2) ∧ zfr 470 471 M M2 ∧ ∀ x y, x < 8 → y < 8 → x < i + 1 → M2.1 470 (8 * x + y) = Int32.ofNat (D x y) := fun v hv => by
        refine ih (j + 1) i v3 v4 _ (by omega) hi (zfr_I hz (by omega) (by omega)) (fun x y hx hy hxy => ?_)
        rw [zI_s]
        by_cases e : x = i ∧ y = j
        · rw [if_pos (by omega), hv, e.1, e.2]
        · rw [if_neg (by omega)]; exact h x y hx hy (by omega)
      by_cases c : i = j
      · rw [if_neg (not_not_intro c)]
        exact st 0 (by rw [hDv, if_pos c]; rfl)
      · rw [if_pos c]
        exact st _ (by rw [hDv, if_neg c, (hz.2 493 (by omega)).1]; exact hR i j hi (by omega))
  have ini1 : ∀ m i v2 v3 v4 M1, i + m = 8 → zfr 470 471 M M1 → (∀ x y, x < 8 → y < 8 → x < i → M1.1 470 (8 * x + y) = Int32.ofNat (D x y)) → ∃ v2' M2, zR X d 172 (2, [.ref 460, .int (Int32.ofNat i), v2, v3, v4], [], M1) = zR X d 172 (61, [.ref 460, .int (Int32.ofNat 0), v2', v3, v4], [], M2) ∧ zfr 470 471 M M2 ∧ wmR M2 D := by
    intro m
    induction m with
    | zero =>
      intro i v2 v3 v4 M1 hi hz h
      have e8 : i = 8 := by omega
      subst e8
      rw [t172_2 _ _ _ _ _ (gG hz), if_pos (by decide)]
      exact ⟨v2, M1, rfl, hz, fun x y hx hy => h x y hx hy hx⟩
    | succ m ih =>
      intro i v2 v3 v4 M1 hi hz h
      have hle : ¬ (8 : Int32) ≤ Int32.ofNat i := by rw [lit8, of_le (by omega) (by omega)]; omega
      rw [t172_2 _ _ _ _ _ (gG hz), if_neg hle]
      obtain ⟨M2, u1, u2, u3⟩ := ini2 8 0 i v3 v4 M1 (by omega) (by omega) hz (fun x y hx hy hxy => h x y hx hy (by omega))
      obtain ⟨v2', M3, w1, w2, w3⟩ := ih (i + 1) (.int (Int32.ofNat 8)) v3 v4 M2 (by omega) u2 u3
      exact ⟨v2', M3, u1.trans w1, w2, w3⟩
  have hbb : ∀ o x y, fwN D o x y ≤ 100000 := fun o x y => by
    have l := fwN_le (D := D) (k := 0) (a := x) (b := y) o
    rw [Nat.zero_add] at l
    have l2 : fwN D 0 x y = D x y := rfl
    have l3 := hDv x y
    have l4 := hb x y
    by_cases c : x = y
    · rw [if_pos c] at l3; omega
    · rw [if_neg c] at l3; omega
  have h00 : ∀ x, x < 8 → D x x = 0 := fun x _ => by rw [hDv, if_pos rfl]
  have lp3 : ∀ m b o a v4 M1, b + m = 8 → o < 8 → a < 8 → zfr 470 471 M M1 → wmR M1 (fwU o (fwN D o) a b) → ∃ v4' M2, zR X d 172 (77, [.ref 460, .int (Int32.ofNat o), .int (Int32.ofNat a), .int (Int32.ofNat b), v4], [], M1) = zR X d 172 (69, [.ref 460, .int (Int32.ofNat o), .int (Int32.ofNat (a + 1)), .int (Int32.ofNat 8), v4'], [], M2) ∧ zfr 470 471 M M2 ∧ wmR M2 (fwU o (fwN D o) (a + 1) 0) := by
    intro m
    induction m with
    | zero =>
      intro b o a v4 M1 hb ho ha hz h
      have e8 : b = 8 := by omega
      subst e8
      have hle : (8 : Int32) ≤ Int32.ofNat 8 := by decide
      rw [t172_77 _ _ _ _ _ (gG hz) (fun h => absurd hle h) (fun h => absurd hle h) (fun h => absurd hle h), if_pos hle, of_succ]
      refine ⟨v4, M1, rfl, hz, fun x y hx hy => ?_⟩
      rw [h x y hx hy]
      unfold fwU
      rw [ifq (show (x < a ∨ x = a ∧ y < 8) ↔ (x < a + 1 ∨ x = a + 1 ∧ y < 0) by omega) rfl rfl]
    | succ m ih =>
      intro b o a v4 M1 hb ho ha hz h
      have hle : ¬ (8 : Int32) ≤ Int32.ofNat b := by rw [lit8, of_le (by omega) (by omega)]; omega
      have hoo : fwN D o o o = 0 := fwN_0 h00 o o ho
      have hab : fwU o (fwN D o) a b a b = fwN D o a b := by
        unfold fwU
        rw [if_neg (by omega)]
      have c1 := hbb o a o
      have c2 := hbb o o b
      have c3 := hbb o a b
      rw [t172_77 _ _ _ _ _ (gG hz) (fun _ => by rw [of_8]; exact vp_of (by omega) (by omega)) (fun _ => by rw [of_8]; exact vp_of (by omega) (by omega)) (fun _ => by rw [of_8]; exact vp_of (by omega) (by omega)), if_neg hle, of_8, of_8, of_8, nn a o ha ho, nn o b ho (by omega), nn a b ha (by omega), of_succ, h a o ha ho, h o b ho (by omega), h a b ha (by omega), hab, (fwU_o hoo a b a).1, (fwU_o hoo a b b).2, ← Int32.ofNat_add, fi_le (by omega) (by omega)]
      have st : ∀ v, v = Int32.ofNat (fwF o (fwN D o) a b) → wmR (zsI M1 470 (8 * a + b) v) (fwU o (fwN D o) a (b + 1)) := fun v hv x y hx hy => by
        rw [zI_s]
        by_cases e : x = a ∧ y = b
        · rw [if_pos (by omega), hv]
          unfold fwU
          rw [if_pos (by omega), e.1, e.2]
        · rw [if_neg (by omega), h x y hx hy]
          unfold fwU
          rw [ifq (show (x < a ∨ x = a ∧ y < b) ↔ (x < a ∨ x = a ∧ y < b + 1) by omega) rfl rfl]
      by_cases c : fwN D o a b ≤ fwN D o a o + fwN D o o b
      · rw [if_pos c]
        exact ih (b + 1) o a _ _ (by omega) ho ha (zfr_I hz (by omega) (by omega)) (st _ (by unfold fwF; rw [if_neg (by omega)]))
      · rw [if_neg c]
        exact ih (b + 1) o a _ _ (by omega) ho ha (zfr_I hz (by omega) (by omega)) (st _ (by unfold fwF; rw [if_pos (by omega)]))
  have lp2 : ∀ m a o v3 v4 M1, a + m = 8 → o < 8 → zfr 470 471 M M1 → wmR M1 (fwU o (fwN D o) a 0) → ∃ v3' v4' M2, zR X d 172 (69, [.ref 460, .int (Int32.ofNat o), .int (Int32.ofNat a), v3, v4], [], M1) = zR X d 172 (61, [.ref 460, .int (Int32.ofNat (o + 1)), .int (Int32.ofNat 8), v3', v4'], [], M2) ∧ zfr 470 471 M M2 ∧ wmR M2 (fwN D (o + 1)) := by
    intro m
    induction m with
    | zero =>
      intro a o v3 v4 M1 ha ho hz h
      have e8 : a = 8 := by omega
      subst e8
      rw [t172_69 _ _ _ _ _ (gG hz), if_pos (by decide), of_succ]
      refine ⟨v3, v4, M1, rfl, hz, fun x y hx hy => ?_⟩
      rw [h x y hx hy]
      unfold fwU
      rw [if_pos (Or.inl hx)]
      rfl
    | succ m ih =>
      intro a o v3 v4 M1 ha ho hz h
      have hle : ¬ (8 : Int32) ≤ Int32.ofNat a := by rw [lit8, of_le (by omega) (by omega)]; omega
      rw [t172_69 _ _ _ _ _ (gG hz), if_neg hle]
      obtain ⟨v4', M2, u1, u2, u3⟩ := lp3 8 0 o a v4 M1 (by omega) ho (by omega) hz h
      obtain ⟨v3', v4'', M3, w1, w2, w3⟩ := ih (a + 1) o (.int (Int32.ofNat 8)) v4' M2 (by omega) ho u2 u3
      exact ⟨v3', v4'', M3, u1.trans w1, w2, w3⟩
  have lp1 : ∀ m o v2 v3 v4 M1, o + m = 8 → zfr 470 471 M M1 → wmR M1 (fwN D o) → ∃ M2, zR X d 172 (61, [.ref 460, .int (Int32.ofNat o), v2, v3, v4], [], M1) = some (none, M2) ∧ zfr 470 471 M M2 ∧ wmR M2 (fwN D 8) := by
    intro m
    induction m with
    | zero =>
      intro o v2 v3 v4 M1 ho hz h
      have e8 : o = 8 := by omega
      subst e8
      rw [t172_61 _ _ _ _ _ (gG hz), if_pos (by decide)]
      exact ⟨M1, rfl, hz, h⟩
    | succ m ih =>
      intro o v2 v3 v4 M1 ho hz h
      have hle : ¬ (8 : Int32) ≤ Int32.ofNat o := by rw [lit8, of_le (by omega) (by omega)]; omega
      rw [t172_61 _ _ _ _ _ (gG hz), if_neg hle]
      obtain ⟨v3', v4', M2, u1, u2, u3⟩ := lp2 8 0 o v3 v4 M1 (by omega) (by omega) hz (fun x y hx hy => by
        rw [h x y hx hy]
        unfold fwU
        rw [if_neg (by omega)])
      obtain ⟨M3, w1, w2, w3⟩ := ih (o + 1) (.int (Int32.ofNat 8)) v3' v4' M2 (by omega) u2 u3
      exact ⟨M3, u1.trans w1, w2, w3⟩
  rw [t172_0 _ _ _ _ _ hG]
  obtain ⟨v2, M1, a1, a2, a3⟩ := ini1 8 0 zjk zjk zjk M (by omega) zfr_rf (fun x y _ _ h => absurd h (Nat.not_lt_zero x))
  obtain ⟨M3, c1, c2, c3⟩ := lp1 8 0 v2 zjk zjk M1 (by omega) a2 a3
  exact ⟨M3, a1.trans c1, c2, c3⟩
