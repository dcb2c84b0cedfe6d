/-! ===== plain functions of what both programs count ===== -/
def pb (x : Int32) (k : Nat) : Bool := ! decide ((x >>> (Int32.ofNat k &&& 31)) &&& 1 = 0)
theorem pb_t {x : Int32} {k : Nat} (h : pb x k = true) : ¬ (x >>> (Int32.ofNat k &&& 31)) &&& 1 = 0 := by
  unfold pb at h
  simpa using h
theorem pb_f {x : Int32} {k : Nat} (h : pb x k = false) : (x >>> (Int32.ofNat k &&& 31)) &&& 1 = 0 := by
  unfold pb at h
  simpa using h
theorem and1 (y : Int32) : y &&& 1 = 0 ∨ y &&& 1 = 1 := by
  have h : (y &&& 1).toBitVec = BitVec.setWidth 32 (BitVec.ofBool (y.toBitVec.getLsbD 0)) := by
    rw [Int32.toBitVec_and]
    exact BitVec.and_one_eq_setWidth_ofBool_getLsbD
  rw [← Int32.toBitVec_inj, ← Int32.toBitVec_inj, h]
  cases y.toBitVec.getLsbD 0
  · exact Or.inl rfl
  · exact Or.inr rfl
theorem pb_t1 {x : Int32} {k : Nat} (h : pb x k = true) : (x >>> (Int32.ofNat k &&& 31)) &&& 1 = 1 := (and1 _).resolve_left (pb_t h)
theorem pb_or (x y : Int32) (k : Nat) : pb (x ||| y) k = (pb x k || pb y k) := by
  have e : ((x ||| y) >>> (Int32.ofNat k &&& 31)) &&& 1 = ((x >>> (Int32.ofNat k &&& 31)) &&& 1) ||| ((y >>> (Int32.ofNat k &&& 31)) &&& 1) := by
    rw [← Int32.toBitVec_inj]
    simp only [Int32.toBitVec_and, Int32.toBitVec_or, Int32.toBitVec_shiftRight]
    ext i hi
    simp [BitVec.getElem_sshiftRight]
    by_cases hc : ((BitVec.ofNat 32 k &&& 31#32).smod 32#32).toNat + i < 32
    · simp only [dif_pos hc]
      generalize decide (i = 0) = q
      cases q <;> simp
    · simp only [dif_neg hc]
      generalize decide (i = 0) = q
      cases q <;> simp
  unfold pb
  rw [e]
  rcases and1 (x >>> (Int32.ofNat k &&& 31)) with h1 | h1 <;> rcases and1 (y >>> (Int32.ofNat k &&& 31)) with h2 | h2 <;> rw [h1, h2] <;> decide
def zu (A : Nat → Int32) (k : Nat) (v : Int32) : Nat → Int32 := fun j => if j = k then v else A j
theorem zu_s {A : Nat → Int32} {k : Nat} {v : Int32} : zu A k v k = v := if_pos rfl
theorem zu_n {A : Nat → Int32} {k j : Nat} {v : Int32} (h : ¬ j = k) : zu A k v j = A j := if_neg h
theorem zu_a {A : Nat → Int32} {k j : Nat} {v : Int32} : zu A k v j = if j = k then v else A j := rfl
/-- how an empire stands: 0 treasury, 1 fine, 2 day, 3 ruler, 4 paid, 5 sold, 6 bid, 7 left, 8 bribed, 9 beaten, 10.. purses -/
abbrev zA : Type := Nat → Int32
/-- what is told: row 0 the numbers of heads, guards, generals, roads, bidders; row c + 1 the column c; row 16 + a the ways from a -/
abbrev zE : Type := Nat → Nat → Int32
def nG (E : zE) : Nat := (E 0 1).toNatClampNeg
def nN (E : zE) : Nat := (E 0 2).toNatClampNeg
def nD (E : zE) : Nat := (E 0 4).toNatClampNeg
def pMs (left : Int32) (row : Nat → Int32) : Nat → Int32
  | 0 => 0
  | k + 1 => bif pb left k then pMs left row k else pMs left row k + row k
def pMen (E : zE) (A : zA) : Int32 := pMs (A 7) (E 4) (nG E)
def pBS (A : zA) : Bool := ! decide (A 3 < 0) && ! decide (4 ≤ A 3)
def pRA (A : zA) : Bool := ! decide (A 3 < 10) && ! decide (14 ≤ A 3)
def pPay (E : zE) (A : zA) : zA :=
  if A 4 < 100 * A 6 then
    if pMen E A = 0 then A
    else if pMen E A ≤ A 0 + A (10 + (A 3).toNatClampNeg) then
      zu (zu (zu A 0 (A 0 - (if pMen E A < A 0 then pMen E A else A 0))) (10 + (A 3).toNatClampNeg) (A (10 + (A 3).toNatClampNeg) - (pMen E A - (if pMen E A < A 0 then pMen E A else A 0)))) 4 (A 4 + A 1)
    else A
  else A
def pLv (E : zE) (A : zA) : Nat → zA
  | 0 => A
  | k + 1 => if A 2 - A 5 ≤ E 6 k then pLv E A k else if E 5 k * A 6 ≤ A 4 then pLv E A k else zu (pLv E A k) 7 (pLv E A k 7 ||| (1 <<< (Int32.ofNat k &&& 31)))
def pFree (A : zA) (g : Nat) : Bool := ! pb (A 8 ||| A 9) g && ! decide (A 3 = 10 + Int32.ofNat g)
def pMarch (E : zE) (g : Nat) : Int32 := if 1000 ≤ E 16 (E 7 g).toNatClampNeg then -1 else 2 * E 16 (E 7 g).toNatClampNeg
def pComes (E : zE) (A : zA) (g : Nat) : Int32 := if A 5 = -1 then -1 else if pMarch E g = -1 then -1 else A 5 + pMarch E g
def pThere (E : zE) (A : zA) : Int32 := bif pBS A then pMen E A else bif pRA A then E 8 (A 3 - 10).toNatClampNeg else 0
def pMeet (E : zE) (A : zA) (g : Nat) (men : Int32) : zA :=
  if E 8 g ≤ men then zu A 9 (A 9 ||| (1 <<< (Int32.ofNat g &&& 31)))
  else zu (zu A 3 (10 + Int32.ofNat g)) 7 ((1 <<< (E 0 1 &&& 31)) - 1)
def pCm (E : zE) (A : zA) : Nat → zA
  | 0 => A
  | k + 1 => bif pFree (pCm E A k) k && decide (pComes E (pCm E A k) k = pCm E A k 2) then pMeet E (pCm E A k) k (pThere E (pCm E A k)) else pCm E A k
def pGo (E : zE) (A : zA) : zA :=
  let A1 := bif pBS A then pLv E (pPay E A) (nG E) else A
  let A2 := if A1 5 = -1 then A1 else pCm E A1 (nN E)
  zu A2 2 (A2 2 + 1)
/-! ===== where they stand in the cells ===== -/
def stD (n s : Nat) (M : zM) : zA := fun k => if k < 10 then M.1 s k else if k < 10 + n then M.1 (s + 1) (k - 10) else 0
theorem stD_f {n s k : Nat} {M : zM} (h : k < 10) : stD n s M k = M.1 s k := if_pos h
theorem stD_p {n s b : Nat} {M : zM} (h : b < n) : stD n s M (10 + b) = M.1 (s + 1) b := by
  unfold stD
  rw [if_neg (by omega), if_pos (by omega), Nat.add_sub_cancel_left]
theorem stD_I {n s k : Nat} {v : Int32} {M : zM} (h : k < 10) : stD n s (zsI M s k v) = zu (stD n s M) k v := by
  funext j
  unfold stD zu
  dsimp only
  by_cases e : j = k
  · subst e; rw [if_pos h, if_pos rfl, zI_s, if_pos rfl]
  · rw [if_neg e, zI_s, if_neg e, zI_n (by omega)]
theorem stD_J {n s b : Nat} {v : Int32} {M : zM} (h : b < n) : stD n s (zsI M (s + 1) b v) = zu (stD n s M) (10 + b) v := by
  funext j
  unfold stD zu
  dsimp only
  by_cases e : j = 10 + b
  · subst e; rw [if_neg (by omega), if_pos (by omega), if_pos rfl, Nat.add_sub_cancel_left, zI_s, if_pos rfl]
  · rw [if_neg e, zI_n (by omega)]
    by_cases e2 : j < 10
    · rw [if_pos e2, if_pos e2]
    · rw [if_neg e2, if_neg e2, zI_s]
      by_cases e3 : j < 10 + n
      · rw [if_pos e3, if_pos e3, if_neg (by omega)]
      · rw [if_neg e3, if_neg e3]
theorem stD_K {n s a k : Nat} {v : Int32} {M : zM} (h1 : ¬ s = a) (h2 : ¬ s + 1 = a) : stD n s (zsI M a k v) = stD n s M := by
  funext j
  unfold stD
  rw [zI_n h1, zI_n h2]
/-- the cells of [lo, hi) may have changed, nothing else -/
def zfr (lo hi : Nat) (M M' : zM) : Prop := M'.2.2 = M.2.2 ∧ ∀ a, (a < lo ∨ hi ≤ a) → M'.1 a = M.1 a ∧ M'.2.1 a = M.2.1 a
theorem zfr_rf {lo hi : Nat} {M : zM} : zfr lo hi M M := ⟨rfl, fun _ _ => ⟨rfl, rfl⟩⟩
theorem zfr_tr {lo hi : Nat} {M M' M'' : zM} (h1 : zfr lo hi M M') (h2 : zfr lo hi M' M'') : zfr lo hi M M'' :=
  ⟨h2.1.trans h1.1, fun a ha => ⟨(h2.2 a ha).1.trans (h1.2 a ha).1, (h2.2 a ha).2.trans (h1.2 a ha).2⟩⟩
theorem zfr_up {lo hi lo' hi' : Nat} {M M' : zM} (h : zfr lo hi M M') (h1 : lo' ≤ lo) (h2 : hi ≤ hi') : zfr lo' hi' M M' :=
  ⟨h.1, fun a ha => h.2 a (by omega)⟩
theorem zfr_I {lo hi a k : Nat} {x : Int32} {M M' : zM} (h : zfr lo hi M M') (h1 : lo ≤ a) (h2 : a < hi) : zfr lo hi M (zsI M' a k x) :=
  ⟨h.1, fun b hb => ⟨(zI_n1 (by omega)).trans (h.2 b hb).1, (h.2 b hb).2⟩⟩
theorem zfr_r {lo hi a : Nat} {r : Nat → Int32} {M M' : zM} (h : zfr lo hi M M') (h1 : lo ≤ a) (h2 : a < hi) : zfr lo hi M (zrI M' a r) :=
  ⟨h.1, fun b hb => ⟨(zr_n (by omega)).trans (h.2 b hb).1, (h.2 b hb).2⟩⟩
theorem zfr_L {lo hi a k : Nat} {x : Int64} {M M' : zM} (h : zfr lo hi M M') (h1 : lo ≤ a) (h2 : a < hi) : zfr lo hi M (zsL M' a k x) :=
  ⟨h.1, fun b hb => ⟨(h.2 b hb).1, by
    have e : (zsL M' a k x).2.1 b = M'.2.1 b := by
      show zup M'.2.1 a k x b = M'.2.1 b
      exact if_neg (by omega)
    exact e.trans (h.2 b hb).2⟩⟩
theorem zfr_G {lo hi : Nat} {M M' : zM} (h : zfr lo hi M M') (hG : zGE M) : zGE M' := zGE_of hG h.1
theorem zfr_st {n lo hi s : Nat} {M M' : zM} (h : zfr lo hi M M') (h1 : s + 2 ≤ lo ∨ hi ≤ s) : stD n s M' = stD n s M := by
  funext j
  unfold stD
  rw [(h.2 s (by omega)).1, (h.2 (s + 1) (by omega)).1]
def rwD (fr to da : Nat → Int32) (a b : Nat) : Nat → Int32
  | 0 => 100000
  | i + 1 => if (((fr i).toNatClampNeg = a ∧ (to i).toNatClampNeg = b) ∨ ((fr i).toNatClampNeg = b ∧ (to i).toNatClampNeg = a)) ∧ da i < rwD fr to da a b i then da i else rwD fr to da a b i
def emD (e : Nat) (M : zM) : zE := fun r j =>
  if r = 0 then (if j < 5 then M.1 (e + 1) j else 0)
  else if r < 16 then (if r = 10 ∨ r = 11 ∨ r = 12 ∨ r = 3 ∨ r = 15 then 0 else if j < (M.1 (e + 1) ((r - 1) / 3)).toNatClampNeg then M.1 (e + 2 + r) j else 0)
  else if r < 24 then (if j < 8 then M.1 (e + 3 + r) j else 0)
  else if r < 32 then (if j < 8 then (if M.1 (e + 1) 0 = 0 then 0 else rwD (M.1 (e + 12)) (M.1 (e + 13)) (M.1 (e + 14)) (r - 24) j (M.1 (e + 1) 3).toNatClampNeg) else 0)
  else 0
theorem emD_0 {e j : Nat} {M : zM} (h : j < 5) : emD e M 0 j = M.1 (e + 1) j := by
  unfold emD; rw [if_pos rfl, if_pos h]
theorem emD_c {e r j : Nat} {M : zM} (h1 : 0 < r) (h2 : r < 16) (h3 : ¬ (r = 10 ∨ r = 11 ∨ r = 12 ∨ r = 3 ∨ r = 15)) (hj : j < (M.1 (e + 1) ((r - 1) / 3)).toNatClampNeg) : emD e M r j = M.1 (e + 2 + r) j := by
  unfold emD; rw [if_neg (by omega), if_pos h2, if_neg h3, if_pos hj]
theorem emD_w {e r j : Nat} {M : zM} (h1 : 16 ≤ r) (h2 : r < 24) (hj : j < 8) : emD e M r j = M.1 (e + 3 + r) j := by
  unfold emD; rw [if_neg (by omega), if_neg (by omega), if_pos h2, if_pos hj]
/-- numbers as they may be -/
def okE (E : zE) : Prop := (∃ k, k ≤ 1 ∧ E 0 0 = Int32.ofNat k) ∧ (∃ k, k ≤ 6 ∧ E 0 1 = Int32.ofNat k) ∧ (∃ k, k ≤ 4 ∧ E 0 2 = Int32.ofNat k) ∧ (∃ k, k ≤ 8 ∧ E 0 3 = Int32.ofNat k) ∧ (∃ k, k ≤ 4 ∧ E 0 4 = Int32.ofNat k) ∧ (∀ g, g < nN E → ∃ k, k < 8 ∧ E 7 g = Int32.ofNat k) ∧ (∀ a b, a < 8 → b < 8 → ∃ k, k ≤ 1000 ∧ E (16 + a) b = Int32.ofNat k)
/-- who may reign -/
def okR (E : zE) (r : Int32) : Prop := r = -1 ∨ (∃ k, k < nD E ∧ r = Int32.ofNat k) ∨ ∃ k, k < nN E ∧ r = Int32.ofNat (10 + k)
