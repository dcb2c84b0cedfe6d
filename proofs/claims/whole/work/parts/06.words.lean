def zyc (y : Nat) (w : Option Cond) : Bool := match w with
  | some (.code n _ m r) => decide (n = zyn y) && Nat.beq m (zml y) && decide (r = zrt y) && goodWord (.code n (.mk #[]) m r)
  | _ => false
def zyw (q : z4) : Bool := Nat.ble 1 q.1 && decide ((zyL.getD q.1 zy0).2.1 = q.2.1) && zyc q.1 lw_tbl[q.2.1]? && (bif zstt q.1 then zchk (.static (zyn q.1)) q.2.2.1 else zchk (.instanceMethod (zyn q.1)) q.2.2.1 && (decide ((zyn q.1).name = "<init>") || zchk (.selects (zyn q.1).cls (zyn q.1) (zyn q.1)) q.2.2.2))
theorem zYL0_ok : (zYL0.all zyw) = true := by decide +kernel
theorem zYL1_ok : (zYL1.all zyw) = true := by decide +kernel
theorem zYL2_ok : (zYL2.all zyw) = true := by decide +kernel
theorem zYL3_ok : (zYL3.all zyw) = true := by decide +kernel
theorem zYL4_ok : (zYL4.all zyw) = true := by decide +kernel
theorem zYL5_ok : (zYL5.all zyw) = true := by decide +kernel
theorem zYL6_ok : (zYL6.all zyw) = true := by decide +kernel
theorem zYL7_ok : (zYL7.all zyw) = true := by decide +kernel
theorem zYL8_ok : (zYL8.all zyw) = true := by decide +kernel
theorem zYL9_ok : (zYL9.all zyw) = true := by decide +kernel
theorem zYL10_ok : (zYL10.all zyw) = true := by decide +kernel
theorem zYL11_ok : (zYL11.all zyw) = true := by decide +kernel
theorem zYL12_ok : (zYL12.all zyw) = true := by decide +kernel
theorem zYL13_ok : (zYL13.all zyw) = true := by decide +kernel
theorem zYL14_ok : (zYL14.all zyw) = true := by decide +kernel
theorem zYL15_ok : (zYL15.all zyw) = true := by decide +kernel
theorem zYL_ok : (zYL.all zyw) = true := by
  unfold zYL
  simp only [List.all_append, Bool.and_eq_true]
  exact ⟨zYL0_ok, ⟨zYL1_ok, ⟨zYL2_ok, ⟨zYL3_ok, ⟨zYL4_ok, ⟨zYL5_ok, ⟨zYL6_ok, ⟨zYL7_ok, ⟨zYL8_ok, ⟨zYL9_ok, ⟨zYL10_ok, ⟨zYL11_ok, ⟨zYL12_ok, ⟨zYL13_ok, ⟨zYL14_ok, zYL15_ok⟩⟩⟩⟩⟩⟩⟩⟩⟩⟩⟩⟩⟩⟩⟩
theorem zgood_code {y : MethodName} {a b : ByteArray} {m : Nat} {r : Option FieldType} (h : goodWord (.code y a m r) = true) : goodWord (.code y b m r) = true := h
theorem zY_in {y : Nat} (h1 : 1 ≤ y) (h2 : y < zNY) : Cond.code (zyn y) (zcd y) (zml y) (zrt y) ∈ zbig ∧ (zstt y = true → Cond.static (zyn y) ∈ zbig) ∧ (zstt y = false → Cond.instanceMethod (zyn y) ∈ zbig ∧ ((zyn y).name ≠ "<init>" → Cond.selects (zyn y).cls (zyn y) (zyn y) ∈ zbig)) := by
  obtain ⟨q, g1, g2⟩ := List.any_eq_true.mp (zYL_all y h2 h1)
  have e : q.1 = y := Nat.eq_of_beq_eq_true g2
  have h3 := List.all_eq_true.mp zYL_ok q g1
  unfold zyw at h3
  rw [e] at h3
  simp only [Bool.and_eq_true, decide_eq_true_eq] at h3
  obtain ⟨⟨⟨-, h5⟩, h6⟩, h4⟩ := h3
  refine ⟨?_, fun hs => ?_, fun hs => ?_⟩
  · have h7 : zcd y = zgc lw_tbl[q.2.1]? := by
      rw [← h5]
      cases y with
      | zero => omega
      | succ k => rfl
    rw [h7]
    cases hw : lw_tbl[q.2.1]? with
    | none => rw [hw] at h6; cases h6
    | some w =>
      rw [hw] at h6
      cases w <;> try (cases h6; done)
      rename_i n b m r
      simp only [zyc, Bool.and_eq_true, decide_eq_true_eq] at h6
      obtain ⟨⟨⟨e1, e2⟩, e3⟩, e4⟩ := h6
      have e2 := Nat.eq_of_beq_eq_true e2
      subst e1; subst e2; subst e3
      exact zbig_at hw (zgood_code e4)
  · rw [hs] at h4
    exact zchk_in h4
  · rw [hs] at h4
    simp only [cond_false, Bool.and_eq_true, Bool.or_eq_true, decide_eq_true_eq] at h4
    exact ⟨zchk_in h4.1, fun hn => h4.2.elim (fun h => absurd h hn) zchk_in⟩
