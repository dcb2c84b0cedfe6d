/-! ===== the tables' words behind the links ===== -/
def zbig : List Cond := lw_tbl.filter goodWord
theorem zbig_in {w : Cond} (h : w ∈ lw_tbl) (g : goodWord w = true) : w ∈ zbig := List.mem_filter.mpr ⟨h, g⟩
theorem zbig_at {w : Cond} {k : Nat} (h : lw_tbl[k]? = some w) (g : goodWord w = true) : w ∈ zbig := zbig_in (List.mem_of_getElem? h) g
theorem zbig_good : ∀ w ∈ zbig, (w.onTables && w.keeps) = true ∨ ∃ ty, w = .arrayClass ty := fun w h => good_of_word (List.mem_filter.mp h).2
def zchk (w : Cond) (k : Nat) : Bool := decide (lw_tbl[k]? = some w) && goodWord w
theorem zchk_in {w : Cond} {k : Nat} (h : zchk w k = true) : w ∈ zbig := by
  simp only [zchk, Bool.and_eq_true, decide_eq_true_eq] at h
  exact zbig_at h.1 h.2
abbrev z4 : Type := Nat × Nat × Nat × Nat
def zfind (L : List z4) (own idx : Nat) : Option Nat := (L.find? fun q => Nat.beq q.1 own && Nat.beq q.2.1 idx).map fun q => q.2.2.1
theorem zfind_to {L : List z4} {own idx a : Nat} (h : zfind L own idx = some a) : ∃ k, (own, idx, a, k) ∈ L := by
  unfold zfind at h
  cases hf : L.find? fun q => Nat.beq q.1 own && Nat.beq q.2.1 idx with
  | none => rw [hf] at h; cases h
  | some q =>
    rw [hf] at h
    have h1 := List.mem_of_find?_eq_some hf
    have h2 := List.find?_some hf
    simp only [Bool.and_eq_true] at h2
    obtain ⟨q1, q2, q3, q4⟩ := q
    cases h
    have e1 : q1 = own := Nat.eq_of_beq_eq_true h2.1
    have e2 : q2 = idx := Nat.eq_of_beq_eq_true h2.2
    subst e1; subst e2
    exact ⟨q4, h1⟩
theorem zFL_ok : (zFL.all fun q => zchk (zFw q) q.2.2.2) = true := by decide +kernel
theorem zGL_ok : (zGL.all fun q => zchk (zGw q) q.2.2.2) = true := by decide +kernel
theorem zML_ok : (zML.all fun q => zchk (zMw q) q.2.2.2) = true := by decide +kernel
theorem zIL_ok : (zIL.all fun q => zchk (zIw q) q.2.2.2) = true := by decide +kernel
theorem zLL_ok : (zLL.all fun q => zchk (zLw q) q.2.2.2) = true := by decide +kernel
theorem zCL_ok : (zCL.all fun q => zchk (zCw q) q.2.2.2) = true := by decide +kernel
theorem zNM_ok : (zNM.all fun q => decide (lw_tbl[q.2.2.2]? = some (zNw q))) = true := by decide +kernel
/-- the texts' words are no good words (they hold of resolved entries): they are carried beside -/
theorem zSL_ok : (zSL.all fun q => decide (lw_tbl[q.2.2.2]? = some (.stringRef (zcn q.1) q.2.1 (ztxL.getD (q.2.2.1 - 1) "")))) = true := by decide +kernel
theorem zNL_ok : (zNL.all fun q => zchk (.initialized (zcn q.1)) q.2) = true := by decide +kernel
theorem zKL_ok : (zKL.all fun q => zchk (.instantiable (zcn q.1) (znf q.1)) q.2) = true := by decide +kernel
theorem zYL_all : ∀ y, y < zNY → 1 ≤ y → zYL.any (fun q => Nat.beq q.1 y) = true := by decide +kernel
theorem zNL_all : ∀ k, k < 17 → zNL.any (fun q => Nat.beq q.1 k) = true := by decide +kernel
theorem zKL_all : ∀ k, k < 13 → zKL.any (fun q => Nat.beq q.1 k) = true := by decide +kernel
theorem zPL_ok : ∀ c, c < 13 → ∀ k, k < znf c → zchk (u_lay (zcn c) (zcT c) k) ((zPL.getD c []).getD k 0) = true := by decide +kernel
theorem zcT_ok : ∀ c, c < 13 → ∀ k, k < znf c → parseFieldDescriptor (zcT c k).2.2.1 = some (zfy c k) ∧ (zcT c k).1 = zcn c := by decide +kernel
theorem zcT_apart : ∀ c, c < 13 → ∀ a, a < znf c → ∀ b, b < znf c → a ≠ b → (zcT c a).2.1 ≠ (zcT c b).2.1 := by decide +kernel
def zfk (t : Nat) (y : FieldType) : Bool := match t, y with
  | 0, .int => true
  | 1, .long => true
  | 2, .array _ => true
  | 2, .object _ => true
  | 3, .boolean => true
  | _, _ => false
theorem zft_ok : ∀ c, c < 13 → ∀ k, k < znf c → zfk (zft c k) (zfy c k) = true := by decide +kernel
theorem zsh_ok : ∀ a, a < zNC → ((zsh a).1 < 13 ∧ (zsh a).2 = znf (zsh a).1 ∨ 20 ≤ (zsh a).1 ∧ (zsh a).1 ≤ 27) ∧ (zsh a).2 ≤ 3000 := by decide +kernel
theorem zsh_out {a : Nat} (h : zNC ≤ a) : zsh a = (99, 0) := by
  unfold zsh
  have hl : zshL.length = zNC := by decide +kernel
  rw [List.getD_eq_getElem?_getD, List.getElem?_eq_none (by omega)]
  rfl
theorem zcl_at {c : Nat} (h : c < 13) : zcl[c]? = some (zcn c, zcT c, znf c) := by
  unfold zcl
  rw [List.getElem?_map, List.getElem?_range h]
  rfl
def zym (y : Nat) : Bool := plainName (zyn y).cls && decide (zcn (zoc y) = (zyn y).cls) && decide ((zyn y).cls ≠ "java/lang/invoke/MethodHandle" ∧ (zyn y).cls ≠ "java/lang/invoke/VarHandle") && decide ((parseMethodDescriptor (zyn y).desc).map (fun d => d.parameters.length) = some (zna y - (bif zstt y then 0 else 1))) && (bif zstt y then true else Nat.ble 1 (zna y)) && Nat.blt (zoc y) 17 && Nat.ble (zml y) 60
theorem zym_ok : ∀ y, y < zNY → zym y = true := by decide +kernel
theorem zci_ok : ∀ y, y < zNY → zci y = zoc y := by decide +kernel
def zrkk (k : Nat) (t : Option FieldType) : Bool := match k, t with
  | 0, none => true
  | 1, some .int => true
  | 2, some .boolean => true
  | 3, some .long => true
  | 4, some (.object _) => true
  | 4, some (.array _) => true
  | 5, some .char => true
  | 6, some .byte => true
  | _, _ => false
theorem zrk_ok : ∀ y, y < zNY → zrkk (zrk y) (zrt y) = true := by decide +kernel
theorem zin_ret : ∀ z, z < zNY → (zyn z).name = "<init>" → zrt z = none := by decide +kernel
theorem zF_in {own idx a : Nat} (h : zfind zFL own idx = some a) : ∃ k, zFw (own, idx, a, k) ∈ zbig := by
  obtain ⟨k, hk⟩ := zfind_to h
  exact ⟨k, zchk_in (List.all_eq_true.mp zFL_ok _ hk)⟩
theorem zG_in {own idx a : Nat} (h : zfind zGL own idx = some a) : ∃ k, zGw (own, idx, a, k) ∈ zbig := by
  obtain ⟨k, hk⟩ := zfind_to h
  exact ⟨k, zchk_in (List.all_eq_true.mp zGL_ok _ hk)⟩
theorem zI_in {own idx a : Nat} (h : zfind zIL own idx = some a) : ∃ k, zIw (own, idx, a, k) ∈ zbig := by
  obtain ⟨k, hk⟩ := zfind_to h
  exact ⟨k, zchk_in (List.all_eq_true.mp zIL_ok _ hk)⟩
theorem zL_in {own idx a : Nat} (h : zfind zLL own idx = some a) : ∃ k, zLw (own, idx, a, k) ∈ zbig := by
  obtain ⟨k, hk⟩ := zfind_to h
  exact ⟨k, zchk_in (List.all_eq_true.mp zLL_ok _ hk)⟩
theorem zC_in {own idx a : Nat} (h : zfind zCL own idx = some a) : ∃ k, zCw (own, idx, a, k) ∈ zbig := by
  obtain ⟨k, hk⟩ := zfind_to h
  exact ⟨k, zchk_in (List.all_eq_true.mp zCL_ok _ hk)⟩
theorem zM_in {own idx a : Nat} (h : zfind zML own idx = some a) : ∃ k, zMw (own, idx, a, k) ∈ zbig := by
  obtain ⟨k, hk⟩ := zfind_to h
  exact ⟨k, zchk_in (List.all_eq_true.mp zML_ok _ hk)⟩
theorem zN_in {k : Nat} (h : k < 17) : Cond.initialized (zcn k) ∈ zbig := by
  obtain ⟨q, h1, h2⟩ := List.any_eq_true.mp (zNL_all k h)
  have e : q.1 = k := Nat.eq_of_beq_eq_true h2
  have h3 := zchk_in (List.all_eq_true.mp zNL_ok q h1)
  rw [e] at h3
  exact h3
theorem zK_in {k : Nat} (h : k < 13) : Cond.instantiable (zcn k) (znf k) ∈ zbig := by
  obtain ⟨q, h1, h2⟩ := List.any_eq_true.mp (zKL_all k h)
  have e : q.1 = k := Nat.eq_of_beq_eq_true h2
  have h3 := zchk_in (List.all_eq_true.mp zKL_ok q h1)
  rw [e] at h3
  exact h3
theorem zP_in {c : Nat} (h : c < 13) : ∀ w ∈ u_ws (zcn c) (zcT c) (znf c), w ∈ zbig := by
  intro w hw
  obtain ⟨k, hk, rfl⟩ := List.mem_map.mp hw
  exact zchk_in (zPL_ok c h k (List.mem_range.mp hk))
theorem zarr_in : Cond.arrayClass .int ∈ zbig ∧ Cond.arrayClass .byte ∈ zbig ∧ Cond.arrayClass .boolean ∈ zbig ∧ Cond.arrayClass .long ∈ zbig := ⟨zbig_at (k := 174) (by decide +kernel) rfl, zbig_at (k := 733) (by decide +kernel) rfl, zbig_at (k := 418) (by decide +kernel) rfl, zbig_at (k := 419) (by decide +kernel) rfl⟩
theorem zover_in : Cond.arrayOver (.array .int) ∈ lw_tbl ∧ Cond.arrayOver (.object "ThroneSale$State") ∈ lw_tbl ∧ Cond.arrayOver (.object "ThroneSale$Realm") ∈ lw_tbl ∧ Cond.arrayOver (.object "ThroneSale$Rule") ∈ lw_tbl := ⟨List.mem_of_getElem? (i := 188) (by decide +kernel), List.mem_of_getElem? (i := 324) (by decide +kernel), List.mem_of_getElem? (i := 366) (by decide +kernel), List.mem_of_getElem? (i := 257) (by decide +kernel)⟩
theorem zmath_in : (Cond.static Lib.Math.min.name ∈ zbig ∧ Cond.code Lib.Math.min.name Lib.Math.min.code 2 (some .int) ∈ zbig) ∧ (Cond.static Lib.Math.max.name ∈ zbig ∧ Cond.code Lib.Math.max.name Lib.Math.max.code 2 (some .int) ∈ zbig) ∧ (Cond.static Lib.Math.abs.name ∈ zbig ∧ Cond.code Lib.Math.abs.name Lib.Math.abs.code 1 (some .int) ∈ zbig) ∧ Cond.initialized "java/lang/Math" ∈ zbig := ⟨⟨zbig_at (k := 715) (by decide +kernel) (by decide +kernel), zbig_at (k := 716) (by decide +kernel) (by decide +kernel)⟩, ⟨zbig_at (k := 675) (by decide +kernel) (by decide +kernel), zbig_at (k := 676) (by decide +kernel) (by decide +kernel)⟩, ⟨zbig_at (k := 1074) (by decide +kernel) (by decide +kernel), zbig_at (k := 1075) (by decide +kernel) (by decide +kernel)⟩, zbig_at (k := 120) (by decide +kernel) (by decide +kernel)⟩
theorem zobj_in : Cond.instanceMethod Lib.objectInit ∈ zbig ∧ Cond.code Lib.objectInit ⟨#[0xb1]⟩ 1 none ∈ zbig := ⟨zbig_at (k := 128) (by decide +kernel) (by decide +kernel), zbig_at (k := 129) (by decide +kernel) (by decide +kernel)⟩
theorem zcpy_in : Cond.native arraycopyName ∈ zbig ∧ Cond.static arraycopyName ∈ zbig ∧ Cond.initialized "java/lang/System" ∈ zbig := ⟨zbig_at (k := 727) (by decide +kernel) (by decide +kernel), zbig_at (k := 726) (by decide +kernel) (by decide +kernel), zbig_at (k := 121) (by decide +kernel) (by decide +kernel)⟩
/-! ===== the code tables are the code ===== -/
def zmd (aux : Nat) (init st : Bool) : Bool := Nat.ble 10 aux && Nat.blt (aux / 10) zNY && Nat.beq (aux % 10) (zna (aux / 10)) && (zstt (aux / 10) == st) && (decide ((zyn (aux / 10)).name = "<init>") == init)
def zcq (y : Nat) (i : Instr) (len aux pc : Nat) : Bool := match i with
  | .iconst n => Nat.beq len 1 && decide (Int32.ofInt n = zicT aux)
  | .bipush n => Nat.beq len 2 && decide ((Int8.ofInt n).toInt32 = zicT aux)
  | .sipush n => Nat.beq len 3 && decide ((Int16.ofInt n).toInt32 = zicT aux)
  | .lconst n => Nat.beq len 1 && decide (Int64.ofNat n = zlc aux)
  | .ldc idx => Nat.beq len 2 && (bif Nat.ble aux 100 then zfind zSL (zoc y) idx == some aux && Nat.ble aux znS else zfind zIL (zoc y) idx == some aux)
  | .ldc_w idx => Nat.beq len 3 && (bif Nat.ble aux 100 then zfind zSL (zoc y) idx == some aux && Nat.ble aux znS else zfind zIL (zoc y) idx == some aux)
  | .ldc2_w idx => Nat.beq len 3 && zfind zLL (zoc y) idx == some aux
  | .iload _ => Nat.beq len 2
  | .lload _ => Nat.beq len 2
  | .aload _ => Nat.beq len 2
  | .istore k => Nat.beq len 2 && Nat.blt k (zml y)
  | .istore_n k => Nat.beq len 1 && Nat.blt k (zml y)
  | .astore k => Nat.beq len 2 && Nat.blt k (zml y)
  | .astore_n k => Nat.beq len 1 && Nat.blt k (zml y)
  | .lstore k => Nat.beq len 2 && Nat.blt (k + 1) (zml y)
  | .lstore_n k => Nat.beq len 1 && Nat.blt (k + 1) (zml y)
  | .iinc k n => Nat.beq len 3 && Nat.blt k (zml y) && decide (Int32.ofInt n = zicT aux)
  | .goto off => Nat.beq len 3 && decide ((pc : Int) + off = (aux : Int))
  | .ifCond _ off => Nat.beq len 3 && decide ((pc : Int) + off = (aux : Int))
  | .if_icmp _ off => Nat.beq len 3 && decide ((pc : Int) + off = (aux : Int))
  | .ifnonnull off => Nat.beq len 3 && decide ((pc : Int) + off = (aux : Int))
  | .tableswitch d lo hi offs => decide (0 ≤ (pc : Int) + d) && offs.all (fun o => decide (0 ≤ (pc : Int) + o)) && decide ((offs.size : Int) = hi - lo + 1)
  | .lookupswitch d ps => decide (0 ≤ (pc : Int) + d) && ps.all (fun q => decide (0 ≤ (pc : Int) + q.2)) && ((ps.toList.zip (ps.toList.drop 1)).all (fun (a, next) => a.1 < next.1))
  | .getfield idx => Nat.beq len 3 && zfind zFL (zoc y) idx == some aux && (Nat.beq aux 100000 || Nat.beq aux 100001 || Nat.blt (aux / 100) 13 && Nat.blt (aux % 100) (znf (aux / 100)))
  | .putfield idx => Nat.beq len 3 && zfind zFL (zoc y) idx == some aux && Nat.blt (aux / 100) 13 && Nat.blt (aux % 100) (znf (aux / 100)) && (!(zcT (aux / 100) (aux % 100)).2.2.2 || decide ((zyn y).name = "<init>") && Nat.beq (zoc y) (aux / 100))
  | .getstatic idx => Nat.beq len 3 && zfind zGL (zoc y) idx == some aux && (Nat.ble aux 4 || Nat.beq aux 12)
  | .invokevirtual idx => Nat.beq len 3 && zmd aux false false && (zfind zML (zoc y) idx == some aux || zfind zNM (zoc y) idx == some aux)
  | .invokestatic idx => Nat.beq len 3 && (bif Nat.ble 9990 aux then zfind zML (zoc y) idx == some aux && (Nat.beq aux 9998 || Nat.beq aux 9990 || Nat.beq aux 9991 || Nat.beq aux 9992) else zmd aux false true && (zfind zML (zoc y) idx == some aux || zfind zNM (zoc y) idx == some aux))
  | .invokespecial idx => Nat.beq len 3 && (bif Nat.beq aux 9999 then zfind zML (zoc y) idx == some aux else zmd aux true false && (zfind zML (zoc y) idx == some aux || zfind zNM (zoc y) idx == some aux))
  | .new idx => Nat.beq len 3 && zfind zCL (zoc y) idx == some aux && Nat.blt aux 13
  | .newarray t => Nat.beq len 2 && (match t with | .int => Nat.beq aux 20 | .byte => Nat.beq aux 21 | .boolean => Nat.beq aux 22 | .long => Nat.beq aux 23 | _ => false)
  | .anewarray idx => Nat.beq len 3 && zfind zCL (zoc y) idx == some (zel aux) && Nat.ble 25 aux && Nat.ble aux 27
  | .multianewarray idx n => Nat.beq len 4 && Nat.beq n 2 && zfind zCL (zoc y) idx == some 124
  | .baload => Nat.beq len 1 && (Nat.beq aux 21 || Nat.beq aux 22)
  | .bastore => Nat.beq len 1 && (Nat.beq aux 21 || Nat.beq aux 22)
  | .aaload => Nat.beq len 1 && Nat.ble 24 aux && Nat.ble aux 27
  | .aastore => Nat.beq len 1 && Nat.ble 25 aux && Nat.ble aux 27
  | _ => Nat.beq len 1
noncomputable def zck (y pc : Nat) : Bool := match zt y pc with
  | none => true
  | some (i, aux) => match decode (zcd y) pc with
    | .ok (i', len) => decide (i' = i) && zcq y i len aux pc
    | .error _ => false
