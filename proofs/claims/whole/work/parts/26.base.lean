/-! ===== geometry of the cells ===== -/
def zgrL : List (List Nat) := [[1, 6, 34, 38, 1000000, 39, 112, 113, 114, 119, 129, 146], [2, 1000000, 3, 4, 5], [], [], [], [], [1, 7], [8, 9, 25], [], [10, 11, 12, 13, 14, 15, 16, 17, 18, 19, 20, 21, 22, 23, 24], [], [], [], [], [], [], [], [], [], [], [], [], [], [], [], [26, 27, 28, 29, 30, 31, 32, 33], [], [], [], [], [], [], [], [], [1, 35], [36, 37], [], [], [150, 153, 156, 159, 162, 165], [40, 67, 1000000, 1000000, 69, 1000000, 70, 71], [41, 42, 58], [], [43, 44, 45, 46, 47, 48, 49, 50, 51, 52, 53, 54, 55, 56, 57], [], [], [], [], [], [], [], [], [], [], [], [], [], [], [], [59, 60, 61, 62, 63, 64, 65, 66], [], [], [], [], [], [], [], [], [1000000, 1000000, 1000000, 1000000, 1000000, 1000000, 1000000, 1000000, 1000000, 1000000, 68], [], [], [], [], [1000000, 1000000, 1000000, 1000000, 1000000, 1000000, 1000000, 1000000, 1000000, 1000000, 73], [], [1000000, 1000000, 1000000, 1000000, 1000000, 1000000, 1000000, 1000000, 1000000, 1000000, 75], [], [1000000, 1000000, 1000000, 1000000, 1000000, 1000000, 1000000, 1000000, 1000000, 1000000, 77], [], [1000000, 1000000, 1000000, 1000000, 1000000, 1000000, 1000000, 1000000, 1000000, 1000000, 79], [], [1000000, 1000000, 1000000, 1000000, 1000000, 1000000, 1000000, 1000000, 1000000, 1000000, 81], [], [1000000, 1000000, 1000000, 1000000, 1000000, 1000000, 1000000, 1000000, 1000000, 1000000, 83], [], [1000000, 1000000, 1000000, 1000000, 1000000, 1000000, 1000000, 1000000, 1000000, 1000000, 85], [], [1000000, 1000000, 1000000, 1000000, 1000000, 1000000, 1000000, 1000000, 1000000, 1000000, 87], [], [1000000, 1000000, 1000000, 1000000, 1000000, 1000000, 1000000, 1000000, 1000000, 1000000, 89], [], [1000000, 1000000, 1000000, 1000000, 1000000, 1000000, 1000000, 1000000, 1000000, 1000000, 91], [], [1000000, 1000000, 1000000, 1000000, 1000000, 1000000, 1000000, 1000000, 1000000, 1000000, 93], [], [1000000, 1000000, 1000000, 1000000, 1000000, 1000000, 1000000, 1000000, 1000000, 1000000, 95], [], [1000000, 1000000, 1000000, 1000000, 1000000, 1000000, 1000000, 1000000, 1000000, 1000000, 97], [], [1000000, 1000000, 1000000, 1000000, 1000000, 1000000, 1000000, 1000000, 1000000, 1000000, 99], [], [1000000, 1000000, 1000000, 1000000, 1000000, 1000000, 1000000, 1000000, 1000000, 1000000, 101], [], [1000000, 1000000, 1000000, 1000000, 1000000, 1000000, 1000000, 1000000, 1000000, 1000000, 103], [], [1000000, 1000000, 1000000, 1000000, 1000000, 1000000, 1000000, 1000000, 1000000, 1000000, 105], [], [1000000, 1000000, 1000000, 1000000, 1000000, 1000000, 1000000, 1000000, 1000000, 1000000, 107], [], [1000000, 1000000, 1000000, 1000000, 1000000, 1000000, 1000000, 1000000, 1000000, 1000000, 109], [], [1000000, 1000000, 1000000, 1000000, 1000000, 1000000, 1000000, 1000000, 1000000, 1000000, 111], [], [168, 241, 314, 387], [], [115, 1000000, 1000000, 1000000, 1000000, 1000000, 1000000, 1000000, 1000000, 116, 117, 118], [], [], [], [], [120, 122, 124], [1000000, 1000000, 1000000, 1000000, 1000000, 1000000, 1000000, 1000000, 1000000, 1000000, 121], [], [1000000, 1000000, 1000000, 1000000, 1000000, 1000000, 1000000, 1000000, 1000000, 1000000, 123], [], [125, 1000000, 1000000, 1000000, 1000000, 1000000, 1000000, 1000000, 1000000, 126, 127, 128], [], [], [], [], [130, 138, 1000000, 139, 141], [131, 132, 133, 134, 135, 136, 137], [], [], [], [], [], [], [], [], [1000000, 1000000, 1000000, 1000000, 1000000, 1000000, 1000000, 1000000, 1000000, 1000000, 140], [], [142, 1000000, 1000000, 1000000, 1000000, 1000000, 1000000, 1000000, 1000000, 143, 144, 145], [], [], [], [], [147, 1000000, 1000000, 1000000, 148, 149], [], [], [], [151, 152], [], [], [154, 155], [], [], [157, 158], [], [], [160, 161], [], [], [163, 164], [], [], [166, 167], [], [], [169, 196, 1000000, 1000000, 198, 1000000, 199, 200], [170, 171, 187], [], [172, 173, 174, 175, 176, 177, 178, 179, 180, 181, 182, 183, 184, 185, 186], [], [], [], [], [], [], [], [], [], [], [], [], [], [], [], [188, 189, 190, 191, 192, 193, 194, 195], [], [], [], [], [], [], [], [], [1000000, 1000000, 1000000, 1000000, 1000000, 1000000, 1000000, 1000000, 1000000, 1000000, 197], [], [], [], [], [1000000, 1000000, 1000000, 1000000, 1000000, 1000000, 1000000, 1000000, 1000000, 1000000, 202], [], [1000000, 1000000, 1000000, 1000000, 1000000, 1000000, 1000000, 1000000, 1000000, 1000000, 204], [], [1000000, 1000000, 1000000, 1000000, 1000000, 1000000, 1000000, 1000000, 1000000, 1000000, 206], [], [1000000, 1000000, 1000000, 1000000, 1000000, 1000000, 1000000, 1000000, 1000000, 1000000, 208], [], [1000000, 1000000, 1000000, 1000000, 1000000, 1000000, 1000000, 1000000, 1000000, 1000000, 210], [], [1000000, 1000000, 1000000, 1000000, 1000000, 1000000, 1000000, 1000000, 1000000, 1000000, 212], [], [1000000, 1000000, 1000000, 1000000, 1000000, 1000000, 1000000, 1000000, 1000000, 1000000, 214], [], [1000000, 1000000, 1000000, 1000000, 1000000, 1000000, 1000000, 1000000, 1000000, 1000000, 216], [], [1000000, 1000000, 1000000, 1000000, 1000000, 1000000, 1000000, 1000000, 1000000, 1000000, 218], [], [1000000, 1000000, 1000000, 1000000, 1000000, 1000000, 1000000, 1000000, 1000000, 1000000, 220], [], [1000000, 1000000, 1000000, 1000000, 1000000, 1000000, 1000000, 1000000, 1000000, 1000000, 222], [], [1000000, 1000000, 1000000, 1000000, 1000000, 1000000, 1000000, 1000000, 1000000, 1000000, 224], [], [1000000, 1000000, 1000000, 1000000, 1000000, 1000000, 1000000, 1000000, 1000000, 1000000, 226], [], [1000000, 1000000, 1000000, 1000000, 1000000, 1000000, 1000000, 1000000, 1000000, 1000000, 228], [], [1000000, 1000000, 1000000, 1000000, 1000000, 1000000, 1000000, 1000000, 1000000, 1000000, 230], [], [1000000, 1000000, 1000000, 1000000, 1000000, 1000000, 1000000, 1000000, 1000000, 1000000, 232], [], [1000000, 1000000, 1000000, 1000000, 1000000, 1000000, 1000000, 1000000, 1000000, 1000000, 234], [], [1000000, 1000000, 1000000, 1000000, 1000000, 1000000, 1000000, 1000000, 1000000, 1000000, 236], [], [1000000, 1000000, 1000000, 1000000, 1000000, 1000000, 1000000, 1000000, 1000000, 1000000, 238], [], [1000000, 1000000, 1000000, 1000000, 1000000, 1000000, 1000000, 1000000, 1000000, 1000000, 240], [], [242, 269, 1000000, 1000000, 271, 1000000, 272, 273], [243, 244, 260], [], [245, 246, 247, 248, 249, 250, 251, 252, 253, 254, 255, 256, 257, 258, 259], [], [], [], [], [], [], [], [], [], [], [], [], [], [], [], [261, 262, 263, 264, 265, 266, 267, 268], [], [], [], [], [], [], [], [], [1000000, 1000000, 1000000, 1000000, 1000000, 1000000, 1000000, 1000000, 1000000, 1000000, 270], [], [], [], [], [1000000, 1000000, 1000000, 1000000, 1000000, 1000000, 1000000, 1000000, 1000000, 1000000, 275], [], [1000000, 1000000, 1000000, 1000000, 1000000, 1000000, 1000000, 1000000, 1000000, 1000000, 277], [], [1000000, 1000000, 1000000, 1000000, 1000000, 1000000, 1000000, 1000000, 1000000, 1000000, 279], [], [1000000, 1000000, 1000000, 1000000, 1000000, 1000000, 1000000, 1000000, 1000000, 1000000, 281], [], [1000000, 1000000, 1000000, 1000000, 1000000, 1000000, 1000000, 1000000, 1000000, 1000000, 283], [], [1000000, 1000000, 1000000, 1000000, 1000000, 1000000, 1000000, 1000000, 1000000, 1000000, 285], [], [1000000, 1000000, 1000000, 1000000, 1000000, 1000000, 1000000, 1000000, 1000000, 1000000, 287], [], [1000000, 1000000, 1000000, 1000000, 1000000, 1000000, 1000000, 1000000, 1000000, 1000000, 289], [], [1000000, 1000000, 1000000, 1000000, 1000000, 1000000, 1000000, 1000000, 1000000, 1000000, 291], [], [1000000, 1000000, 1000000, 1000000, 1000000, 1000000, 1000000, 1000000, 1000000, 1000000, 293], [], [1000000, 1000000, 1000000, 1000000, 1000000, 1000000, 1000000, 1000000, 1000000, 1000000, 295], [], [1000000, 1000000, 1000000, 1000000, 1000000, 1000000, 1000000, 1000000, 1000000, 1000000, 297], [], [1000000, 1000000, 1000000, 1000000, 1000000, 1000000, 1000000, 1000000, 1000000, 1000000, 299], [], [1000000, 1000000, 1000000, 1000000, 1000000, 1000000, 1000000, 1000000, 1000000, 1000000, 301], [], [1000000, 1000000, 1000000, 1000000, 1000000, 1000000, 1000000, 1000000, 1000000, 1000000, 303], [], [1000000, 1000000, 1000000, 1000000, 1000000, 1000000, 1000000, 1000000, 1000000, 1000000, 305], [], [1000000, 1000000, 1000000, 1000000, 1000000, 1000000, 1000000, 1000000, 1000000, 1000000, 307], [], [1000000, 1000000, 1000000, 1000000, 1000000, 1000000, 1000000, 1000000, 1000000, 1000000, 309], [], [1000000, 1000000, 1000000, 1000000, 1000000, 1000000, 1000000, 1000000, 1000000, 1000000, 311], [], [1000000, 1000000, 1000000, 1000000, 1000000, 1000000, 1000000, 1000000, 1000000, 1000000, 313], [], [315, 342, 1000000, 1000000, 344, 1000000, 345, 346], [316, 317, 333], [], [318, 319, 320, 321, 322, 323, 324, 325, 326, 327, 328, 329, 330, 331, 332], [], [], [], [], [], [], [], [], [], [], [], [], [], [], [], [334, 335, 336, 337, 338, 339, 340, 341], [], [], [], [], [], [], [], [], [1000000, 1000000, 1000000, 1000000, 1000000, 1000000, 1000000, 1000000, 1000000, 1000000, 343], [], [], [], [], [1000000, 1000000, 1000000, 1000000, 1000000, 1000000, 1000000, 1000000, 1000000, 1000000, 348], [], [1000000, 1000000, 1000000, 1000000, 1000000, 1000000, 1000000, 1000000, 1000000, 1000000, 350], [], [1000000, 1000000, 1000000, 1000000, 1000000, 1000000, 1000000, 1000000, 1000000, 1000000, 352], [], [1000000, 1000000, 1000000, 1000000, 1000000, 1000000, 1000000, 1000000, 1000000, 1000000, 354], [], [1000000, 1000000, 1000000, 1000000, 1000000, 1000000, 1000000, 1000000, 1000000, 1000000, 356], [], [1000000, 1000000, 1000000, 1000000, 1000000, 1000000, 1000000, 1000000, 1000000, 1000000, 358], [], [1000000, 1000000, 1000000, 1000000, 1000000, 1000000, 1000000, 1000000, 1000000, 1000000, 360], [], [1000000, 1000000, 1000000, 1000000, 1000000, 1000000, 1000000, 1000000, 1000000, 1000000, 362], [], [1000000, 1000000, 1000000, 1000000, 1000000, 1000000, 1000000, 1000000, 1000000, 1000000, 364], [], [1000000, 1000000, 1000000, 1000000, 1000000, 1000000, 1000000, 1000000, 1000000, 1000000, 366], [], [1000000, 1000000, 1000000, 1000000, 1000000, 1000000, 1000000, 1000000, 1000000, 1000000, 368], [], [1000000, 1000000, 1000000, 1000000, 1000000, 1000000, 1000000, 1000000, 1000000, 1000000, 370], [], [1000000, 1000000, 1000000, 1000000, 1000000, 1000000, 1000000, 1000000, 1000000, 1000000, 372], [], [1000000, 1000000, 1000000, 1000000, 1000000, 1000000, 1000000, 1000000, 1000000, 1000000, 374], [], [1000000, 1000000, 1000000, 1000000, 1000000, 1000000, 1000000, 1000000, 1000000, 1000000, 376], [], [1000000, 1000000, 1000000, 1000000, 1000000, 1000000, 1000000, 1000000, 1000000, 1000000, 378], [], [1000000, 1000000, 1000000, 1000000, 1000000, 1000000, 1000000, 1000000, 1000000, 1000000, 380], [], [1000000, 1000000, 1000000, 1000000, 1000000, 1000000, 1000000, 1000000, 1000000, 1000000, 382], [], [1000000, 1000000, 1000000, 1000000, 1000000, 1000000, 1000000, 1000000, 1000000, 1000000, 384], [], [1000000, 1000000, 1000000, 1000000, 1000000, 1000000, 1000000, 1000000, 1000000, 1000000, 386], [], [388, 415, 1000000, 1000000, 417, 1000000, 418, 419], [389, 390, 406], [], [391, 392, 393, 394, 395, 396, 397, 398, 399, 400, 401, 402, 403, 404, 405], [], [], [], [], [], [], [], [], [], [], [], [], [], [], [], [407, 408, 409, 410, 411, 412, 413, 414], [], [], [], [], [], [], [], [], [1000000, 1000000, 1000000, 1000000, 1000000, 1000000, 1000000, 1000000, 1000000, 1000000, 416], [], [], [], [], [1000000, 1000000, 1000000, 1000000, 1000000, 1000000, 1000000, 1000000, 1000000, 1000000, 421], [], [1000000, 1000000, 1000000, 1000000, 1000000, 1000000, 1000000, 1000000, 1000000, 1000000, 423], [], [1000000, 1000000, 1000000, 1000000, 1000000, 1000000, 1000000, 1000000, 1000000, 1000000, 425], [], [1000000, 1000000, 1000000, 1000000, 1000000, 1000000, 1000000, 1000000, 1000000, 1000000, 427], [], [1000000, 1000000, 1000000, 1000000, 1000000, 1000000, 1000000, 1000000, 1000000, 1000000, 429], [], [1000000, 1000000, 1000000, 1000000, 1000000, 1000000, 1000000, 1000000, 1000000, 1000000, 431], [], [1000000, 1000000, 1000000, 1000000, 1000000, 1000000, 1000000, 1000000, 1000000, 1000000, 433], [], [1000000, 1000000, 1000000, 1000000, 1000000, 1000000, 1000000, 1000000, 1000000, 1000000, 435], [], [1000000, 1000000, 1000000, 1000000, 1000000, 1000000, 1000000, 1000000, 1000000, 1000000, 437], [], [1000000, 1000000, 1000000, 1000000, 1000000, 1000000, 1000000, 1000000, 1000000, 1000000, 439], [], [1000000, 1000000, 1000000, 1000000, 1000000, 1000000, 1000000, 1000000, 1000000, 1000000, 441], [], [1000000, 1000000, 1000000, 1000000, 1000000, 1000000, 1000000, 1000000, 1000000, 1000000, 443], [], [1000000, 1000000, 1000000, 1000000, 1000000, 1000000, 1000000, 1000000, 1000000, 1000000, 445], [], [1000000, 1000000, 1000000, 1000000, 1000000, 1000000, 1000000, 1000000, 1000000, 1000000, 447], [], [1000000, 1000000, 1000000, 1000000, 1000000, 1000000, 1000000, 1000000, 1000000, 1000000, 449], [], [1000000, 1000000, 1000000, 1000000, 1000000, 1000000, 1000000, 1000000, 1000000, 1000000, 451], [], [1000000, 1000000, 1000000, 1000000, 1000000, 1000000, 1000000, 1000000, 1000000, 1000000, 453], [], [1000000, 1000000, 1000000, 1000000, 1000000, 1000000, 1000000, 1000000, 1000000, 1000000, 455], [], [1000000, 1000000, 1000000, 1000000, 1000000, 1000000, 1000000, 1000000, 1000000, 1000000, 457], [], [1000000, 1000000, 1000000, 1000000, 1000000, 1000000, 1000000, 1000000, 1000000, 1000000, 459], [], [1000000, 461, 462, 463, 464, 465, 466, 467, 468, 469, 470, 471, 472, 473, 474, 475, 476, 477, 478, 479, 480, 481, 482, 483, 484, 1000000, 1000000, 1000000, 1000000, 1000000, 1000000, 1000000, 1000000, 1000000, 1000000, 1000000, 485, 486, 487, 488, 489, 490, 491, 492, 493, 494, 495, 1000000, 1000000, 1000000, 1000000, 1000000, 496, 497, 498, 1000000, 1000000, 1000000, 499, 500, 501, 502, 503, 504], [], [], [], [], [], [], [], [], [], [], [], [], [], [], [], [], [], [], [], [], [], [], [], [], [], [], [], [], [], [], [], [], [], [], [], [], [], [], [], [], [], [], [], []]
def zgr (a k : Nat) : Nat := (zgrL.getD a []).getD k 1000000
/-- cell a is of kind c -/
def zqk (a c : Nat) : Bool := Nat.blt a 505 && Nat.beq (zsh a).1 c
theorem zqk_lt {a c : Nat} (h : zqk a c = true) : a < 505 := by
  unfold zqk at h
  rw [Bool.and_eq_true] at h
  exact Nat.blt_eq ▸ h.1
theorem zqk_sh {a c : Nat} (h : zqk a c = true) : (zsh a).1 = c := by
  unfold zqk at h
  rw [Bool.and_eq_true] at h
  exact Nat.eq_of_beq_eq_true h.2
/-- the references stand as the constructors left them; those of a row of past states may have changed places -/
def zGE (M : zM) : Prop := M.2.2.2 = 505 ∧ (∀ a k, zgr a k < 1000000 → M.2.2.1 a k = zgr a k) ∧ (∀ r, zqk r 6 = true → (∀ i, i < 20 → ∃ j, j < 20 ∧ M.2.2.1 (r + 30) i = r + 33 + 2 * j) ∧ (∀ i j, i < 20 → j < 20 → M.2.2.1 (r + 30) i = M.2.2.1 (r + 30) j → i = j))
theorem zGE_of {M M' : zM} (h : zGE M) (h2 : M'.2.2 = M.2.2) : zGE M' := by
  unfold zGE at h ⊢
  rw [h2]
  exact h
theorem zge_rd {M : zM} {a k v : Nat} (h : zGE M) (h1 : zgr a k = v) (h2 : v < 1000000) : M.2.2.1 a k = v := by
  rw [h.2.1 a k (by omega), h1]
theorem zgall (p : Nat → Bool) (h : (List.range 505).all p = true) {a : Nat} (ha : a < 505) : p a = true := (List.all_eq_true.mp h) a (List.mem_range.mpr ha)
theorem zgimp {p q : Nat → Bool} (h : (List.range 505).all (fun a => (! p a) || q a) = true) {a : Nat} (ha : a < 505) (hp : p a = true) : q a = true := by
  have h1 := zgall _ h ha
  simp only [hp, Bool.not_true, Bool.false_or] at h1
  exact h1
/-- all cells of kind c -/
def zin (c : Nat) (L : List Nat) : Prop := ∀ a, zqk a c = true → a ∈ L
theorem zin_of {c : Nat} {L : List Nat} (h : (List.range 505).all (fun a => (! zqk a c) || L.elem a) = true) : zin c L := fun a ha => by
  have h1 := zgimp h (zqk_lt ha) ha
  exact List.elem_iff.mp h1
theorem zal {p : Nat → Bool} {L : List Nat} {a : Nat} (h : L.all p = true) (ha : a ∈ L) : p a = true := (List.all_eq_true.mp h) a ha
theorem zge_rel {M : zM} {a c k o : Nat} {L : List Nat} (h : zGE M) (hc : zqk a c = true) (hL : zin c L) (ht : L.all (fun a => Nat.beq (zgr a k) (a + o) && Nat.blt (a + o) 1000000) = true) : M.2.2.1 a k = a + o := by
  have h1 := zal ht (hL a hc)
  rw [Bool.and_eq_true] at h1
  exact zge_rd h (Nat.eq_of_beq_eq_true h1.1) (Nat.blt_eq ▸ h1.2)
theorem zge_rel2 {M : zM} {a c o j u : Nat} {L : List Nat} (h : zGE M) (hc : zqk a c = true) (hL : zin c L) (ht : L.all (fun a => Nat.beq (zgr (a + o) j) (a + u) && Nat.blt (a + u) 1000000) = true) : M.2.2.1 (a + o) j = a + u := by
  have h1 := zal ht (hL a hc)
  rw [Bool.and_eq_true] at h1
  exact zge_rd h (Nat.eq_of_beq_eq_true h1.1) (Nat.blt_eq ▸ h1.2)
theorem zqk_rel {a c o t : Nat} {L : List Nat} (hc : zqk a c = true) (hL : zin c L) (ht : L.all (fun a => zqk (a + o) t) = true) : zqk (a + o) t = true := zal (p := fun a => zqk (a + o) t) ht (hL a hc)
theorem zln_rel {a c o n : Nat} {L : List Nat} (hc : zqk a c = true) (hL : zin c L) (ht : L.all (fun a => Nat.beq (zln (a + o)) n) = true) : zln (a + o) = n := Nat.eq_of_beq_eq_true (zal (p := fun a => Nat.beq (zln (a + o)) n) ht (hL a hc))
theorem zge_rel3 {M : zM} {a c o n i u : Nat} {L : List Nat} (h : zGE M) (hc : zqk a c = true) (hL : zin c L) (hi : i < n) (ht : L.all (fun a => (List.range n).all (fun i => Nat.beq (zgr (a + o) i) (a + u + i) && Nat.blt (a + u + i) 1000000)) = true) : M.2.2.1 (a + o) i = a + u + i := by
  have h1 := (List.all_eq_true.mp (zal ht (hL a hc))) i (List.mem_range.mpr hi)
  rw [Bool.and_eq_true] at h1
  exact zge_rd h (Nat.eq_of_beq_eq_true h1.1) (Nat.blt_eq ▸ h1.2)
theorem zqk_rel3 {a c n i u t : Nat} {L : List Nat} (hc : zqk a c = true) (hL : zin c L) (hi : i < n) (ht : L.all (fun a => (List.range n).all (fun i => zqk (a + u + i) t)) = true) : zqk (a + u + i) t = true := (List.all_eq_true.mp (zal (p := fun a => (List.range n).all (fun i => zqk (a + u + i) t)) ht (hL a hc))) i (List.mem_range.mpr hi)
theorem zln_rel3 {a c n i u m : Nat} {L : List Nat} (hc : zqk a c = true) (hL : zin c L) (hi : i < n) (ht : L.all (fun a => (List.range n).all (fun i => Nat.beq (zln (a + u + i)) m)) = true) : zln (a + u + i) = m := Nat.eq_of_beq_eq_true ((List.all_eq_true.mp (zal (p := fun a => (List.range n).all (fun i => Nat.beq (zln (a + u + i)) m)) ht (hL a hc))) i (List.mem_range.mpr hi))
theorem zis_q {M : zM} {a c : Nat} (h : zGE M) (hq : zqk a c = true) : zis M a c := ⟨by have := h.1; have := zqk_lt hq; omega, zqk_sh hq⟩
theorem zGE_I {M : zM} {a k : Nat} {x : Int32} : zGE (zsI M a k x) = zGE M := rfl
theorem zGE_L {M : zM} {a k : Nat} {x : Int64} : zGE (zsL M a k x) = zGE M := rfl
theorem zGE_r {M : zM} {a : Nat} {r : Nat → Int32} : zGE (zrI M a r) = zGE M := rfl
theorem zis_I {M : zM} {a k b c : Nat} {x : Int32} : zis (zsI M a k x) b c = zis M b c := rfl
theorem zis_L {M : zM} {a k b c : Nat} {x : Int64} : zis (zsL M a k x) b c = zis M b c := rfl
theorem zis_r {M : zM} {a b c : Nat} {r : Nat → Int32} : zis (zrI M a r) b c = zis M b c := rfl
theorem z2_I {M : zM} {a k : Nat} {x : Int32} : (zsI M a k x).2 = M.2 := rfl
theorem z2_r {M : zM} {a : Nat} {r : Nat → Int32} : (zrI M a r).2 = M.2 := rfl
theorem z22_L {M : zM} {a k : Nat} {x : Int64} : (zsL M a k x).2.2 = M.2.2 := rfl
theorem z1_L {M : zM} {a k : Nat} {x : Int64} : (zsL M a k x).1 = M.1 := rfl
theorem zI_s {M : zM} {a k j : Nat} {x : Int32} : (zsI M a k x).1 a j = if j = k then x else M.1 a j := by simp [zsI, zup]
theorem zI_n {M : zM} {a b k j : Nat} {x : Int32} (h : ¬ b = a) : (zsI M a k x).1 b j = M.1 b j := by simp [zsI, zup, h]
theorem zI_n1 {M : zM} {a b k : Nat} {x : Int32} (h : ¬ b = a) : (zsI M a k x).1 b = M.1 b := by simp [zsI, zup, h]
theorem zI_s1 {M : zM} {a k : Nat} {x : Int32} : (zsI M a k x).1 a = fun j => if j = k then x else M.1 a j := by simp [zsI, zup]
theorem zL_s {M : zM} {a k j : Nat} {x : Int64} : (zsL M a k x).2.1 a j = if j = k then x else M.2.1 a j := by simp [zsL, zup]
theorem zL_n {M : zM} {a b k j : Nat} {x : Int64} (h : ¬ b = a) : (zsL M a k x).2.1 b j = M.2.1 b j := by simp [zsL, zup, h]
theorem zr_s {M : zM} {a : Nat} {r : Nat → Int32} : (zrI M a r).1 a = r := by simp [zrI, zro]
theorem zr_n {M : zM} {a b : Nat} {r : Nat → Int32} (h : ¬ b = a) : (zrI M a r).1 b = M.1 b := by simp [zrI, zro, h]
theorem vp_iff {x : Int32} {n : Nat} : vp_in x n ↔ ¬ x < 0 ∧ ¬ n ≤ x.toNatClampNeg := by unfold vp_in; exact not_or
theorem toNat_of {k : Nat} (h : k < 2147483648) : (Int32.ofNat k).toNatClampNeg = k := by
  rw [Int32.toNatClampNeg, Int32.toInt_ofNat_of_lt h]; rfl
theorem of_lt {j k : Nat} (hj : j < 2147483648) (hk : k < 2147483648) : (Int32.ofNat j < Int32.ofNat k) ↔ j < k := by
  rw [Int32.lt_iff_toInt_lt, Int32.toInt_ofNat_of_lt hj, Int32.toInt_ofNat_of_lt hk]; omega
theorem of_le {j k : Nat} (hj : j < 2147483648) (hk : k < 2147483648) : (Int32.ofNat j ≤ Int32.ofNat k) ↔ j ≤ k := by
  rw [Int32.le_iff_toInt_le, Int32.toInt_ofNat_of_lt hj, Int32.toInt_ofNat_of_lt hk]; omega
theorem of_inj {j k : Nat} (hj : j < 2147483648) (hk : k < 2147483648) : (Int32.ofNat j = Int32.ofNat k) ↔ j = k := by
  constructor
  · intro h
    have h1 := congrArg Int32.toInt h
    rw [Int32.toInt_ofNat_of_lt hj, Int32.toInt_ofNat_of_lt hk] at h1
    omega
  · intro h; rw [h]
theorem of_succ (k : Nat) : Int32.ofNat k + 1 = Int32.ofNat (k + 1) := by rw [Int32.ofNat_add]; rfl
theorem vp_of {k n : Nat} (h : k < n) (hn : n ≤ 100000) : vp_in (Int32.ofNat k) n := by
  rw [vp_iff, toNat_of (by omega)]
  refine ⟨?_, by omega⟩
  have h0 : (0 : Int32) = Int32.ofNat 0 := rfl
  rw [h0, of_lt (by omega) (by omega)]
  omega
theorem lt_q {a j : Nat} (h : a < 505) (hj : j ≤ 900000) : a + j < 1000000 := by omega
theorem lt_q0 {a : Nat} (h : a < 505) : a < 1000000 := by omega
theorem lt_qi {a u i : Nat} (h : a < 505) (hi : i < 1000) (hu : u ≤ 900000) : a + u + i < 1000000 := by omega

theorem zq_0 : zqk 0 11 = true := by decide +kernel
theorem zq_1 : zqk 1 10 = true := by decide +kernel
theorem zq_2 : zqk 2 20 = true := by decide +kernel
theorem zq_3 : zqk 3 20 = true := by decide +kernel
theorem zq_4 : zqk 4 20 = true := by decide +kernel
theorem zq_5 : zqk 5 20 = true := by decide +kernel
theorem zq_6 : zqk 6 2 = true := by decide +kernel
theorem zq_7 : zqk 7 1 = true := by decide +kernel
theorem zq_8 : zqk 8 20 = true := by decide +kernel
theorem zq_9 : zqk 9 24 = true := by decide +kernel
theorem zq_10 : zqk 10 20 = true := by decide +kernel
theorem zq_11 : zqk 11 20 = true := by decide +kernel
theorem zq_12 : zqk 12 20 = true := by decide +kernel
theorem zq_13 : zqk 13 20 = true := by decide +kernel
theorem zq_14 : zqk 14 20 = true := by decide +kernel
theorem zq_15 : zqk 15 20 = true := by decide +kernel
theorem zq_16 : zqk 16 20 = true := by decide +kernel
theorem zq_17 : zqk 17 20 = true := by decide +kernel
theorem zq_18 : zqk 18 20 = true := by decide +kernel
theorem zq_19 : zqk 19 20 = true := by decide +kernel
theorem zq_20 : zqk 20 20 = true := by decide +kernel
theorem zq_21 : zqk 21 20 = true := by decide +kernel
theorem zq_22 : zqk 22 20 = true := by decide +kernel
theorem zq_23 : zqk 23 20 = true := by decide +kernel
theorem zq_24 : zqk 24 20 = true := by decide +kernel
theorem zq_25 : zqk 25 24 = true := by decide +kernel
theorem zq_26 : zqk 26 20 = true := by decide +kernel
theorem zq_27 : zqk 27 20 = true := by decide +kernel
theorem zq_28 : zqk 28 20 = true := by decide +kernel
theorem zq_29 : zqk 29 20 = true := by decide +kernel
theorem zq_30 : zqk 30 20 = true := by decide +kernel
theorem zq_31 : zqk 31 20 = true := by decide +kernel
theorem zq_32 : zqk 32 20 = true := by decide +kernel
theorem zq_33 : zqk 33 20 = true := by decide +kernel
theorem zq_34 : zqk 34 8 = true := by decide +kernel
theorem zq_35 : zqk 35 7 = true := by decide +kernel
theorem zq_36 : zqk 36 20 = true := by decide +kernel
theorem zq_37 : zqk 37 20 = true := by decide +kernel
theorem zq_38 : zqk 38 27 = true := by decide +kernel
theorem zq_39 : zqk 39 6 = true := by decide +kernel
theorem zq_40 : zqk 40 1 = true := by decide +kernel
theorem zq_41 : zqk 41 20 = true := by decide +kernel
theorem zq_42 : zqk 42 24 = true := by decide +kernel
theorem zq_43 : zqk 43 20 = true := by decide +kernel
theorem zq_44 : zqk 44 20 = true := by decide +kernel
theorem zq_45 : zqk 45 20 = true := by decide +kernel
theorem zq_46 : zqk 46 20 = true := by decide +kernel
theorem zq_47 : zqk 47 20 = true := by decide +kernel
theorem zq_48 : zqk 48 20 = true := by decide +kernel
theorem zq_49 : zqk 49 20 = true := by decide +kernel
theorem zq_50 : zqk 50 20 = true := by decide +kernel
theorem zq_51 : zqk 51 20 = true := by decide +kernel
theorem zq_52 : zqk 52 20 = true := by decide +kernel
theorem zq_53 : zqk 53 20 = true := by decide +kernel
theorem zq_54 : zqk 54 20 = true := by decide +kernel
theorem zq_55 : zqk 55 20 = true := by decide +kernel
theorem zq_56 : zqk 56 20 = true := by decide +kernel
theorem zq_57 : zqk 57 20 = true := by decide +kernel
theorem zq_58 : zqk 58 24 = true := by decide +kernel
theorem zq_59 : zqk 59 20 = true := by decide +kernel
theorem zq_60 : zqk 60 20 = true := by decide +kernel
theorem zq_61 : zqk 61 20 = true := by decide +kernel
theorem zq_62 : zqk 62 20 = true := by decide +kernel
theorem zq_63 : zqk 63 20 = true := by decide +kernel
theorem zq_64 : zqk 64 20 = true := by decide +kernel
theorem zq_65 : zqk 65 20 = true := by decide +kernel
theorem zq_66 : zqk 66 20 = true := by decide +kernel
theorem zq_67 : zqk 67 9 = true := by decide +kernel
theorem zq_68 : zqk 68 20 = true := by decide +kernel
theorem zq_69 : zqk 69 25 = true := by decide +kernel
theorem zq_70 : zqk 70 20 = true := by decide +kernel
theorem zq_71 : zqk 71 20 = true := by decide +kernel
theorem zq_72 : zqk 72 9 = true := by decide +kernel
theorem zq_73 : zqk 73 20 = true := by decide +kernel
theorem zq_74 : zqk 74 9 = true := by decide +kernel
theorem zq_75 : zqk 75 20 = true := by decide +kernel
theorem zq_76 : zqk 76 9 = true := by decide +kernel
theorem zq_77 : zqk 77 20 = true := by decide +kernel
theorem zq_78 : zqk 78 9 = true := by decide +kernel
theorem zq_79 : zqk 79 20 = true := by decide +kernel
theorem zq_80 : zqk 80 9 = true := by decide +kernel
theorem zq_81 : zqk 81 20 = true := by decide +kernel
theorem zq_82 : zqk 82 9 = true := by decide +kernel
theorem zq_83 : zqk 83 20 = true := by decide +kernel
theorem zq_84 : zqk 84 9 = true := by decide +kernel
theorem zq_85 : zqk 85 20 = true := by decide +kernel
theorem zq_86 : zqk 86 9 = true := by decide +kernel
theorem zq_87 : zqk 87 20 = true := by decide +kernel
theorem zq_88 : zqk 88 9 = true := by decide +kernel
theorem zq_89 : zqk 89 20 = true := by decide +kernel
theorem zq_90 : zqk 90 9 = true := by decide +kernel
theorem zq_91 : zqk 91 20 = true := by decide +kernel
theorem zq_92 : zqk 92 9 = true := by decide +kernel
theorem zq_93 : zqk 93 20 = true := by decide +kernel
theorem zq_94 : zqk 94 9 = true := by decide +kernel
theorem zq_95 : zqk 95 20 = true := by decide +kernel
theorem zq_96 : zqk 96 9 = true := by decide +kernel
theorem zq_97 : zqk 97 20 = true := by decide +kernel
theorem zq_98 : zqk 98 9 = true := by decide +kernel
theorem zq_99 : zqk 99 20 = true := by decide +kernel
theorem zq_100 : zqk 100 9 = true := by decide +kernel
theorem zq_101 : zqk 101 20 = true := by decide +kernel
theorem zq_102 : zqk 102 9 = true := by decide +kernel
theorem zq_103 : zqk 103 20 = true := by decide +kernel
theorem zq_104 : zqk 104 9 = true := by decide +kernel
theorem zq_105 : zqk 105 20 = true := by decide +kernel
theorem zq_106 : zqk 106 9 = true := by decide +kernel
theorem zq_107 : zqk 107 20 = true := by decide +kernel
theorem zq_108 : zqk 108 9 = true := by decide +kernel
theorem zq_109 : zqk 109 20 = true := by decide +kernel
theorem zq_110 : zqk 110 9 = true := by decide +kernel
theorem zq_111 : zqk 111 20 = true := by decide +kernel
theorem zq_112 : zqk 112 26 = true := by decide +kernel
theorem zq_113 : zqk 113 22 = true := by decide +kernel
theorem zq_114 : zqk 114 0 = true := by decide +kernel
theorem zq_115 : zqk 115 20 = true := by decide +kernel
theorem zq_116 : zqk 116 22 = true := by decide +kernel
theorem zq_117 : zqk 117 20 = true := by decide +kernel
theorem zq_118 : zqk 118 23 = true := by decide +kernel
theorem zq_119 : zqk 119 3 = true := by decide +kernel
theorem zq_120 : zqk 120 9 = true := by decide +kernel
theorem zq_121 : zqk 121 20 = true := by decide +kernel
theorem zq_122 : zqk 122 9 = true := by decide +kernel
theorem zq_123 : zqk 123 20 = true := by decide +kernel
theorem zq_124 : zqk 124 0 = true := by decide +kernel
theorem zq_125 : zqk 125 20 = true := by decide +kernel
theorem zq_126 : zqk 126 22 = true := by decide +kernel
theorem zq_127 : zqk 127 20 = true := by decide +kernel
theorem zq_128 : zqk 128 23 = true := by decide +kernel
theorem zq_129 : zqk 129 4 = true := by decide +kernel
theorem zq_130 : zqk 130 24 = true := by decide +kernel
theorem zq_131 : zqk 131 20 = true := by decide +kernel
theorem zq_132 : zqk 132 20 = true := by decide +kernel
theorem zq_133 : zqk 133 20 = true := by decide +kernel
theorem zq_134 : zqk 134 20 = true := by decide +kernel
theorem zq_135 : zqk 135 20 = true := by decide +kernel
theorem zq_136 : zqk 136 20 = true := by decide +kernel
theorem zq_137 : zqk 137 20 = true := by decide +kernel
theorem zq_138 : zqk 138 22 = true := by decide +kernel
theorem zq_139 : zqk 139 9 = true := by decide +kernel
theorem zq_140 : zqk 140 20 = true := by decide +kernel
theorem zq_141 : zqk 141 0 = true := by decide +kernel
theorem zq_142 : zqk 142 20 = true := by decide +kernel
theorem zq_143 : zqk 143 22 = true := by decide +kernel
theorem zq_144 : zqk 144 20 = true := by decide +kernel
theorem zq_145 : zqk 145 23 = true := by decide +kernel
theorem zq_146 : zqk 146 5 = true := by decide +kernel
theorem zq_147 : zqk 147 20 = true := by decide +kernel
theorem zq_148 : zqk 148 20 = true := by decide +kernel
theorem zq_149 : zqk 149 20 = true := by decide +kernel
theorem zq_150 : zqk 150 7 = true := by decide +kernel
theorem zq_151 : zqk 151 20 = true := by decide +kernel
theorem zq_152 : zqk 152 20 = true := by decide +kernel
theorem zq_153 : zqk 153 7 = true := by decide +kernel
theorem zq_154 : zqk 154 20 = true := by decide +kernel
theorem zq_155 : zqk 155 20 = true := by decide +kernel
theorem zq_156 : zqk 156 7 = true := by decide +kernel
theorem zq_157 : zqk 157 20 = true := by decide +kernel
theorem zq_158 : zqk 158 20 = true := by decide +kernel
theorem zq_159 : zqk 159 7 = true := by decide +kernel
theorem zq_160 : zqk 160 20 = true := by decide +kernel
theorem zq_161 : zqk 161 20 = true := by decide +kernel
theorem zq_162 : zqk 162 7 = true := by decide +kernel
theorem zq_163 : zqk 163 20 = true := by decide +kernel
theorem zq_164 : zqk 164 20 = true := by decide +kernel
theorem zq_165 : zqk 165 7 = true := by decide +kernel
theorem zq_166 : zqk 166 20 = true := by decide +kernel
theorem zq_167 : zqk 167 20 = true := by decide +kernel
theorem zq_168 : zqk 168 6 = true := by decide +kernel
theorem zq_169 : zqk 169 1 = true := by decide +kernel
theorem zq_170 : zqk 170 20 = true := by decide +kernel
theorem zq_171 : zqk 171 24 = true := by decide +kernel
theorem zq_172 : zqk 172 20 = true := by decide +kernel
theorem zq_173 : zqk 173 20 = true := by decide +kernel
theorem zq_174 : zqk 174 20 = true := by decide +kernel
theorem zq_175 : zqk 175 20 = true := by decide +kernel
theorem zq_176 : zqk 176 20 = true := by decide +kernel
theorem zq_177 : zqk 177 20 = true := by decide +kernel
theorem zq_178 : zqk 178 20 = true := by decide +kernel
theorem zq_179 : zqk 179 20 = true := by decide +kernel
theorem zq_180 : zqk 180 20 = true := by decide +kernel
theorem zq_181 : zqk 181 20 = true := by decide +kernel
theorem zq_182 : zqk 182 20 = true := by decide +kernel
theorem zq_183 : zqk 183 20 = true := by decide +kernel
theorem zq_184 : zqk 184 20 = true := by decide +kernel
theorem zq_185 : zqk 185 20 = true := by decide +kernel
theorem zq_186 : zqk 186 20 = true := by decide +kernel
theorem zq_187 : zqk 187 24 = true := by decide +kernel
theorem zq_188 : zqk 188 20 = true := by decide +kernel
theorem zq_189 : zqk 189 20 = true := by decide +kernel
theorem zq_190 : zqk 190 20 = true := by decide +kernel
theorem zq_191 : zqk 191 20 = true := by decide +kernel
theorem zq_192 : zqk 192 20 = true := by decide +kernel
theorem zq_193 : zqk 193 20 = true := by decide +kernel
theorem zq_194 : zqk 194 20 = true := by decide +kernel
theorem zq_195 : zqk 195 20 = true := by decide +kernel
theorem zq_196 : zqk 196 9 = true := by decide +kernel
theorem zq_197 : zqk 197 20 = true := by decide +kernel
theorem zq_198 : zqk 198 25 = true := by decide +kernel
theorem zq_199 : zqk 199 20 = true := by decide +kernel
theorem zq_200 : zqk 200 20 = true := by decide +kernel
theorem zq_201 : zqk 201 9 = true := by decide +kernel
theorem zq_202 : zqk 202 20 = true := by decide +kernel
theorem zq_203 : zqk 203 9 = true := by decide +kernel
theorem zq_204 : zqk 204 20 = true := by decide +kernel
theorem zq_205 : zqk 205 9 = true := by decide +kernel
theorem zq_206 : zqk 206 20 = true := by decide +kernel
theorem zq_207 : zqk 207 9 = true := by decide +kernel
theorem zq_208 : zqk 208 20 = true := by decide +kernel
theorem zq_209 : zqk 209 9 = true := by decide +kernel
theorem zq_210 : zqk 210 20 = true := by decide +kernel
theorem zq_211 : zqk 211 9 = true := by decide +kernel
theorem zq_212 : zqk 212 20 = true := by decide +kernel
theorem zq_213 : zqk 213 9 = true := by decide +kernel
theorem zq_214 : zqk 214 20 = true := by decide +kernel
theorem zq_215 : zqk 215 9 = true := by decide +kernel
theorem zq_216 : zqk 216 20 = true := by decide +kernel
theorem zq_217 : zqk 217 9 = true := by decide +kernel
theorem zq_218 : zqk 218 20 = true := by decide +kernel
theorem zq_219 : zqk 219 9 = true := by decide +kernel
theorem zq_220 : zqk 220 20 = true := by decide +kernel
theorem zq_221 : zqk 221 9 = true := by decide +kernel
theorem zq_222 : zqk 222 20 = true := by decide +kernel
theorem zq_223 : zqk 223 9 = true := by decide +kernel
theorem zq_224 : zqk 224 20 = true := by decide +kernel
theorem zq_225 : zqk 225 9 = true := by decide +kernel
theorem zq_226 : zqk 226 20 = true := by decide +kernel
theorem zq_227 : zqk 227 9 = true := by decide +kernel
theorem zq_228 : zqk 228 20 = true := by decide +kernel
theorem zq_229 : zqk 229 9 = true := by decide +kernel
theorem zq_230 : zqk 230 20 = true := by decide +kernel
theorem zq_231 : zqk 231 9 = true := by decide +kernel
theorem zq_232 : zqk 232 20 = true := by decide +kernel
theorem zq_233 : zqk 233 9 = true := by decide +kernel
theorem zq_234 : zqk 234 20 = true := by decide +kernel
theorem zq_235 : zqk 235 9 = true := by decide +kernel
theorem zq_236 : zqk 236 20 = true := by decide +kernel
theorem zq_237 : zqk 237 9 = true := by decide +kernel
theorem zq_238 : zqk 238 20 = true := by decide +kernel
theorem zq_239 : zqk 239 9 = true := by decide +kernel
theorem zq_240 : zqk 240 20 = true := by decide +kernel
theorem zq_241 : zqk 241 6 = true := by decide +kernel
theorem zq_242 : zqk 242 1 = true := by decide +kernel
theorem zq_243 : zqk 243 20 = true := by decide +kernel
theorem zq_244 : zqk 244 24 = true := by decide +kernel
theorem zq_245 : zqk 245 20 = true := by decide +kernel
theorem zq_246 : zqk 246 20 = true := by decide +kernel
theorem zq_247 : zqk 247 20 = true := by decide +kernel
theorem zq_248 : zqk 248 20 = true := by decide +kernel
theorem zq_249 : zqk 249 20 = true := by decide +kernel
theorem zq_250 : zqk 250 20 = true := by decide +kernel
theorem zq_251 : zqk 251 20 = true := by decide +kernel
theorem zq_252 : zqk 252 20 = true := by decide +kernel
theorem zq_253 : zqk 253 20 = true := by decide +kernel
theorem zq_254 : zqk 254 20 = true := by decide +kernel
theorem zq_255 : zqk 255 20 = true := by decide +kernel
theorem zq_256 : zqk 256 20 = true := by decide +kernel
theorem zq_257 : zqk 257 20 = true := by decide +kernel
theorem zq_258 : zqk 258 20 = true := by decide +kernel
theorem zq_259 : zqk 259 20 = true := by decide +kernel
theorem zq_260 : zqk 260 24 = true := by decide +kernel
theorem zq_261 : zqk 261 20 = true := by decide +kernel
theorem zq_262 : zqk 262 20 = true := by decide +kernel
theorem zq_263 : zqk 263 20 = true := by decide +kernel
theorem zq_264 : zqk 264 20 = true := by decide +kernel
theorem zq_265 : zqk 265 20 = true := by decide +kernel
theorem zq_266 : zqk 266 20 = true := by decide +kernel
theorem zq_267 : zqk 267 20 = true := by decide +kernel
theorem zq_268 : zqk 268 20 = true := by decide +kernel
theorem zq_269 : zqk 269 9 = true := by decide +kernel
theorem zq_270 : zqk 270 20 = true := by decide +kernel
theorem zq_271 : zqk 271 25 = true := by decide +kernel
theorem zq_272 : zqk 272 20 = true := by decide +kernel
theorem zq_273 : zqk 273 20 = true := by decide +kernel
theorem zq_274 : zqk 274 9 = true := by decide +kernel
theorem zq_275 : zqk 275 20 = true := by decide +kernel
theorem zq_276 : zqk 276 9 = true := by decide +kernel
theorem zq_277 : zqk 277 20 = true := by decide +kernel
theorem zq_278 : zqk 278 9 = true := by decide +kernel
theorem zq_279 : zqk 279 20 = true := by decide +kernel
theorem zq_280 : zqk 280 9 = true := by decide +kernel
theorem zq_281 : zqk 281 20 = true := by decide +kernel
theorem zq_282 : zqk 282 9 = true := by decide +kernel
theorem zq_283 : zqk 283 20 = true := by decide +kernel
theorem zq_284 : zqk 284 9 = true := by decide +kernel
theorem zq_285 : zqk 285 20 = true := by decide +kernel
theorem zq_286 : zqk 286 9 = true := by decide +kernel
theorem zq_287 : zqk 287 20 = true := by decide +kernel
theorem zq_288 : zqk 288 9 = true := by decide +kernel
theorem zq_289 : zqk 289 20 = true := by decide +kernel
theorem zq_290 : zqk 290 9 = true := by decide +kernel
theorem zq_291 : zqk 291 20 = true := by decide +kernel
theorem zq_292 : zqk 292 9 = true := by decide +kernel
theorem zq_293 : zqk 293 20 = true := by decide +kernel
theorem zq_294 : zqk 294 9 = true := by decide +kernel
theorem zq_295 : zqk 295 20 = true := by decide +kernel
theorem zq_296 : zqk 296 9 = true := by decide +kernel
theorem zq_297 : zqk 297 20 = true := by decide +kernel
theorem zq_298 : zqk 298 9 = true := by decide +kernel
theorem zq_299 : zqk 299 20 = true := by decide +kernel
theorem zq_300 : zqk 300 9 = true := by decide +kernel
theorem zq_301 : zqk 301 20 = true := by decide +kernel
theorem zq_302 : zqk 302 9 = true := by decide +kernel
theorem zq_303 : zqk 303 20 = true := by decide +kernel
theorem zq_304 : zqk 304 9 = true := by decide +kernel
theorem zq_305 : zqk 305 20 = true := by decide +kernel
theorem zq_306 : zqk 306 9 = true := by decide +kernel
theorem zq_307 : zqk 307 20 = true := by decide +kernel
theorem zq_308 : zqk 308 9 = true := by decide +kernel
theorem zq_309 : zqk 309 20 = true := by decide +kernel
theorem zq_310 : zqk 310 9 = true := by decide +kernel
theorem zq_311 : zqk 311 20 = true := by decide +kernel
theorem zq_312 : zqk 312 9 = true := by decide +kernel
theorem zq_313 : zqk 313 20 = true := by decide +kernel
theorem zq_314 : zqk 314 6 = true := by decide +kernel
theorem zq_315 : zqk 315 1 = true := by decide +kernel
theorem zq_316 : zqk 316 20 = true := by decide +kernel
theorem zq_317 : zqk 317 24 = true := by decide +kernel
theorem zq_318 : zqk 318 20 = true := by decide +kernel
theorem zq_319 : zqk 319 20 = true := by decide +kernel
theorem zq_320 : zqk 320 20 = true := by decide +kernel
theorem zq_321 : zqk 321 20 = true := by decide +kernel
theorem zq_322 : zqk 322 20 = true := by decide +kernel
theorem zq_323 : zqk 323 20 = true := by decide +kernel
theorem zq_324 : zqk 324 20 = true := by decide +kernel
theorem zq_325 : zqk 325 20 = true := by decide +kernel
theorem zq_326 : zqk 326 20 = true := by decide +kernel
theorem zq_327 : zqk 327 20 = true := by decide +kernel
theorem zq_328 : zqk 328 20 = true := by decide +kernel
theorem zq_329 : zqk 329 20 = true := by decide +kernel
theorem zq_330 : zqk 330 20 = true := by decide +kernel
theorem zq_331 : zqk 331 20 = true := by decide +kernel
theorem zq_332 : zqk 332 20 = true := by decide +kernel
theorem zq_333 : zqk 333 24 = true := by decide +kernel
theorem zq_334 : zqk 334 20 = true := by decide +kernel
theorem zq_335 : zqk 335 20 = true := by decide +kernel
theorem zq_336 : zqk 336 20 = true := by decide +kernel
theorem zq_337 : zqk 337 20 = true := by decide +kernel
theorem zq_338 : zqk 338 20 = true := by decide +kernel
theorem zq_339 : zqk 339 20 = true := by decide +kernel
theorem zq_340 : zqk 340 20 = true := by decide +kernel
theorem zq_341 : zqk 341 20 = true := by decide +kernel
theorem zq_342 : zqk 342 9 = true := by decide +kernel
theorem zq_343 : zqk 343 20 = true := by decide +kernel
theorem zq_344 : zqk 344 25 = true := by decide +kernel
theorem zq_345 : zqk 345 20 = true := by decide +kernel
theorem zq_346 : zqk 346 20 = true := by decide +kernel
theorem zq_347 : zqk 347 9 = true := by decide +kernel
theorem zq_348 : zqk 348 20 = true := by decide +kernel
theorem zq_349 : zqk 349 9 = true := by decide +kernel
theorem zq_350 : zqk 350 20 = true := by decide +kernel
theorem zq_351 : zqk 351 9 = true := by decide +kernel
theorem zq_352 : zqk 352 20 = true := by decide +kernel
theorem zq_353 : zqk 353 9 = true := by decide +kernel
theorem zq_354 : zqk 354 20 = true := by decide +kernel
theorem zq_355 : zqk 355 9 = true := by decide +kernel
theorem zq_356 : zqk 356 20 = true := by decide +kernel
theorem zq_357 : zqk 357 9 = true := by decide +kernel
theorem zq_358 : zqk 358 20 = true := by decide +kernel
theorem zq_359 : zqk 359 9 = true := by decide +kernel
theorem zq_360 : zqk 360 20 = true := by decide +kernel
theorem zq_361 : zqk 361 9 = true := by decide +kernel
theorem zq_362 : zqk 362 20 = true := by decide +kernel
theorem zq_363 : zqk 363 9 = true := by decide +kernel
theorem zq_364 : zqk 364 20 = true := by decide +kernel
theorem zq_365 : zqk 365 9 = true := by decide +kernel
theorem zq_366 : zqk 366 20 = true := by decide +kernel
theorem zq_367 : zqk 367 9 = true := by decide +kernel
theorem zq_368 : zqk 368 20 = true := by decide +kernel
theorem zq_369 : zqk 369 9 = true := by decide +kernel
theorem zq_370 : zqk 370 20 = true := by decide +kernel
theorem zq_371 : zqk 371 9 = true := by decide +kernel
theorem zq_372 : zqk 372 20 = true := by decide +kernel
theorem zq_373 : zqk 373 9 = true := by decide +kernel
theorem zq_374 : zqk 374 20 = true := by decide +kernel
theorem zq_375 : zqk 375 9 = true := by decide +kernel
theorem zq_376 : zqk 376 20 = true := by decide +kernel
theorem zq_377 : zqk 377 9 = true := by decide +kernel
theorem zq_378 : zqk 378 20 = true := by decide +kernel
theorem zq_379 : zqk 379 9 = true := by decide +kernel
theorem zq_380 : zqk 380 20 = true := by decide +kernel
theorem zq_381 : zqk 381 9 = true := by decide +kernel
theorem zq_382 : zqk 382 20 = true := by decide +kernel
theorem zq_383 : zqk 383 9 = true := by decide +kernel
theorem zq_384 : zqk 384 20 = true := by decide +kernel
theorem zq_385 : zqk 385 9 = true := by decide +kernel
theorem zq_386 : zqk 386 20 = true := by decide +kernel
theorem zq_387 : zqk 387 6 = true := by decide +kernel
theorem zq_388 : zqk 388 1 = true := by decide +kernel
theorem zq_389 : zqk 389 20 = true := by decide +kernel
theorem zq_390 : zqk 390 24 = true := by decide +kernel
theorem zq_391 : zqk 391 20 = true := by decide +kernel
theorem zq_392 : zqk 392 20 = true := by decide +kernel
theorem zq_393 : zqk 393 20 = true := by decide +kernel
theorem zq_394 : zqk 394 20 = true := by decide +kernel
theorem zq_395 : zqk 395 20 = true := by decide +kernel
theorem zq_396 : zqk 396 20 = true := by decide +kernel
theorem zq_397 : zqk 397 20 = true := by decide +kernel
theorem zq_398 : zqk 398 20 = true := by decide +kernel
theorem zq_399 : zqk 399 20 = true := by decide +kernel
theorem zq_400 : zqk 400 20 = true := by decide +kernel
theorem zq_401 : zqk 401 20 = true := by decide +kernel
theorem zq_402 : zqk 402 20 = true := by decide +kernel
theorem zq_403 : zqk 403 20 = true := by decide +kernel
theorem zq_404 : zqk 404 20 = true := by decide +kernel
theorem zq_405 : zqk 405 20 = true := by decide +kernel
theorem zq_406 : zqk 406 24 = true := by decide +kernel
theorem zq_407 : zqk 407 20 = true := by decide +kernel
theorem zq_408 : zqk 408 20 = true := by decide +kernel
theorem zq_409 : zqk 409 20 = true := by decide +kernel
theorem zq_410 : zqk 410 20 = true := by decide +kernel
theorem zq_411 : zqk 411 20 = true := by decide +kernel
theorem zq_412 : zqk 412 20 = true := by decide +kernel
theorem zq_413 : zqk 413 20 = true := by decide +kernel
theorem zq_414 : zqk 414 20 = true := by decide +kernel
theorem zq_415 : zqk 415 9 = true := by decide +kernel
theorem zq_416 : zqk 416 20 = true := by decide +kernel
theorem zq_417 : zqk 417 25 = true := by decide +kernel
theorem zq_418 : zqk 418 20 = true := by decide +kernel
theorem zq_419 : zqk 419 20 = true := by decide +kernel
theorem zq_420 : zqk 420 9 = true := by decide +kernel
theorem zq_421 : zqk 421 20 = true := by decide +kernel
theorem zq_422 : zqk 422 9 = true := by decide +kernel
theorem zq_423 : zqk 423 20 = true := by decide +kernel
theorem zq_424 : zqk 424 9 = true := by decide +kernel
theorem zq_425 : zqk 425 20 = true := by decide +kernel
theorem zq_426 : zqk 426 9 = true := by decide +kernel
theorem zq_427 : zqk 427 20 = true := by decide +kernel
theorem zq_428 : zqk 428 9 = true := by decide +kernel
theorem zq_429 : zqk 429 20 = true := by decide +kernel
theorem zq_430 : zqk 430 9 = true := by decide +kernel
theorem zq_431 : zqk 431 20 = true := by decide +kernel
theorem zq_432 : zqk 432 9 = true := by decide +kernel
theorem zq_433 : zqk 433 20 = true := by decide +kernel
theorem zq_434 : zqk 434 9 = true := by decide +kernel
theorem zq_435 : zqk 435 20 = true := by decide +kernel
theorem zq_436 : zqk 436 9 = true := by decide +kernel
theorem zq_437 : zqk 437 20 = true := by decide +kernel
theorem zq_438 : zqk 438 9 = true := by decide +kernel
theorem zq_439 : zqk 439 20 = true := by decide +kernel
theorem zq_440 : zqk 440 9 = true := by decide +kernel
theorem zq_441 : zqk 441 20 = true := by decide +kernel
theorem zq_442 : zqk 442 9 = true := by decide +kernel
theorem zq_443 : zqk 443 20 = true := by decide +kernel
theorem zq_444 : zqk 444 9 = true := by decide +kernel
theorem zq_445 : zqk 445 20 = true := by decide +kernel
theorem zq_446 : zqk 446 9 = true := by decide +kernel
theorem zq_447 : zqk 447 20 = true := by decide +kernel
theorem zq_448 : zqk 448 9 = true := by decide +kernel
theorem zq_449 : zqk 449 20 = true := by decide +kernel
theorem zq_450 : zqk 450 9 = true := by decide +kernel
theorem zq_451 : zqk 451 20 = true := by decide +kernel
theorem zq_452 : zqk 452 9 = true := by decide +kernel
theorem zq_453 : zqk 453 20 = true := by decide +kernel
theorem zq_454 : zqk 454 9 = true := by decide +kernel
theorem zq_455 : zqk 455 20 = true := by decide +kernel
theorem zq_456 : zqk 456 9 = true := by decide +kernel
theorem zq_457 : zqk 457 20 = true := by decide +kernel
theorem zq_458 : zqk 458 9 = true := by decide +kernel
theorem zq_459 : zqk 459 20 = true := by decide +kernel
theorem zq_460 : zqk 460 12 = true := by decide +kernel
theorem zq_461 : zqk 461 20 = true := by decide +kernel
theorem zq_462 : zqk 462 20 = true := by decide +kernel
theorem zq_463 : zqk 463 20 = true := by decide +kernel
theorem zq_464 : zqk 464 20 = true := by decide +kernel
theorem zq_465 : zqk 465 20 = true := by decide +kernel
theorem zq_466 : zqk 466 20 = true := by decide +kernel
theorem zq_467 : zqk 467 20 = true := by decide +kernel
theorem zq_468 : zqk 468 20 = true := by decide +kernel
theorem zq_469 : zqk 469 20 = true := by decide +kernel
theorem zq_470 : zqk 470 20 = true := by decide +kernel
theorem zq_471 : zqk 471 20 = true := by decide +kernel
theorem zq_472 : zqk 472 20 = true := by decide +kernel
theorem zq_473 : zqk 473 20 = true := by decide +kernel
theorem zq_474 : zqk 474 20 = true := by decide +kernel
theorem zq_475 : zqk 475 20 = true := by decide +kernel
theorem zq_476 : zqk 476 20 = true := by decide +kernel
theorem zq_477 : zqk 477 20 = true := by decide +kernel
theorem zq_478 : zqk 478 20 = true := by decide +kernel
theorem zq_479 : zqk 479 20 = true := by decide +kernel
theorem zq_480 : zqk 480 20 = true := by decide +kernel
theorem zq_481 : zqk 481 20 = true := by decide +kernel
theorem zq_482 : zqk 482 20 = true := by decide +kernel
theorem zq_483 : zqk 483 20 = true := by decide +kernel
theorem zq_484 : zqk 484 20 = true := by decide +kernel
theorem zq_485 : zqk 485 21 = true := by decide +kernel
theorem zq_486 : zqk 486 20 = true := by decide +kernel
theorem zq_487 : zqk 487 20 = true := by decide +kernel
theorem zq_488 : zqk 488 20 = true := by decide +kernel
theorem zq_489 : zqk 489 20 = true := by decide +kernel
theorem zq_490 : zqk 490 20 = true := by decide +kernel
theorem zq_491 : zqk 491 20 = true := by decide +kernel
theorem zq_492 : zqk 492 20 = true := by decide +kernel
theorem zq_493 : zqk 493 20 = true := by decide +kernel
theorem zq_494 : zqk 494 23 = true := by decide +kernel
theorem zq_495 : zqk 495 23 = true := by decide +kernel
theorem zq_496 : zqk 496 20 = true := by decide +kernel
theorem zq_497 : zqk 497 20 = true := by decide +kernel
theorem zq_498 : zqk 498 20 = true := by decide +kernel
theorem zq_499 : zqk 499 20 = true := by decide +kernel
theorem zq_500 : zqk 500 20 = true := by decide +kernel
theorem zq_501 : zqk 501 20 = true := by decide +kernel
theorem zq_502 : zqk 502 20 = true := by decide +kernel
theorem zq_503 : zqk 503 22 = true := by decide +kernel
theorem zq_504 : zqk 504 22 = true := by decide +kernel
theorem zl_2 : zln 2 = 400 := by decide +kernel
theorem zl_3 : zln 3 = 401 := by decide +kernel
theorem zl_4 : zln 4 = 401 := by decide +kernel
theorem zl_5 : zln 5 = 401 := by decide +kernel
theorem zl_8 : zln 8 = 5 := by decide +kernel
theorem zl_9 : zln 9 = 15 := by decide +kernel
theorem zl_10 : zln 10 = 8 := by decide +kernel
theorem zl_11 : zln 11 = 8 := by decide +kernel
theorem zl_12 : zln 12 = 8 := by decide +kernel
theorem zl_13 : zln 13 = 8 := by decide +kernel
theorem zl_14 : zln 14 = 8 := by decide +kernel
theorem zl_15 : zln 15 = 8 := by decide +kernel
theorem zl_16 : zln 16 = 8 := by decide +kernel
theorem zl_17 : zln 17 = 8 := by decide +kernel
theorem zl_18 : zln 18 = 8 := by decide +kernel
theorem zl_19 : zln 19 = 8 := by decide +kernel
theorem zl_20 : zln 20 = 8 := by decide +kernel
theorem zl_21 : zln 21 = 8 := by decide +kernel
theorem zl_22 : zln 22 = 8 := by decide +kernel
theorem zl_23 : zln 23 = 8 := by decide +kernel
theorem zl_24 : zln 24 = 8 := by decide +kernel
theorem zl_25 : zln 25 = 8 := by decide +kernel
theorem zl_26 : zln 26 = 8 := by decide +kernel
theorem zl_27 : zln 27 = 8 := by decide +kernel
theorem zl_28 : zln 28 = 8 := by decide +kernel
theorem zl_29 : zln 29 = 8 := by decide +kernel
theorem zl_30 : zln 30 = 8 := by decide +kernel
theorem zl_31 : zln 31 = 8 := by decide +kernel
theorem zl_32 : zln 32 = 8 := by decide +kernel
theorem zl_33 : zln 33 = 8 := by decide +kernel
theorem zl_36 : zln 36 = 400 := by decide +kernel
theorem zl_37 : zln 37 = 400 := by decide +kernel
theorem zl_38 : zln 38 = 6 := by decide +kernel
theorem zl_41 : zln 41 = 5 := by decide +kernel
theorem zl_42 : zln 42 = 15 := by decide +kernel
theorem zl_43 : zln 43 = 8 := by decide +kernel
theorem zl_44 : zln 44 = 8 := by decide +kernel
theorem zl_45 : zln 45 = 8 := by decide +kernel
theorem zl_46 : zln 46 = 8 := by decide +kernel
theorem zl_47 : zln 47 = 8 := by decide +kernel
theorem zl_48 : zln 48 = 8 := by decide +kernel
theorem zl_49 : zln 49 = 8 := by decide +kernel
theorem zl_50 : zln 50 = 8 := by decide +kernel
theorem zl_51 : zln 51 = 8 := by decide +kernel
theorem zl_52 : zln 52 = 8 := by decide +kernel
theorem zl_53 : zln 53 = 8 := by decide +kernel
theorem zl_54 : zln 54 = 8 := by decide +kernel
theorem zl_55 : zln 55 = 8 := by decide +kernel
theorem zl_56 : zln 56 = 8 := by decide +kernel
theorem zl_57 : zln 57 = 8 := by decide +kernel
theorem zl_58 : zln 58 = 8 := by decide +kernel
theorem zl_59 : zln 59 = 8 := by decide +kernel
theorem zl_60 : zln 60 = 8 := by decide +kernel
theorem zl_61 : zln 61 = 8 := by decide +kernel
theorem zl_62 : zln 62 = 8 := by decide +kernel
theorem zl_63 : zln 63 = 8 := by decide +kernel
theorem zl_64 : zln 64 = 8 := by decide +kernel
theorem zl_65 : zln 65 = 8 := by decide +kernel
theorem zl_66 : zln 66 = 8 := by decide +kernel
theorem zl_68 : zln 68 = 4 := by decide +kernel
theorem zl_69 : zln 69 = 20 := by decide +kernel
theorem zl_70 : zln 70 = 10 := by decide +kernel
theorem zl_71 : zln 71 = 10 := by decide +kernel
theorem zl_73 : zln 73 = 4 := by decide +kernel
theorem zl_75 : zln 75 = 4 := by decide +kernel
theorem zl_77 : zln 77 = 4 := by decide +kernel
theorem zl_79 : zln 79 = 4 := by decide +kernel
theorem zl_81 : zln 81 = 4 := by decide +kernel
theorem zl_83 : zln 83 = 4 := by decide +kernel
theorem zl_85 : zln 85 = 4 := by decide +kernel
theorem zl_87 : zln 87 = 4 := by decide +kernel
theorem zl_89 : zln 89 = 4 := by decide +kernel
theorem zl_91 : zln 91 = 4 := by decide +kernel
theorem zl_93 : zln 93 = 4 := by decide +kernel
theorem zl_95 : zln 95 = 4 := by decide +kernel
theorem zl_97 : zln 97 = 4 := by decide +kernel
theorem zl_99 : zln 99 = 4 := by decide +kernel
theorem zl_101 : zln 101 = 4 := by decide +kernel
theorem zl_103 : zln 103 = 4 := by decide +kernel
theorem zl_105 : zln 105 = 4 := by decide +kernel
theorem zl_107 : zln 107 = 4 := by decide +kernel
theorem zl_109 : zln 109 = 4 := by decide +kernel
theorem zl_111 : zln 111 = 4 := by decide +kernel
theorem zl_112 : zln 112 = 4 := by decide +kernel
theorem zl_113 : zln 113 = 4 := by decide +kernel
theorem zl_115 : zln 115 = 4 := by decide +kernel
theorem zl_116 : zln 116 = 4 := by decide +kernel
theorem zl_117 : zln 117 = 4 := by decide +kernel
theorem zl_118 : zln 118 = 64 := by decide +kernel
theorem zl_121 : zln 121 = 4 := by decide +kernel
theorem zl_123 : zln 123 = 4 := by decide +kernel
theorem zl_125 : zln 125 = 4 := by decide +kernel
theorem zl_126 : zln 126 = 4 := by decide +kernel
theorem zl_127 : zln 127 = 4 := by decide +kernel
theorem zl_128 : zln 128 = 64 := by decide +kernel
theorem zl_130 : zln 130 = 7 := by decide +kernel
theorem zl_131 : zln 131 = 61 := by decide +kernel
theorem zl_132 : zln 132 = 61 := by decide +kernel
theorem zl_133 : zln 133 = 61 := by decide +kernel
theorem zl_134 : zln 134 = 61 := by decide +kernel
theorem zl_135 : zln 135 = 61 := by decide +kernel
theorem zl_136 : zln 136 = 61 := by decide +kernel
theorem zl_137 : zln 137 = 61 := by decide +kernel
theorem zl_138 : zln 138 = 7 := by decide +kernel
theorem zl_140 : zln 140 = 4 := by decide +kernel
theorem zl_142 : zln 142 = 4 := by decide +kernel
theorem zl_143 : zln 143 = 4 := by decide +kernel
theorem zl_144 : zln 144 = 4 := by decide +kernel
theorem zl_145 : zln 145 = 64 := by decide +kernel
theorem zl_147 : zln 147 = 4 := by decide +kernel
theorem zl_148 : zln 148 = 4 := by decide +kernel
theorem zl_149 : zln 149 = 4 := by decide +kernel
theorem zl_151 : zln 151 = 400 := by decide +kernel
theorem zl_152 : zln 152 = 400 := by decide +kernel
theorem zl_154 : zln 154 = 400 := by decide +kernel
theorem zl_155 : zln 155 = 400 := by decide +kernel
theorem zl_157 : zln 157 = 400 := by decide +kernel
theorem zl_158 : zln 158 = 400 := by decide +kernel
theorem zl_160 : zln 160 = 400 := by decide +kernel
theorem zl_161 : zln 161 = 400 := by decide +kernel
theorem zl_163 : zln 163 = 400 := by decide +kernel
theorem zl_164 : zln 164 = 400 := by decide +kernel
theorem zl_166 : zln 166 = 400 := by decide +kernel
theorem zl_167 : zln 167 = 400 := by decide +kernel
theorem zl_170 : zln 170 = 5 := by decide +kernel
theorem zl_171 : zln 171 = 15 := by decide +kernel
theorem zl_172 : zln 172 = 8 := by decide +kernel
theorem zl_173 : zln 173 = 8 := by decide +kernel
theorem zl_174 : zln 174 = 8 := by decide +kernel
theorem zl_175 : zln 175 = 8 := by decide +kernel
theorem zl_176 : zln 176 = 8 := by decide +kernel
theorem zl_177 : zln 177 = 8 := by decide +kernel
theorem zl_178 : zln 178 = 8 := by decide +kernel
theorem zl_179 : zln 179 = 8 := by decide +kernel
theorem zl_180 : zln 180 = 8 := by decide +kernel
theorem zl_181 : zln 181 = 8 := by decide +kernel
theorem zl_182 : zln 182 = 8 := by decide +kernel
theorem zl_183 : zln 183 = 8 := by decide +kernel
theorem zl_184 : zln 184 = 8 := by decide +kernel
theorem zl_185 : zln 185 = 8 := by decide +kernel
theorem zl_186 : zln 186 = 8 := by decide +kernel
theorem zl_187 : zln 187 = 8 := by decide +kernel
theorem zl_188 : zln 188 = 8 := by decide +kernel
theorem zl_189 : zln 189 = 8 := by decide +kernel
theorem zl_190 : zln 190 = 8 := by decide +kernel
theorem zl_191 : zln 191 = 8 := by decide +kernel
theorem zl_192 : zln 192 = 8 := by decide +kernel
theorem zl_193 : zln 193 = 8 := by decide +kernel
theorem zl_194 : zln 194 = 8 := by decide +kernel
theorem zl_195 : zln 195 = 8 := by decide +kernel
theorem zl_197 : zln 197 = 4 := by decide +kernel
theorem zl_198 : zln 198 = 20 := by decide +kernel
theorem zl_199 : zln 199 = 10 := by decide +kernel
theorem zl_200 : zln 200 = 10 := by decide +kernel
theorem zl_202 : zln 202 = 4 := by decide +kernel
theorem zl_204 : zln 204 = 4 := by decide +kernel
theorem zl_206 : zln 206 = 4 := by decide +kernel
theorem zl_208 : zln 208 = 4 := by decide +kernel
theorem zl_210 : zln 210 = 4 := by decide +kernel
theorem zl_212 : zln 212 = 4 := by decide +kernel
theorem zl_214 : zln 214 = 4 := by decide +kernel
theorem zl_216 : zln 216 = 4 := by decide +kernel
theorem zl_218 : zln 218 = 4 := by decide +kernel
theorem zl_220 : zln 220 = 4 := by decide +kernel
theorem zl_222 : zln 222 = 4 := by decide +kernel
theorem zl_224 : zln 224 = 4 := by decide +kernel
theorem zl_226 : zln 226 = 4 := by decide +kernel
theorem zl_228 : zln 228 = 4 := by decide +kernel
theorem zl_230 : zln 230 = 4 := by decide +kernel
theorem zl_232 : zln 232 = 4 := by decide +kernel
theorem zl_234 : zln 234 = 4 := by decide +kernel
theorem zl_236 : zln 236 = 4 := by decide +kernel
theorem zl_238 : zln 238 = 4 := by decide +kernel
theorem zl_240 : zln 240 = 4 := by decide +kernel
theorem zl_243 : zln 243 = 5 := by decide +kernel
theorem zl_244 : zln 244 = 15 := by decide +kernel
theorem zl_245 : zln 245 = 8 := by decide +kernel
theorem zl_246 : zln 246 = 8 := by decide +kernel
theorem zl_247 : zln 247 = 8 := by decide +kernel
theorem zl_248 : zln 248 = 8 := by decide +kernel
theorem zl_249 : zln 249 = 8 := by decide +kernel
theorem zl_250 : zln 250 = 8 := by decide +kernel
theorem zl_251 : zln 251 = 8 := by decide +kernel
theorem zl_252 : zln 252 = 8 := by decide +kernel
theorem zl_253 : zln 253 = 8 := by decide +kernel
theorem zl_254 : zln 254 = 8 := by decide +kernel
theorem zl_255 : zln 255 = 8 := by decide +kernel
theorem zl_256 : zln 256 = 8 := by decide +kernel
theorem zl_257 : zln 257 = 8 := by decide +kernel
theorem zl_258 : zln 258 = 8 := by decide +kernel
theorem zl_259 : zln 259 = 8 := by decide +kernel
theorem zl_260 : zln 260 = 8 := by decide +kernel
theorem zl_261 : zln 261 = 8 := by decide +kernel
theorem zl_262 : zln 262 = 8 := by decide +kernel
theorem zl_263 : zln 263 = 8 := by decide +kernel
theorem zl_264 : zln 264 = 8 := by decide +kernel
theorem zl_265 : zln 265 = 8 := by decide +kernel
theorem zl_266 : zln 266 = 8 := by decide +kernel
theorem zl_267 : zln 267 = 8 := by decide +kernel
theorem zl_268 : zln 268 = 8 := by decide +kernel
theorem zl_270 : zln 270 = 4 := by decide +kernel
theorem zl_271 : zln 271 = 20 := by decide +kernel
theorem zl_272 : zln 272 = 10 := by decide +kernel
theorem zl_273 : zln 273 = 10 := by decide +kernel
theorem zl_275 : zln 275 = 4 := by decide +kernel
theorem zl_277 : zln 277 = 4 := by decide +kernel
theorem zl_279 : zln 279 = 4 := by decide +kernel
theorem zl_281 : zln 281 = 4 := by decide +kernel
theorem zl_283 : zln 283 = 4 := by decide +kernel
theorem zl_285 : zln 285 = 4 := by decide +kernel
theorem zl_287 : zln 287 = 4 := by decide +kernel
theorem zl_289 : zln 289 = 4 := by decide +kernel
theorem zl_291 : zln 291 = 4 := by decide +kernel
theorem zl_293 : zln 293 = 4 := by decide +kernel
theorem zl_295 : zln 295 = 4 := by decide +kernel
theorem zl_297 : zln 297 = 4 := by decide +kernel
theorem zl_299 : zln 299 = 4 := by decide +kernel
theorem zl_301 : zln 301 = 4 := by decide +kernel
theorem zl_303 : zln 303 = 4 := by decide +kernel
theorem zl_305 : zln 305 = 4 := by decide +kernel
theorem zl_307 : zln 307 = 4 := by decide +kernel
theorem zl_309 : zln 309 = 4 := by decide +kernel
theorem zl_311 : zln 311 = 4 := by decide +kernel
theorem zl_313 : zln 313 = 4 := by decide +kernel
theorem zl_316 : zln 316 = 5 := by decide +kernel
theorem zl_317 : zln 317 = 15 := by decide +kernel
theorem zl_318 : zln 318 = 8 := by decide +kernel
theorem zl_319 : zln 319 = 8 := by decide +kernel
theorem zl_320 : zln 320 = 8 := by decide +kernel
theorem zl_321 : zln 321 = 8 := by decide +kernel
theorem zl_322 : zln 322 = 8 := by decide +kernel
theorem zl_323 : zln 323 = 8 := by decide +kernel
theorem zl_324 : zln 324 = 8 := by decide +kernel
theorem zl_325 : zln 325 = 8 := by decide +kernel
theorem zl_326 : zln 326 = 8 := by decide +kernel
theorem zl_327 : zln 327 = 8 := by decide +kernel
theorem zl_328 : zln 328 = 8 := by decide +kernel
theorem zl_329 : zln 329 = 8 := by decide +kernel
theorem zl_330 : zln 330 = 8 := by decide +kernel
theorem zl_331 : zln 331 = 8 := by decide +kernel
theorem zl_332 : zln 332 = 8 := by decide +kernel
theorem zl_333 : zln 333 = 8 := by decide +kernel
theorem zl_334 : zln 334 = 8 := by decide +kernel
theorem zl_335 : zln 335 = 8 := by decide +kernel
theorem zl_336 : zln 336 = 8 := by decide +kernel
theorem zl_337 : zln 337 = 8 := by decide +kernel
theorem zl_338 : zln 338 = 8 := by decide +kernel
theorem zl_339 : zln 339 = 8 := by decide +kernel
theorem zl_340 : zln 340 = 8 := by decide +kernel
theorem zl_341 : zln 341 = 8 := by decide +kernel
theorem zl_343 : zln 343 = 4 := by decide +kernel
theorem zl_344 : zln 344 = 20 := by decide +kernel
theorem zl_345 : zln 345 = 10 := by decide +kernel
theorem zl_346 : zln 346 = 10 := by decide +kernel
theorem zl_348 : zln 348 = 4 := by decide +kernel
theorem zl_350 : zln 350 = 4 := by decide +kernel
theorem zl_352 : zln 352 = 4 := by decide +kernel
theorem zl_354 : zln 354 = 4 := by decide +kernel
theorem zl_356 : zln 356 = 4 := by decide +kernel
theorem zl_358 : zln 358 = 4 := by decide +kernel
theorem zl_360 : zln 360 = 4 := by decide +kernel
theorem zl_362 : zln 362 = 4 := by decide +kernel
theorem zl_364 : zln 364 = 4 := by decide +kernel
theorem zl_366 : zln 366 = 4 := by decide +kernel
theorem zl_368 : zln 368 = 4 := by decide +kernel
theorem zl_370 : zln 370 = 4 := by decide +kernel
theorem zl_372 : zln 372 = 4 := by decide +kernel
theorem zl_374 : zln 374 = 4 := by decide +kernel
theorem zl_376 : zln 376 = 4 := by decide +kernel
theorem zl_378 : zln 378 = 4 := by decide +kernel
theorem zl_380 : zln 380 = 4 := by decide +kernel
theorem zl_382 : zln 382 = 4 := by decide +kernel
theorem zl_384 : zln 384 = 4 := by decide +kernel
theorem zl_386 : zln 386 = 4 := by decide +kernel
theorem zl_389 : zln 389 = 5 := by decide +kernel
theorem zl_390 : zln 390 = 15 := by decide +kernel
theorem zl_391 : zln 391 = 8 := by decide +kernel
theorem zl_392 : zln 392 = 8 := by decide +kernel
theorem zl_393 : zln 393 = 8 := by decide +kernel
theorem zl_394 : zln 394 = 8 := by decide +kernel
theorem zl_395 : zln 395 = 8 := by decide +kernel
theorem zl_396 : zln 396 = 8 := by decide +kernel
theorem zl_397 : zln 397 = 8 := by decide +kernel
theorem zl_398 : zln 398 = 8 := by decide +kernel
theorem zl_399 : zln 399 = 8 := by decide +kernel
theorem zl_400 : zln 400 = 8 := by decide +kernel
theorem zl_401 : zln 401 = 8 := by decide +kernel
theorem zl_402 : zln 402 = 8 := by decide +kernel
theorem zl_403 : zln 403 = 8 := by decide +kernel
theorem zl_404 : zln 404 = 8 := by decide +kernel
theorem zl_405 : zln 405 = 8 := by decide +kernel
theorem zl_406 : zln 406 = 8 := by decide +kernel
theorem zl_407 : zln 407 = 8 := by decide +kernel
theorem zl_408 : zln 408 = 8 := by decide +kernel
theorem zl_409 : zln 409 = 8 := by decide +kernel
theorem zl_410 : zln 410 = 8 := by decide +kernel
theorem zl_411 : zln 411 = 8 := by decide +kernel
theorem zl_412 : zln 412 = 8 := by decide +kernel
theorem zl_413 : zln 413 = 8 := by decide +kernel
theorem zl_414 : zln 414 = 8 := by decide +kernel
theorem zl_416 : zln 416 = 4 := by decide +kernel
theorem zl_417 : zln 417 = 20 := by decide +kernel
theorem zl_418 : zln 418 = 10 := by decide +kernel
theorem zl_419 : zln 419 = 10 := by decide +kernel
theorem zl_421 : zln 421 = 4 := by decide +kernel
theorem zl_423 : zln 423 = 4 := by decide +kernel
theorem zl_425 : zln 425 = 4 := by decide +kernel
theorem zl_427 : zln 427 = 4 := by decide +kernel
theorem zl_429 : zln 429 = 4 := by decide +kernel
theorem zl_431 : zln 431 = 4 := by decide +kernel
theorem zl_433 : zln 433 = 4 := by decide +kernel
theorem zl_435 : zln 435 = 4 := by decide +kernel
theorem zl_437 : zln 437 = 4 := by decide +kernel
theorem zl_439 : zln 439 = 4 := by decide +kernel
theorem zl_441 : zln 441 = 4 := by decide +kernel
theorem zl_443 : zln 443 = 4 := by decide +kernel
theorem zl_445 : zln 445 = 4 := by decide +kernel
theorem zl_447 : zln 447 = 4 := by decide +kernel
theorem zl_449 : zln 449 = 4 := by decide +kernel
theorem zl_451 : zln 451 = 4 := by decide +kernel
theorem zl_453 : zln 453 = 4 := by decide +kernel
theorem zl_455 : zln 455 = 4 := by decide +kernel
theorem zl_457 : zln 457 = 4 := by decide +kernel
theorem zl_459 : zln 459 = 4 := by decide +kernel
theorem zl_461 : zln 461 = 18 := by decide +kernel
theorem zl_462 : zln 462 = 4 := by decide +kernel
theorem zl_463 : zln 463 = 6 := by decide +kernel
theorem zl_464 : zln 464 = 6 := by decide +kernel
theorem zl_465 : zln 465 = 6 := by decide +kernel
theorem zl_466 : zln 466 = 4 := by decide +kernel
theorem zl_467 : zln 467 = 4 := by decide +kernel
theorem zl_468 : zln 468 = 4 := by decide +kernel
theorem zl_469 : zln 469 = 4 := by decide +kernel
theorem zl_470 : zln 470 = 64 := by decide +kernel
theorem zl_471 : zln 471 = 10 := by decide +kernel
theorem zl_472 : zln 472 = 10 := by decide +kernel
theorem zl_473 : zln 473 = 4 := by decide +kernel
theorem zl_474 : zln 474 = 1 := by decide +kernel
theorem zl_475 : zln 475 = 6 := by decide +kernel
theorem zl_476 : zln 476 = 6 := by decide +kernel
theorem zl_477 : zln 477 = 6 := by decide +kernel
theorem zl_478 : zln 478 = 6 := by decide +kernel
theorem zl_479 : zln 479 = 4 := by decide +kernel
theorem zl_480 : zln 480 = 4 := by decide +kernel
theorem zl_481 : zln 481 = 4 := by decide +kernel
theorem zl_482 : zln 482 = 4 := by decide +kernel
theorem zl_483 : zln 483 = 4 := by decide +kernel
theorem zl_484 : zln 484 = 64 := by decide +kernel
theorem zl_485 : zln 485 = 400 := by decide +kernel
theorem zl_486 : zln 486 = 1800 := by decide +kernel
theorem zl_487 : zln 487 = 1800 := by decide +kernel
theorem zl_488 : zln 488 = 6 := by decide +kernel
theorem zl_489 : zln 489 = 72 := by decide +kernel
theorem zl_490 : zln 490 = 72 := by decide +kernel
theorem zl_491 : zln 491 = 72 := by decide +kernel
theorem zl_492 : zln 492 = 402 := by decide +kernel
theorem zl_493 : zln 493 = 64 := by decide +kernel
theorem zl_494 : zln 494 = 11 := by decide +kernel
theorem zl_495 : zln 495 = 300 := by decide +kernel
theorem zl_496 : zln 496 = 4 := by decide +kernel
theorem zl_497 : zln 497 = 280 := by decide +kernel
theorem zl_498 : zln 498 = 1 := by decide +kernel
theorem zl_499 : zln 499 = 4 := by decide +kernel
theorem zl_500 : zln 500 = 61 := by decide +kernel
theorem zl_501 : zln 501 = 427 := by decide +kernel
theorem zl_502 : zln 502 = 2750 := by decide +kernel
theorem zl_503 : zln 503 = 4 := by decide +kernel
theorem zl_504 : zln 504 = 4 := by decide +kernel
