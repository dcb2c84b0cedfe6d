/-! ===== geometry of the cells ===== -/
def zgrL : List (List Nat) := [[1, 6, 34, 38, 1000000, 39, 112, 113, 114, 119, 129, 146], [2, 1000000, 3, 4, 5], [], [], [], [], [1, 7], [8, 9, 25], [], [10, 11, 12, 13, 14, 15, 16, 17, 18, 19, 20, 21, 22, 23, 24], [], [], [], [], [], [], [], [], [], [], [], [], [], [], [], [26, 27, 28, 29, 30, 31, 32, 33], [], [], [], [], [], [], [], [], [1, 35], [36, 37], [], [], [150, 153, 156, 159, 162, 165], [40, 67, 1000000, 1000000, 69, 1000000, 70, 71], [41, 42, 58], [], [43, 44, 45, 46, 47, 48, 49, 50, 51, 52, 53, 54, 55, 56, 57], [], [], [], [], [], [], [], [], [], [], [], [], [], [], [], [59, 60, 61, 62, 63, 64, 65, 66], [], [], [], [], [], [], [], [], [1000000, 1000000, 1000000, 1000000, 1000000, 1000000, 1000000, 1000000, 1000000, 1000000, 68], [], [], [], [], [1000000, 1000000, 1000000, 1000000, 1000000, 1000000, 1000000, 1000000, 1000000, 1000000, 73], [], [1000000, 1000000, 1000000, 1000000, 1000000, 1000000, 1000000, 1000000, 1000000, 1000000, 75], [], [1000000, 1000000, 1000000, 1000000, 1000000, 1000000, 1000000, 1000000, 1000000, 1000000, 77], [], [1000000, 1000000, 1000000, 1000000, 1000000, 1000000, 1000000, 1000000, 1000000, 1000000, 79], [], [1000000, 1000000, 1000000, 1000000, 1000000, 1000000, 1000000, 1000000, 1000000, 1000000, 81], [], [1000000, 1000000, 1000000, 1000000, 1000000, 1000000, 1000000, 1000000, 1000000, 1000000, 83], [], [1000000, 1000000, 1000000, 1000000, 1000000, 1000000, 1000000, 1000000, 1000000, 1000000, 85], [], [1000000, 1000000, 1000000, 1000000, 1000000, 1000000, 1000000, 1000000, 1000000, 1000000, 87], [], [1000000, 1000000, 1000000, 1000000, 1000000, 1000000, 1000000, 1000000, 1000000, 1000000, 89], [], [1000000, 1000000, 1000000, 1000000, 1000000, 1000000, 1000000, 1000000, 1000000, 1000000, 91], [], [1000000, 1000000, 1000000, 1000000, 1000000, 1000000, 1000000, 1000000, 1000000, 1000000, 93], [], [1000000, 1000000, 1000000, 1000000, 1000000, 1000000, 1000000, 1000000, 1000000, 1000000, 95], [], [1000000, 1000000, 1000000, 1000000, 1000000, 1000000, 1000000, 1000000, 1000000, 1000000, 97], [], [1000000, 1000000, 1000000, 1000000, 1000000, 1000000, 1000000, 1000000, 1000000, 1000000, 99], [], [1000000, 1000000, 1000000, 1000000, 1000000, 1000000, 1000000, 1000000, 1000000, 1000000, 101], [], [1000000, 1000000, 1000000, 1000000, 1000000, 1000000, 1000000, 1000000, 1000000, 1000000, 103], [], [1000000, 1000000, 1000000, 1000000, 1000000, 1000000, 1000000, 1000000, 1000000, 1000000, 105], [], [1000000, 1000000, 1000000, 1000000, 1000000, 1000000, 1000000, 1000000, 1000000, 1000000, 107], [], [1000000, 1000000, 1000000, 1000000, 1000000, 1000000, 1000000, 1000000, 1000000, 1000000, 109], [], [1000000, 1000000, 1000000, 1000000, 1000000, 1000000, 1000000, 1000000, 1000000, 1000000, 111], [], [168, 241, 314, 387], [], [115, 1000000, 1000000, 1000000, 1000000, 1000000, 1000000, 1000000, 1000000, 116, 117, 118], [], [], [], [], [120, 122, 124], [1000000, 1000000, 1000000, 1000000, 1000000, 1000000, 1000000, 1000000, 1000000, 1000000, 121], [], [1000000, 1000000, 1000000, 1000000, 1000000, 1000000, 1000000, 1000000, 1000000, 1000000, 123], [], [125, 1000000, 1000000, 1000000, 1000000, 1000000, 1000000, 1000000, 1000000, 126, 127, 128], [], [], [], [], [130, 138, 1000000, 139, 141], [131, 132, 133, 134, 135, 136, 137], [], [], [], [], [], [], [], [], [1000000, 1000000, 1000000, 1000000, 1000000, 1000000, 1000000, 1000000, 1000000, 1000000, 140], [], [142, 1000000, 1000000, 1000000, 1000000, 1000000, 1000000, 1000000, 1000000, 143, 144, 145], [], [], [], [], [147, 1000000, 1000000, 1000000, 148, 149], [], [], [], [151, 152], [], [], [154, 155], [], [], [157, 158], [], [], [160, 161], [], [], [163, 164], [], [], [166, 167], [], [], [169, 196, 1000000, 1000000, 198, 1000000, 199, 200], [170, 171, 187], [], [172, 173, 174, 175, 176, 177, 178, 179, 180, 181, 182, 183, 184, 185, 186], [], [], [], [], [], [], [], [], [], [], [], [], [], [], [], [188, 189, 190, 191, 192, 193, 194, 195], [], [], [], [], [], [], [], [], [1000000, 1000000, 1000000, 1000000, 1000000, 1000000, 1000000, 1000000, 1000000, 1000000, 197], [], [], [], [], [1000000, 1000000, 1000000, 1000000, 1000000, 1000000, 1000000, 1000000, 1000000, 1000000, 202], [], [1000000, 1000000, 1000000, 1000000, 1000000, 1000000, 1000000, 1000000, 1000000, 1000000, 204], [], [1000000, 1000000, 1000000, 1000000, 1000000, 1000000, 1000000, 1000000, 1000000, 1000000, 206], [], [1000000, 1000000, 1000000, 1000000, 1000000, 1000000, 1000000, 1000000, 1000000, 1000000, 208], [], [1000000, 1000000, 1000000, 1000000, 1000000, 1000000, 1000000, 1000000, 1000000, 1000000, 210], [], [1000000, 1000000, 1000000, 1000000, 1000000, 1000000, 1000000, 1000000, 1000000, 1000000, 212], [], [1000000, 1000000, 1000000, 1000000, 1000000, 1000000, 1000000, 1000000, 1000000, 1000000, 214], [], [1000000, 1000000, 1000000, 1000000, 1000000, 1000000, 1000000, 1000000, 1000000, 1000000, 216], [], [1000000, 1000000, 1000000, 1000000, 1000000, 1000000, 1000000, 1000000, 1000000, 1000000, 218], [], [1000000, 1000000, 1000000, 1000000, 1000000, 1000000, 1000000, 1000000, 1000000, 1000000, 220], [], [1000000, 1000000, 1000000, 1000000, 1000000, 1000000, 1000000, 1000000, 1000000, 1000000, 222], [], [1000000, 1000000, 1000000, 1000000, 1000000, 1000000, 1000000, 1000000, 1000000, 1000000, 224], [], [1000000, 1000000, 1000000, 1000000, 1000000, 1000000, 1000000, 1000000, 1000000, 1000000, 226], [], [1000000, 1000000, 1000000, 1000000, 1000000, 1000000, 1000000, 1000000, 1000000, 1000000, 228], [], [1000000, 1000000, 1000000, 1000000, 1000000, 1000000, 1000000, 1000000, 1000000, 1000000, 230], [], [1000000, 1000000, 1000000, 1000000, 1000000, 1000000, 1000000, 1000000, 1000000, 1000000, 232], [], [1000000, 1000000, 1000000, 1000000, 1000000, 1000000, 1000000, 1000000, 1000000, 1000000, 234], [], [1000000, 1000000, 1000000, 1000000, 1000000, 1000000, 1000000, 1000000, 1000000, 1000000, 236], [], [1000000, 1000000, 1000000, 1000000, 1000000, 1000000, 1000000, 1000000, 1000000, 1000000, 238], [], [1000000, 1000000, 1000000, 1000000, 1000000, 1000000, 1000000, 1000000, 1000000, 1000000, 240], [], [242, 269, 1000000, 1000000, 271, 1000000, 272, 273], [243, 244, 260], [], [245, 246, 247, 248, 249, 250, 251, 252, 253, 254, 255, 256, 257, 258, 259], [], [], [], [], [], [], [], [], [], [], [], [], [], [], [], [261, 262, 263, 264, 265, 266, 267, 268], [], [], [], [], [], [], [], [], [1000000, 1000000, 1000000, 1000000, 1000000, 1000000, 1000000, 1000000, 1000000, 1000000, 270], [], [], [], [], [1000000, 1000000, 1000000, 1000000, 1000000, 1000000, 1000000, 1000000, 1000000, 1000000, 275], [], [1000000, 1000000, 1000000, 1000000, 1000000, 1000000, 1000000, 1000000, 1000000, 1000000, 277], [], [1000000, 1000000, 1000000, 1000000, 1000000, 1000000, 1000000, 1000000, 1000000, 1000000, 279], [], [1000000, 1000000, 1000000, 1000000, 1000000, 1000000, 1000000, 1000000, 1000000, 1000000, 281], [], [1000000, 1000000, 1000000, 1000000, 1000000, 1000000, 1000000, 1000000, 1000000, 1000000, 283], [], [1000000, 1000000, 1000000, 1000000, 1000000, 1000000, 1000000, 1000000, 1000000, 1000000, 285], [], [1000000, 1000000, 1000000, 1000000, 1000000, 1000000, 1000000, 1000000, 1000000, 1000000, 287], [], [1000000, 1000000, 1000000, 1000000, 1000000, 1000000, 1000000, 1000000, 1000000, 1000000, 289], [], [1000000, 1000000, 1000000, 1000000, 1000000, 1000000, 1000000, 1000000, 1000000, 1000000, 291], [], [1000000, 1000000, 1000000, 1000000, 1000000, 1000000, 1000000, 1000000, 1000000, 1000000, 293], [], [1000000, 1000000, 1000000, 1000000, 1000000, 1000000, 1000000, 1000000, 1000000, 1000000, 295], [], [1000000, 1000000, 1000000, 1000000, 1000000, 1000000, 1000000, 1000000, 1000000, 1000000, 297], [], [1000000, 1000000, 1000000, 1000000, 1000000, 1000000, 1000000, 1000000, 1000000, 1000000, 299], [], [1000000, 1000000, 1000000, 1000000, 1000000, 1000000, 1000000, 1000000, 1000000, 1000000, 301], [], [1000000, 1000000, 1000000, 1000000, 1000000, 1000000, 1000000, 1000000, 1000000, 1000000, 303], [], [1000000, 1000000, 1000000, 1000000, 1000000, 1000000, 1000000, 1000000, 1000000, 1000000, 305], [], [1000000, 1000000, 1000000, 1000000, 1000000, 1000000, 1000000, 1000000, 1000000, 1000000, 307], [], [1000000, 1000000, 1000000, 1000000, 1000000, 1000000, 1000000, 1000000, 1000000, 1000000, 309], [], [1000000, 1000000, 1000000, 1000000, 1000000, 1000000, 1000000, 1000000, 1000000, 1000000, 311], [], [1000000, 1000000, 1000000, 1000000, 1000000, 1000000, 1000000, 1000000, 1000000, 1000000, 313], [], [315, 342, 1000000, 1000000, 344, 1000000, 345, 346], [316, 317, 333], [], [318, 319, 320, 321, 322, 323, 324, 325, 326, 327, 328, 329, 330, 331, 332], [], [], [], [], [], [], [], [], [], [], [], [], [], [], [], [334, 335, 336, 337, 338, 339, 340, 341], [], [], [], [], [], [], [], [], [1000000, 1000000, 1000000, 1000000, 1000000, 1000000, 1000000, 1000000, 1000000, 1000000, 343], [], [], [], [], [1000000, 1000000, 1000000, 1000000, 1000000, 1000000, 1000000, 1000000, 1000000, 1000000, 348], [], [1000000, 1000000, 1000000, 1000000, 1000000, 1000000, 1000000, 1000000, 1000000, 1000000, 350], [], [1000000, 1000000, 1000000, 1000000, 1000000, 1000000, 1000000, 1000000, 1000000, 1000000, 352], [], [1000000, 1000000, 1000000, 1000000, 1000000, 1000000, 1000000, 1000000, 1000000, 1000000, 354], [], [1000000, 1000000, 1000000, 1000000, 1000000, 1000000, 1000000, 1000000, 1000000, 1000000, 356], [], [1000000, 1000000, 1000000, 1000000, 1000000, 1000000, 1000000, 1000000, 1000000, 1000000, 358], [], [1000000, 1000000, 1000000, 1000000, 1000000, 1000000, 1000000, 1000000, 1000000, 1000000, 360], [], [1000000, 1000000, 1000000, 1000000, 1000000, 1000000, 1000000, 1000000, 1000000, 1000000, 362], [], [1000000, 1000000, 1000000, 1000000, 1000000, 1000000, 1000000, 1000000, 1000000, 1000000, 364], [], [1000000, 1000000, 1000000, 1000000, 1000000, 1000000, 1000000, 1000000, 1000000, 1000000, 366], [], [1000000, 1000000, 1000000, 1000000, 1000000, 1000000, 1000000, 1000000, 1000000, 1000000, 368], [], [1000000, 1000000, 1000000, 1000000, 1000000, 1000000, 1000000, 1000000, 1000000, 1000000, 370], [], [1000000, 1000000, 1000000, 1000000, 1000000, 1000000, 1000000, 1000000, 1000000, 1000000, 372], [], [1000000, 1000000, 1000000, 1000000, 1000000, 1000000, 1000000, 1000000, 1000000, 1000000, 374], [], [1000000, 1000000, 1000000, 1000000, 1000000, 1000000, 1000000, 1000000, 1000000, 1000000, 376], [], [1000000, 1000000, 1000000, 1000000, 1000000, 1000000, 1000000, 1000000, 1000000, 1000000, 378], [], [1000000, 1000000, 1000000, 1000000, 1000000, 1000000, 1000000, 1000000, 1000000, 1000000, 380], [], [1000000, 1000000, 1000000, 1000000, 1000000, 1000000, 1000000, 1000000, 1000000, 1000000, 382], [], [1000000, 1000000, 1000000, 1000000, 1000000, 1000000, 1000000, 1000000, 1000000, 1000000, 384], [], [1000000, 1000000, 1000000, 1000000, 1000000, 1000000, 1000000, 1000000, 1000000, 1000000, 386], [], [388, 415, 1000000, 1000000, 417, 1000000, 418, 419], [389, 390, 406], [], [391, 392, 393, 394, 395, 396, 397, 398, 399, 400, 401, 402, 403, 404, 405], [], [], [], [], [], [], [], [], [], [], [], [], [], [], [], [407, 408, 409, 410, 411, 412, 413, 414], [], [], [], [], [], [], [], [], [1000000, 1000000, 1000000, 1000000, 1000000, 1000000, 1000000, 1000000, 1000000, 1000000, 416], [], [], [], [], [1000000, 1000000, 1000000, 1000000, 1000000, 1000000, 1000000, 1000000, 1000000, 1000000, 421], [], [1000000, 1000000, 1000000, 1000000, 1000000, 1000000, 1000000, 1000000, 1000000, 1000000, 423], [], [1000000, 1000000, 1000000, 1000000, 1000000, 1000000, 1000000, 1000000, 1000000, 1000000, 425], [], [1000000, 1000000, 1000000, 1000000, 1000000, 1000000, 1000000, 1000000, 1000000, 1000000, 427], [], [1000000, 1000000, 1000000, 1000000, 1000000, 1000000, 1000000, 1000000, 1000000, 1000000, 429], [], [1000000, 1000000, 1000000, 1000000, 1000000, 1000000, 1000000, 1000000, 1000000, 1000000, 431], [], [1000000, 1000000, 1000000, 1000000, 1000000, 1000000, 1000000, 1000000, 1000000, 1000000, 433], [], [1000000, 1000000, 1000000, 1000000, 1000000, 1000000, 1000000, 1000000, 1000000, 1000000, 435], [], [1000000, 1000000, 1000000, 1000000, 1000000, 1000000, 1000000, 1000000, 1000000, 1000000, 437], [], [1000000, 1000000, 1000000, 1000000, 1000000, 1000000, 1000000, 1000000, 1000000, 1000000, 439], [], [1000000, 1000000, 1000000, 1000000, 1000000, 1000000, 1000000, 1000000, 1000000, 1000000, 441], [], [1000000, 1000000, 1000000, 1000000, 1000000, 1000000, 1000000, 1000000, 1000000, 1000000, 443], [], [1000000, 1000000, 1000000, 1000000, 1000000, 1000000, 1000000, 1000000, 1000000, 1000000, 445], [], [1000000, 1000000, 1000000, 1000000, 1000000, 1000000, 1000000, 1000000, 1000000, 1000000, 447], [], [1000000, 1000000, 1000000, 1000000, 1000000, 1000000, 1000000, 1000000, 1000000, 1000000, 449], [], [1000000, 1000000, 1000000, 1000000, 1000000, 1000000, 1000000, 1000000, 1000000, 1000000, 451], [], [1000000, 1000000, 1000000, 1000000, 1000000, 1000000, 1000000, 1000000, 1000000, 1000000, 453], [], [1000000, 1000000, 1000000, 1000000, 1000000, 1000000, 1000000, 1000000, 1000000, 1000000, 455], [], [1000000, 1000000, 1000000, 1000000, 1000000, 1000000, 1000000, 1000000, 1000000, 1000000, 457], [], [1000000, 1000000, 1000000, 1000000, 1000000, 1000000, 1000000, 1000000, 1000000, 1000000, 459], [], [1000000, 461, 462, 463, 464, 465, 466, 467, 468, 469, 470, 471, 472, 473, 474, 475, 476, 477, 478, 479, 480, 481, 482, 483, 484, 1000000, 1000000, 1000000, 1000000, 1000000, 1000000, 1000000, 1000000, 1000000, 1000000, 1000000, 485, 486, 487, 488, 489, 490, 491, 492, 493, 494, 495, 1000000, 1000000, 1000000, 1000000, 1000000, 496, 497, 498, 1000000, 1000000, 1000000, 499, 500, 501, 502, 503, 504], [], [], [], [], [], [], [], [], [], [], [], [], [], [], [], [], [], [], [], [], [], [], [], [], [], [], [], [], [], [], [], [], [], [], [], [], [], [], [], [], [], [], [], []]
def zgr (a k : Nat) : Nat := (zgrL.getD a []).getD k 1000000
/-- cell a is of kind c -/
def zqk (a c : Nat) : Bool := Nat.blt a 505 && Nat.beq (zsh a).1 c
theorem zqk_lt {a c : Nat} (h : zqk a c = true) : a < 505 := by
  unfold zqk at h
  rw [Bool.and_eq_true] at h
  exact Nat.blt_eq ▸ h.1
theorem zqk_sh {a c : Nat} (h : zqk a c = true) : (zsh a).1 = c := by
  unfold zqk at h
  rw [Bool.and_eq_true] at h
  exact Nat.eq_of_beq_eq_true h.2
/-- the references stand as the constructors left them; those of a row of past states may have changed places -/
def zGE (M : zM) : Prop := M.2.2.2 = 505 ∧ (∀ a k, zgr a k < 1000000 → M.2.2.1 a k = zgr a k) ∧ (∀ r, zqk r 6 = true → (∀ i, i < 20 → ∃ j, j < 20 ∧ M.2.2.1 (r + 30) i = r + 33 + 2 * j) ∧ (∀ i j, i < 20 → j < 20 → M.2.2.1 (r + 30) i = M.2.2.1 (r + 30) j → i = j))
theorem zGE_of {M M' : zM} (h : zGE M) (h2 : M'.2.2 = M.2.2) : zGE M' := by
  unfold zGE at h ⊢
  rw [h2]
  exact h
theorem zge_rd {M : zM} {a k v : Nat} (h : zGE M) (h1 : zgr a k = v) (h2 : v < 1000000) : M.2.2.1 a k = v := by
  rw [h.2.1 a k (by omega), h1]
theorem zgall (p : Nat → Bool) (h : (List.range 505).all p = true) {a : Nat} (ha : a < 505) : p a = true := (List.all_eq_true.mp h) a (List.mem_range.mpr ha)
theorem zgimp {p q : Nat → Bool} (h : (List.range 505).all (fun a => (! p a) || q a) = true) {a : Nat} (ha : a < 505) (hp : p a = true) : q a = true := by
  have h1 := zgall _ h ha
  simp only [hp, Bool.not_true, Bool.false_or] at h1
  exact h1
theorem zge_rel {M : zM} {a c k o : Nat} (h : zGE M) (hc : zqk a c = true) (ht : (List.range 505).all (fun a => (! zqk a c) || Nat.beq (zgr a k) (a + o) && Nat.blt (a + o) 1000000) = true) : M.2.2.1 a k = a + o := by
  have h1 := zgimp ht (zqk_lt hc) hc
  rw [Bool.and_eq_true] at h1
  exact zge_rd h (Nat.eq_of_beq_eq_true h1.1) (Nat.blt_eq ▸ h1.2)
theorem zge_rel2 {M : zM} {a c o j u : Nat} (h : zGE M) (hc : zqk a c = true) (ht : (List.range 505).all (fun a => (! zqk a c) || Nat.beq (zgr (a + o) j) (a + u) && Nat.blt (a + u) 1000000) = true) : M.2.2.1 (a + o) j = a + u := by
  have h1 := zgimp ht (zqk_lt hc) hc
  rw [Bool.and_eq_true] at h1
  exact zge_rd h (Nat.eq_of_beq_eq_true h1.1) (Nat.blt_eq ▸ h1.2)
theorem zqk_rel {a c o t : Nat} (hc : zqk a c = true) (ht : (List.range 505).all (fun a => (! zqk a c) || zqk (a + o) t) = true) : zqk (a + o) t = true := zgimp ht (zqk_lt hc) hc
theorem zln_rel {a c o n : Nat} (hc : zqk a c = true) (ht : (List.range 505).all (fun a => (! zqk a c) || Nat.beq (zln (a + o)) n) = true) : zln (a + o) = n := Nat.eq_of_beq_eq_true (zgimp ht (zqk_lt hc) hc)
theorem zge_rel3 {M : zM} {a c o n i u : Nat} (h : zGE M) (hc : zqk a c = true) (hi : i < n) (ht : (List.range 505).all (fun a => (! zqk a c) || (List.range n).all (fun i => Nat.beq (zgr (a + o) i) (a + u + i) && Nat.blt (a + u + i) 1000000)) = true) : M.2.2.1 (a + o) i = a + u + i := by
  have h1 := (List.all_eq_true.mp (zgimp ht (zqk_lt hc) hc)) i (List.mem_range.mpr hi)
  rw [Bool.and_eq_true] at h1
  exact zge_rd h (Nat.eq_of_beq_eq_true h1.1) (Nat.blt_eq ▸ h1.2)
theorem zqk_rel3 {a c n i u t : Nat} (hc : zqk a c = true) (hi : i < n) (ht : (List.range 505).all (fun a => (! zqk a c) || (List.range n).all (fun i => zqk (a + u + i) t)) = true) : zqk (a + u + i) t = true := (List.all_eq_true.mp (zgimp ht (zqk_lt hc) hc)) i (List.mem_range.mpr hi)
theorem zln_rel3 {a c n i u m : Nat} (hc : zqk a c = true) (hi : i < n) (ht : (List.range 505).all (fun a => (! zqk a c) || (List.range n).all (fun i => Nat.beq (zln (a + u + i)) m)) = true) : zln (a + u + i) = m := Nat.eq_of_beq_eq_true ((List.all_eq_true.mp (zgimp ht (zqk_lt hc) hc)) i (List.mem_range.mpr hi))
theorem zis_q {M : zM} {a c : Nat} (h : zGE M) (hq : zqk a c = true) : zis M a c := ⟨by have := h.1; have := zqk_lt hq; omega, zqk_sh hq⟩
theorem zGE_I {M : zM} {a k : Nat} {x : Int32} : zGE (zsI M a k x) = zGE M := rfl
theorem zGE_L {M : zM} {a k : Nat} {x : Int64} : zGE (zsL M a k x) = zGE M := rfl
theorem zGE_r {M : zM} {a : Nat} {r : Nat → Int32} : zGE (zrI M a r) = zGE M := rfl
theorem zis_I {M : zM} {a k b c : Nat} {x : Int32} : zis (zsI M a k x) b c = zis M b c := rfl
theorem zis_L {M : zM} {a k b c : Nat} {x : Int64} : zis (zsL M a k x) b c = zis M b c := rfl
theorem zis_r {M : zM} {a b c : Nat} {r : Nat → Int32} : zis (zrI M a r) b c = zis M b c := rfl
theorem z2_I {M : zM} {a k : Nat} {x : Int32} : (zsI M a k x).2 = M.2 := rfl
theorem z2_r {M : zM} {a : Nat} {r : Nat → Int32} : (zrI M a r).2 = M.2 := rfl
theorem z22_L {M : zM} {a k : Nat} {x : Int64} : (zsL M a k x).2.2 = M.2.2 := rfl
theorem z1_L {M : zM} {a k : Nat} {x : Int64} : (zsL M a k x).1 = M.1 := rfl
theorem zI_s {M : zM} {a k j : Nat} {x : Int32} : (zsI M a k x).1 a j = if j = k then x else M.1 a j := by simp [zsI, zup]
theorem zI_n {M : zM} {a b k j : Nat} {x : Int32} (h : ¬ b = a) : (zsI M a k x).1 b j = M.1 b j := by simp [zsI, zup, h]
theorem zI_n1 {M : zM} {a b k : Nat} {x : Int32} (h : ¬ b = a) : (zsI M a k x).1 b = M.1 b := by simp [zsI, zup, h]
theorem zI_s1 {M : zM} {a k : Nat} {x : Int32} : (zsI M a k x).1 a = fun j => if j = k then x else M.1 a j := by simp [zsI, zup]
theorem zL_s {M : zM} {a k j : Nat} {x : Int64} : (zsL M a k x).2.1 a j = if j = k then x else M.2.1 a j := by simp [zsL, zup]
theorem zL_n {M : zM} {a b k j : Nat} {x : Int64} (h : ¬ b = a) : (zsL M a k x).2.1 b j = M.2.1 b j := by simp [zsL, zup, h]
theorem zr_s {M : zM} {a : Nat} {r : Nat → Int32} : (zrI M a r).1 a = r := by simp [zrI, zro]
theorem zr_n {M : zM} {a b : Nat} {r : Nat → Int32} (h : ¬ b = a) : (zrI M a r).1 b = M.1 b := by simp [zrI, zro, h]
theorem vp_iff {x : Int32} {n : Nat} : vp_in x n ↔ ¬ x < 0 ∧ ¬ n ≤ x.toNatClampNeg := by unfold vp_in; exact not_or
theorem toNat_of {k : Nat} (h : k < 2147483648) : (Int32.ofNat k).toNatClampNeg = k := by
  rw [Int32.toNatClampNeg, Int32.toInt_ofNat_of_lt h]; rfl
theorem of_lt {j k : Nat} (hj : j < 2147483648) (hk : k < 2147483648) : (Int32.ofNat j < Int32.ofNat k) ↔ j < k := by
  rw [Int32.lt_iff_toInt_lt, Int32.toInt_ofNat_of_lt hj, Int32.toInt_ofNat_of_lt hk]; omega
theorem of_le {j k : Nat} (hj : j < 2147483648) (hk : k < 2147483648) : (Int32.ofNat j ≤ Int32.ofNat k) ↔ j ≤ k := by
  rw [Int32.le_iff_toInt_le, Int32.toInt_ofNat_of_lt hj, Int32.toInt_ofNat_of_lt hk]; omega
theorem of_inj {j k : Nat} (hj : j < 2147483648) (hk : k < 2147483648) : (Int32.ofNat j = Int32.ofNat k) ↔ j = k := by
  constructor
  · intro h
    have h1 := congrArg Int32.toInt h
    rw [Int32.toInt_ofNat_of_lt hj, Int32.toInt_ofNat_of_lt hk] at h1
    omega
  · intro h; rw [h]
theorem of_succ (k : Nat) : Int32.ofNat k + 1 = Int32.ofNat (k + 1) := by rw [Int32.ofNat_add]; rfl
theorem vp_of {k n : Nat} (h : k < n) (hn : n ≤ 100000) : vp_in (Int32.ofNat k) n := by
  rw [vp_iff, toNat_of (by omega)]
  refine ⟨?_, by omega⟩
  have h0 : (0 : Int32) = Int32.ofNat 0 := rfl
  rw [h0, of_lt (by omega) (by omega)]
  omega

theorem gf0_0 {M : zM} {a : Nat} (h : zGE M) (hc : zqk a 0 = true) : M.2.2.1 a 0 = a + 1 := zge_rel h hc (by decide +kernel)
theorem gq0_0 {a : Nat} (hc : zqk a 0 = true) : zqk (a + 1) 20 = true := zqk_rel hc (by decide +kernel)
theorem gl0_0 {a : Nat} (hc : zqk a 0 = true) : zln (a + 1) = 4 := zln_rel hc (by decide +kernel)
theorem gf0_9 {M : zM} {a : Nat} (h : zGE M) (hc : zqk a 0 = true) : M.2.2.1 a 9 = a + 2 := zge_rel h hc (by decide +kernel)
theorem gq0_9 {a : Nat} (hc : zqk a 0 = true) : zqk (a + 2) 22 = true := zqk_rel hc (by decide +kernel)
theorem gl0_9 {a : Nat} (hc : zqk a 0 = true) : zln (a + 2) = 4 := zln_rel hc (by decide +kernel)
theorem gf0_10 {M : zM} {a : Nat} (h : zGE M) (hc : zqk a 0 = true) : M.2.2.1 a 10 = a + 3 := zge_rel h hc (by decide +kernel)
theorem gq0_10 {a : Nat} (hc : zqk a 0 = true) : zqk (a + 3) 20 = true := zqk_rel hc (by decide +kernel)
theorem gl0_10 {a : Nat} (hc : zqk a 0 = true) : zln (a + 3) = 4 := zln_rel hc (by decide +kernel)
theorem gf0_11 {M : zM} {a : Nat} (h : zGE M) (hc : zqk a 0 = true) : M.2.2.1 a 11 = a + 4 := zge_rel h hc (by decide +kernel)
theorem gq0_11 {a : Nat} (hc : zqk a 0 = true) : zqk (a + 4) 23 = true := zqk_rel hc (by decide +kernel)
theorem gl0_11 {a : Nat} (hc : zqk a 0 = true) : zln (a + 4) = 64 := zln_rel hc (by decide +kernel)
theorem gf1_0 {M : zM} {a : Nat} (h : zGE M) (hc : zqk a 1 = true) : M.2.2.1 a 0 = a + 1 := zge_rel h hc (by decide +kernel)
theorem gq1_0 {a : Nat} (hc : zqk a 1 = true) : zqk (a + 1) 20 = true := zqk_rel hc (by decide +kernel)
theorem gl1_0 {a : Nat} (hc : zqk a 1 = true) : zln (a + 1) = 5 := zln_rel hc (by decide +kernel)
theorem gf1_1 {M : zM} {a : Nat} (h : zGE M) (hc : zqk a 1 = true) : M.2.2.1 a 1 = a + 2 := zge_rel h hc (by decide +kernel)
theorem gq1_1 {a : Nat} (hc : zqk a 1 = true) : zqk (a + 2) 24 = true := zqk_rel hc (by decide +kernel)
theorem gl1_1 {a : Nat} (hc : zqk a 1 = true) : zln (a + 2) = 15 := zln_rel hc (by decide +kernel)
theorem gr1_1_0 {M : zM} {a : Nat} (h : zGE M) (hc : zqk a 1 = true) : M.2.2.1 (a + 2) 0 = a + 3 := zge_rel2 h hc (by decide +kernel)
theorem gs1_1_0 {a : Nat} (hc : zqk a 1 = true) : zqk (a + 3) 20 = true := zqk_rel hc (by decide +kernel)
theorem gt1_1_0 {a : Nat} (hc : zqk a 1 = true) : zln (a + 3) = 8 := zln_rel hc (by decide +kernel)
theorem gr1_1_1 {M : zM} {a : Nat} (h : zGE M) (hc : zqk a 1 = true) : M.2.2.1 (a + 2) 1 = a + 4 := zge_rel2 h hc (by decide +kernel)
theorem gs1_1_1 {a : Nat} (hc : zqk a 1 = true) : zqk (a + 4) 20 = true := zqk_rel hc (by decide +kernel)
theorem gt1_1_1 {a : Nat} (hc : zqk a 1 = true) : zln (a + 4) = 8 := zln_rel hc (by decide +kernel)
theorem gr1_1_2 {M : zM} {a : Nat} (h : zGE M) (hc : zqk a 1 = true) : M.2.2.1 (a + 2) 2 = a + 5 := zge_rel2 h hc (by decide +kernel)
theorem gs1_1_2 {a : Nat} (hc : zqk a 1 = true) : zqk (a + 5) 20 = true := zqk_rel hc (by decide +kernel)
theorem gt1_1_2 {a : Nat} (hc : zqk a 1 = true) : zln (a + 5) = 8 := zln_rel hc (by decide +kernel)
theorem gr1_1_3 {M : zM} {a : Nat} (h : zGE M) (hc : zqk a 1 = true) : M.2.2.1 (a + 2) 3 = a + 6 := zge_rel2 h hc (by decide +kernel)
theorem gs1_1_3 {a : Nat} (hc : zqk a 1 = true) : zqk (a + 6) 20 = true := zqk_rel hc (by decide +kernel)
theorem gt1_1_3 {a : Nat} (hc : zqk a 1 = true) : zln (a + 6) = 8 := zln_rel hc (by decide +kernel)
theorem gr1_1_4 {M : zM} {a : Nat} (h : zGE M) (hc : zqk a 1 = true) : M.2.2.1 (a + 2) 4 = a + 7 := zge_rel2 h hc (by decide +kernel)
theorem gs1_1_4 {a : Nat} (hc : zqk a 1 = true) : zqk (a + 7) 20 = true := zqk_rel hc (by decide +kernel)
theorem gt1_1_4 {a : Nat} (hc : zqk a 1 = true) : zln (a + 7) = 8 := zln_rel hc (by decide +kernel)
theorem gr1_1_5 {M : zM} {a : Nat} (h : zGE M) (hc : zqk a 1 = true) : M.2.2.1 (a + 2) 5 = a + 8 := zge_rel2 h hc (by decide +kernel)
theorem gs1_1_5 {a : Nat} (hc : zqk a 1 = true) : zqk (a + 8) 20 = true := zqk_rel hc (by decide +kernel)
theorem gt1_1_5 {a : Nat} (hc : zqk a 1 = true) : zln (a + 8) = 8 := zln_rel hc (by decide +kernel)
theorem gr1_1_6 {M : zM} {a : Nat} (h : zGE M) (hc : zqk a 1 = true) : M.2.2.1 (a + 2) 6 = a + 9 := zge_rel2 h hc (by decide +kernel)
theorem gs1_1_6 {a : Nat} (hc : zqk a 1 = true) : zqk (a + 9) 20 = true := zqk_rel hc (by decide +kernel)
theorem gt1_1_6 {a : Nat} (hc : zqk a 1 = true) : zln (a + 9) = 8 := zln_rel hc (by decide +kernel)
theorem gr1_1_7 {M : zM} {a : Nat} (h : zGE M) (hc : zqk a 1 = true) : M.2.2.1 (a + 2) 7 = a + 10 := zge_rel2 h hc (by decide +kernel)
theorem gs1_1_7 {a : Nat} (hc : zqk a 1 = true) : zqk (a + 10) 20 = true := zqk_rel hc (by decide +kernel)
theorem gt1_1_7 {a : Nat} (hc : zqk a 1 = true) : zln (a + 10) = 8 := zln_rel hc (by decide +kernel)
theorem gr1_1_8 {M : zM} {a : Nat} (h : zGE M) (hc : zqk a 1 = true) : M.2.2.1 (a + 2) 8 = a + 11 := zge_rel2 h hc (by decide +kernel)
theorem gs1_1_8 {a : Nat} (hc : zqk a 1 = true) : zqk (a + 11) 20 = true := zqk_rel hc (by decide +kernel)
theorem gt1_1_8 {a : Nat} (hc : zqk a 1 = true) : zln (a + 11) = 8 := zln_rel hc (by decide +kernel)
theorem gr1_1_9 {M : zM} {a : Nat} (h : zGE M) (hc : zqk a 1 = true) : M.2.2.1 (a + 2) 9 = a + 12 := zge_rel2 h hc (by decide +kernel)
theorem gs1_1_9 {a : Nat} (hc : zqk a 1 = true) : zqk (a + 12) 20 = true := zqk_rel hc (by decide +kernel)
theorem gt1_1_9 {a : Nat} (hc : zqk a 1 = true) : zln (a + 12) = 8 := zln_rel hc (by decide +kernel)
theorem gr1_1_10 {M : zM} {a : Nat} (h : zGE M) (hc : zqk a 1 = true) : M.2.2.1 (a + 2) 10 = a + 13 := zge_rel2 h hc (by decide +kernel)
theorem gs1_1_10 {a : Nat} (hc : zqk a 1 = true) : zqk (a + 13) 20 = true := zqk_rel hc (by decide +kernel)
theorem gt1_1_10 {a : Nat} (hc : zqk a 1 = true) : zln (a + 13) = 8 := zln_rel hc (by decide +kernel)
theorem gr1_1_11 {M : zM} {a : Nat} (h : zGE M) (hc : zqk a 1 = true) : M.2.2.1 (a + 2) 11 = a + 14 := zge_rel2 h hc (by decide +kernel)
theorem gs1_1_11 {a : Nat} (hc : zqk a 1 = true) : zqk (a + 14) 20 = true := zqk_rel hc (by decide +kernel)
theorem gt1_1_11 {a : Nat} (hc : zqk a 1 = true) : zln (a + 14) = 8 := zln_rel hc (by decide +kernel)
theorem gr1_1_12 {M : zM} {a : Nat} (h : zGE M) (hc : zqk a 1 = true) : M.2.2.1 (a + 2) 12 = a + 15 := zge_rel2 h hc (by decide +kernel)
theorem gs1_1_12 {a : Nat} (hc : zqk a 1 = true) : zqk (a + 15) 20 = true := zqk_rel hc (by decide +kernel)
theorem gt1_1_12 {a : Nat} (hc : zqk a 1 = true) : zln (a + 15) = 8 := zln_rel hc (by decide +kernel)
theorem gr1_1_13 {M : zM} {a : Nat} (h : zGE M) (hc : zqk a 1 = true) : M.2.2.1 (a + 2) 13 = a + 16 := zge_rel2 h hc (by decide +kernel)
theorem gs1_1_13 {a : Nat} (hc : zqk a 1 = true) : zqk (a + 16) 20 = true := zqk_rel hc (by decide +kernel)
theorem gt1_1_13 {a : Nat} (hc : zqk a 1 = true) : zln (a + 16) = 8 := zln_rel hc (by decide +kernel)
theorem gr1_1_14 {M : zM} {a : Nat} (h : zGE M) (hc : zqk a 1 = true) : M.2.2.1 (a + 2) 14 = a + 17 := zge_rel2 h hc (by decide +kernel)
theorem gs1_1_14 {a : Nat} (hc : zqk a 1 = true) : zqk (a + 17) 20 = true := zqk_rel hc (by decide +kernel)
theorem gt1_1_14 {a : Nat} (hc : zqk a 1 = true) : zln (a + 17) = 8 := zln_rel hc (by decide +kernel)
theorem gv1_1 {M : zM} {a i : Nat} (h : zGE M) (hc : zqk a 1 = true) (hi : i < 15) : M.2.2.1 (a + 2) i = a + 3 + i := zge_rel3 h hc hi (by decide +kernel)
theorem gw1_1 {a i : Nat} (hc : zqk a 1 = true) (hi : i < 15) : zqk (a + 3 + i) 20 = true := zqk_rel3 hc hi (by decide +kernel)
theorem gx1_1 {a i : Nat} (hc : zqk a 1 = true) (hi : i < 15) : zln (a + 3 + i) = 8 := zln_rel3 hc hi (by decide +kernel)
theorem gf1_2 {M : zM} {a : Nat} (h : zGE M) (hc : zqk a 1 = true) : M.2.2.1 a 2 = a + 18 := zge_rel h hc (by decide +kernel)
theorem gq1_2 {a : Nat} (hc : zqk a 1 = true) : zqk (a + 18) 24 = true := zqk_rel hc (by decide +kernel)
theorem gl1_2 {a : Nat} (hc : zqk a 1 = true) : zln (a + 18) = 8 := zln_rel hc (by decide +kernel)
theorem gr1_2_0 {M : zM} {a : Nat} (h : zGE M) (hc : zqk a 1 = true) : M.2.2.1 (a + 18) 0 = a + 19 := zge_rel2 h hc (by decide +kernel)
theorem gs1_2_0 {a : Nat} (hc : zqk a 1 = true) : zqk (a + 19) 20 = true := zqk_rel hc (by decide +kernel)
theorem gt1_2_0 {a : Nat} (hc : zqk a 1 = true) : zln (a + 19) = 8 := zln_rel hc (by decide +kernel)
theorem gr1_2_1 {M : zM} {a : Nat} (h : zGE M) (hc : zqk a 1 = true) : M.2.2.1 (a + 18) 1 = a + 20 := zge_rel2 h hc (by decide +kernel)
theorem gs1_2_1 {a : Nat} (hc : zqk a 1 = true) : zqk (a + 20) 20 = true := zqk_rel hc (by decide +kernel)
theorem gt1_2_1 {a : Nat} (hc : zqk a 1 = true) : zln (a + 20) = 8 := zln_rel hc (by decide +kernel)
theorem gr1_2_2 {M : zM} {a : Nat} (h : zGE M) (hc : zqk a 1 = true) : M.2.2.1 (a + 18) 2 = a + 21 := zge_rel2 h hc (by decide +kernel)
theorem gs1_2_2 {a : Nat} (hc : zqk a 1 = true) : zqk (a + 21) 20 = true := zqk_rel hc (by decide +kernel)
theorem gt1_2_2 {a : Nat} (hc : zqk a 1 = true) : zln (a + 21) = 8 := zln_rel hc (by decide +kernel)
theorem gr1_2_3 {M : zM} {a : Nat} (h : zGE M) (hc : zqk a 1 = true) : M.2.2.1 (a + 18) 3 = a + 22 := zge_rel2 h hc (by decide +kernel)
theorem gs1_2_3 {a : Nat} (hc : zqk a 1 = true) : zqk (a + 22) 20 = true := zqk_rel hc (by decide +kernel)
theorem gt1_2_3 {a : Nat} (hc : zqk a 1 = true) : zln (a + 22) = 8 := zln_rel hc (by decide +kernel)
theorem gr1_2_4 {M : zM} {a : Nat} (h : zGE M) (hc : zqk a 1 = true) : M.2.2.1 (a + 18) 4 = a + 23 := zge_rel2 h hc (by decide +kernel)
theorem gs1_2_4 {a : Nat} (hc : zqk a 1 = true) : zqk (a + 23) 20 = true := zqk_rel hc (by decide +kernel)
theorem gt1_2_4 {a : Nat} (hc : zqk a 1 = true) : zln (a + 23) = 8 := zln_rel hc (by decide +kernel)
theorem gr1_2_5 {M : zM} {a : Nat} (h : zGE M) (hc : zqk a 1 = true) : M.2.2.1 (a + 18) 5 = a + 24 := zge_rel2 h hc (by decide +kernel)
theorem gs1_2_5 {a : Nat} (hc : zqk a 1 = true) : zqk (a + 24) 20 = true := zqk_rel hc (by decide +kernel)
theorem gt1_2_5 {a : Nat} (hc : zqk a 1 = true) : zln (a + 24) = 8 := zln_rel hc (by decide +kernel)
theorem gr1_2_6 {M : zM} {a : Nat} (h : zGE M) (hc : zqk a 1 = true) : M.2.2.1 (a + 18) 6 = a + 25 := zge_rel2 h hc (by decide +kernel)
theorem gs1_2_6 {a : Nat} (hc : zqk a 1 = true) : zqk (a + 25) 20 = true := zqk_rel hc (by decide +kernel)
theorem gt1_2_6 {a : Nat} (hc : zqk a 1 = true) : zln (a + 25) = 8 := zln_rel hc (by decide +kernel)
theorem gr1_2_7 {M : zM} {a : Nat} (h : zGE M) (hc : zqk a 1 = true) : M.2.2.1 (a + 18) 7 = a + 26 := zge_rel2 h hc (by decide +kernel)
theorem gs1_2_7 {a : Nat} (hc : zqk a 1 = true) : zqk (a + 26) 20 = true := zqk_rel hc (by decide +kernel)
theorem gt1_2_7 {a : Nat} (hc : zqk a 1 = true) : zln (a + 26) = 8 := zln_rel hc (by decide +kernel)
theorem gv1_2 {M : zM} {a i : Nat} (h : zGE M) (hc : zqk a 1 = true) (hi : i < 8) : M.2.2.1 (a + 18) i = a + 19 + i := zge_rel3 h hc hi (by decide +kernel)
theorem gw1_2 {a i : Nat} (hc : zqk a 1 = true) (hi : i < 8) : zqk (a + 19 + i) 20 = true := zqk_rel3 hc hi (by decide +kernel)
theorem gx1_2 {a i : Nat} (hc : zqk a 1 = true) (hi : i < 8) : zln (a + 19 + i) = 8 := zln_rel3 hc hi (by decide +kernel)
theorem gf2_0 {M : zM} (h : zGE M) : M.2.2.1 6 0 = 1 := zge_rd h rfl (by decide)
theorem gf2_1 {M : zM} (h : zGE M) : M.2.2.1 6 1 = 7 := zge_rd h rfl (by decide)
theorem gf3_0 {M : zM} (h : zGE M) : M.2.2.1 119 0 = 120 := zge_rd h rfl (by decide)
theorem gf3_1 {M : zM} (h : zGE M) : M.2.2.1 119 1 = 122 := zge_rd h rfl (by decide)
theorem gf3_2 {M : zM} (h : zGE M) : M.2.2.1 119 2 = 124 := zge_rd h rfl (by decide)
theorem gf4_0 {M : zM} (h : zGE M) : M.2.2.1 129 0 = 130 := zge_rd h rfl (by decide)
theorem gf4_1 {M : zM} (h : zGE M) : M.2.2.1 129 1 = 138 := zge_rd h rfl (by decide)
theorem gf4_3 {M : zM} (h : zGE M) : M.2.2.1 129 3 = 139 := zge_rd h rfl (by decide)
theorem gf4_4 {M : zM} (h : zGE M) : M.2.2.1 129 4 = 141 := zge_rd h rfl (by decide)
theorem gf5_0 {M : zM} (h : zGE M) : M.2.2.1 146 0 = 147 := zge_rd h rfl (by decide)
theorem gf5_4 {M : zM} (h : zGE M) : M.2.2.1 146 4 = 148 := zge_rd h rfl (by decide)
theorem gf5_5 {M : zM} (h : zGE M) : M.2.2.1 146 5 = 149 := zge_rd h rfl (by decide)
theorem gf6_0 {M : zM} {a : Nat} (h : zGE M) (hc : zqk a 6 = true) : M.2.2.1 a 0 = a + 1 := zge_rel h hc (by decide +kernel)
theorem gq6_0 {a : Nat} (hc : zqk a 6 = true) : zqk (a + 1) 1 = true := zqk_rel hc (by decide +kernel)
theorem gf6_1 {M : zM} {a : Nat} (h : zGE M) (hc : zqk a 6 = true) : M.2.2.1 a 1 = a + 28 := zge_rel h hc (by decide +kernel)
theorem gq6_1 {a : Nat} (hc : zqk a 6 = true) : zqk (a + 28) 9 = true := zqk_rel hc (by decide +kernel)
theorem gf6_4 {M : zM} {a : Nat} (h : zGE M) (hc : zqk a 6 = true) : M.2.2.1 a 4 = a + 30 := zge_rel h hc (by decide +kernel)
theorem gq6_4 {a : Nat} (hc : zqk a 6 = true) : zqk (a + 30) 25 = true := zqk_rel hc (by decide +kernel)
theorem gl6_4 {a : Nat} (hc : zqk a 6 = true) : zln (a + 30) = 20 := zln_rel hc (by decide +kernel)
theorem gf6_6 {M : zM} {a : Nat} (h : zGE M) (hc : zqk a 6 = true) : M.2.2.1 a 6 = a + 31 := zge_rel h hc (by decide +kernel)
theorem gq6_6 {a : Nat} (hc : zqk a 6 = true) : zqk (a + 31) 20 = true := zqk_rel hc (by decide +kernel)
theorem gl6_6 {a : Nat} (hc : zqk a 6 = true) : zln (a + 31) = 10 := zln_rel hc (by decide +kernel)
theorem gf6_7 {M : zM} {a : Nat} (h : zGE M) (hc : zqk a 6 = true) : M.2.2.1 a 7 = a + 32 := zge_rel h hc (by decide +kernel)
theorem gq6_7 {a : Nat} (hc : zqk a 6 = true) : zqk (a + 32) 20 = true := zqk_rel hc (by decide +kernel)
theorem gl6_7 {a : Nat} (hc : zqk a 6 = true) : zln (a + 32) = 10 := zln_rel hc (by decide +kernel)
theorem gf7_0 {M : zM} {a : Nat} (h : zGE M) (hc : zqk a 7 = true) : M.2.2.1 a 0 = a + 1 := zge_rel h hc (by decide +kernel)
theorem gq7_0 {a : Nat} (hc : zqk a 7 = true) : zqk (a + 1) 20 = true := zqk_rel hc (by decide +kernel)
theorem gl7_0 {a : Nat} (hc : zqk a 7 = true) : zln (a + 1) = 400 := zln_rel hc (by decide +kernel)
theorem gf7_1 {M : zM} {a : Nat} (h : zGE M) (hc : zqk a 7 = true) : M.2.2.1 a 1 = a + 2 := zge_rel h hc (by decide +kernel)
theorem gq7_1 {a : Nat} (hc : zqk a 7 = true) : zqk (a + 2) 20 = true := zqk_rel hc (by decide +kernel)
theorem gl7_1 {a : Nat} (hc : zqk a 7 = true) : zln (a + 2) = 400 := zln_rel hc (by decide +kernel)
theorem gf8_0 {M : zM} (h : zGE M) : M.2.2.1 34 0 = 1 := zge_rd h rfl (by decide)
theorem gf8_1 {M : zM} (h : zGE M) : M.2.2.1 34 1 = 35 := zge_rd h rfl (by decide)
theorem gf9_10 {M : zM} {a : Nat} (h : zGE M) (hc : zqk a 9 = true) : M.2.2.1 a 10 = a + 1 := zge_rel h hc (by decide +kernel)
theorem gq9_10 {a : Nat} (hc : zqk a 9 = true) : zqk (a + 1) 20 = true := zqk_rel hc (by decide +kernel)
theorem gl9_10 {a : Nat} (hc : zqk a 9 = true) : zln (a + 1) = 4 := zln_rel hc (by decide +kernel)
theorem gf10_0 {M : zM} (h : zGE M) : M.2.2.1 1 0 = 2 := zge_rd h rfl (by decide)
theorem gf10_2 {M : zM} (h : zGE M) : M.2.2.1 1 2 = 3 := zge_rd h rfl (by decide)
theorem gf10_3 {M : zM} (h : zGE M) : M.2.2.1 1 3 = 4 := zge_rd h rfl (by decide)
theorem gf10_4 {M : zM} (h : zGE M) : M.2.2.1 1 4 = 5 := zge_rd h rfl (by decide)
theorem gf11_0 {M : zM} (h : zGE M) : M.2.2.1 0 0 = 1 := zge_rd h rfl (by decide)
theorem gf11_1 {M : zM} (h : zGE M) : M.2.2.1 0 1 = 6 := zge_rd h rfl (by decide)
theorem gf11_2 {M : zM} (h : zGE M) : M.2.2.1 0 2 = 34 := zge_rd h rfl (by decide)
theorem gf11_3 {M : zM} (h : zGE M) : M.2.2.1 0 3 = 38 := zge_rd h rfl (by decide)
theorem gf11_5 {M : zM} (h : zGE M) : M.2.2.1 0 5 = 39 := zge_rd h rfl (by decide)
theorem gf11_6 {M : zM} (h : zGE M) : M.2.2.1 0 6 = 112 := zge_rd h rfl (by decide)
theorem gf11_7 {M : zM} (h : zGE M) : M.2.2.1 0 7 = 113 := zge_rd h rfl (by decide)
theorem gf11_8 {M : zM} (h : zGE M) : M.2.2.1 0 8 = 114 := zge_rd h rfl (by decide)
theorem gf11_9 {M : zM} (h : zGE M) : M.2.2.1 0 9 = 119 := zge_rd h rfl (by decide)
theorem gf11_10 {M : zM} (h : zGE M) : M.2.2.1 0 10 = 129 := zge_rd h rfl (by decide)
theorem gf11_11 {M : zM} (h : zGE M) : M.2.2.1 0 11 = 146 := zge_rd h rfl (by decide)
theorem gf12_1 {M : zM} (h : zGE M) : M.2.2.1 460 1 = 461 := zge_rd h rfl (by decide)
theorem gf12_2 {M : zM} (h : zGE M) : M.2.2.1 460 2 = 462 := zge_rd h rfl (by decide)
theorem gf12_3 {M : zM} (h : zGE M) : M.2.2.1 460 3 = 463 := zge_rd h rfl (by decide)
theorem gf12_4 {M : zM} (h : zGE M) : M.2.2.1 460 4 = 464 := zge_rd h rfl (by decide)
theorem gf12_5 {M : zM} (h : zGE M) : M.2.2.1 460 5 = 465 := zge_rd h rfl (by decide)
theorem gf12_6 {M : zM} (h : zGE M) : M.2.2.1 460 6 = 466 := zge_rd h rfl (by decide)
theorem gf12_7 {M : zM} (h : zGE M) : M.2.2.1 460 7 = 467 := zge_rd h rfl (by decide)
theorem gf12_8 {M : zM} (h : zGE M) : M.2.2.1 460 8 = 468 := zge_rd h rfl (by decide)
theorem gf12_9 {M : zM} (h : zGE M) : M.2.2.1 460 9 = 469 := zge_rd h rfl (by decide)
theorem gf12_10 {M : zM} (h : zGE M) : M.2.2.1 460 10 = 470 := zge_rd h rfl (by decide)
theorem gf12_11 {M : zM} (h : zGE M) : M.2.2.1 460 11 = 471 := zge_rd h rfl (by decide)
theorem gf12_12 {M : zM} (h : zGE M) : M.2.2.1 460 12 = 472 := zge_rd h rfl (by decide)
theorem gf12_13 {M : zM} (h : zGE M) : M.2.2.1 460 13 = 473 := zge_rd h rfl (by decide)
theorem gf12_14 {M : zM} (h : zGE M) : M.2.2.1 460 14 = 474 := zge_rd h rfl (by decide)
theorem gf12_15 {M : zM} (h : zGE M) : M.2.2.1 460 15 = 475 := zge_rd h rfl (by decide)
theorem gf12_16 {M : zM} (h : zGE M) : M.2.2.1 460 16 = 476 := zge_rd h rfl (by decide)
theorem gf12_17 {M : zM} (h : zGE M) : M.2.2.1 460 17 = 477 := zge_rd h rfl (by decide)
theorem gf12_18 {M : zM} (h : zGE M) : M.2.2.1 460 18 = 478 := zge_rd h rfl (by decide)
theorem gf12_19 {M : zM} (h : zGE M) : M.2.2.1 460 19 = 479 := zge_rd h rfl (by decide)
theorem gf12_20 {M : zM} (h : zGE M) : M.2.2.1 460 20 = 480 := zge_rd h rfl (by decide)
theorem gf12_21 {M : zM} (h : zGE M) : M.2.2.1 460 21 = 481 := zge_rd h rfl (by decide)
theorem gf12_22 {M : zM} (h : zGE M) : M.2.2.1 460 22 = 482 := zge_rd h rfl (by decide)
theorem gf12_23 {M : zM} (h : zGE M) : M.2.2.1 460 23 = 483 := zge_rd h rfl (by decide)
theorem gf12_24 {M : zM} (h : zGE M) : M.2.2.1 460 24 = 484 := zge_rd h rfl (by decide)
theorem gf12_36 {M : zM} (h : zGE M) : M.2.2.1 460 36 = 485 := zge_rd h rfl (by decide)
theorem gf12_37 {M : zM} (h : zGE M) : M.2.2.1 460 37 = 486 := zge_rd h rfl (by decide)
theorem gf12_38 {M : zM} (h : zGE M) : M.2.2.1 460 38 = 487 := zge_rd h rfl (by decide)
theorem gf12_39 {M : zM} (h : zGE M) : M.2.2.1 460 39 = 488 := zge_rd h rfl (by decide)
theorem gf12_40 {M : zM} (h : zGE M) : M.2.2.1 460 40 = 489 := zge_rd h rfl (by decide)
theorem gf12_41 {M : zM} (h : zGE M) : M.2.2.1 460 41 = 490 := zge_rd h rfl (by decide)
theorem gf12_42 {M : zM} (h : zGE M) : M.2.2.1 460 42 = 491 := zge_rd h rfl (by decide)
theorem gf12_43 {M : zM} (h : zGE M) : M.2.2.1 460 43 = 492 := zge_rd h rfl (by decide)
theorem gf12_44 {M : zM} (h : zGE M) : M.2.2.1 460 44 = 493 := zge_rd h rfl (by decide)
theorem gf12_45 {M : zM} (h : zGE M) : M.2.2.1 460 45 = 494 := zge_rd h rfl (by decide)
theorem gf12_46 {M : zM} (h : zGE M) : M.2.2.1 460 46 = 495 := zge_rd h rfl (by decide)
theorem gf12_52 {M : zM} (h : zGE M) : M.2.2.1 460 52 = 496 := zge_rd h rfl (by decide)
theorem gf12_53 {M : zM} (h : zGE M) : M.2.2.1 460 53 = 497 := zge_rd h rfl (by decide)
theorem gf12_54 {M : zM} (h : zGE M) : M.2.2.1 460 54 = 498 := zge_rd h rfl (by decide)
theorem gf12_58 {M : zM} (h : zGE M) : M.2.2.1 460 58 = 499 := zge_rd h rfl (by decide)
theorem gf12_59 {M : zM} (h : zGE M) : M.2.2.1 460 59 = 500 := zge_rd h rfl (by decide)
theorem gf12_60 {M : zM} (h : zGE M) : M.2.2.1 460 60 = 501 := zge_rd h rfl (by decide)
theorem gf12_61 {M : zM} (h : zGE M) : M.2.2.1 460 61 = 502 := zge_rd h rfl (by decide)
theorem gf12_62 {M : zM} (h : zGE M) : M.2.2.1 460 62 = 503 := zge_rd h rfl (by decide)
theorem gf12_63 {M : zM} (h : zGE M) : M.2.2.1 460 63 = 504 := zge_rd h rfl (by decide)
theorem zl_2 : zln 2 = 400 := rfl
theorem zl_3 : zln 3 = 401 := rfl
theorem zl_4 : zln 4 = 401 := rfl
theorem zl_5 : zln 5 = 401 := rfl
theorem zl_8 : zln 8 = 5 := rfl
theorem zl_9 : zln 9 = 15 := rfl
theorem zl_10 : zln 10 = 8 := rfl
theorem zl_11 : zln 11 = 8 := rfl
theorem zl_12 : zln 12 = 8 := rfl
theorem zl_13 : zln 13 = 8 := rfl
theorem zl_14 : zln 14 = 8 := rfl
theorem zl_15 : zln 15 = 8 := rfl
theorem zl_16 : zln 16 = 8 := rfl
theorem zl_17 : zln 17 = 8 := rfl
theorem zl_18 : zln 18 = 8 := rfl
theorem zl_19 : zln 19 = 8 := rfl
theorem zl_20 : zln 20 = 8 := rfl
theorem zl_21 : zln 21 = 8 := rfl
theorem zl_22 : zln 22 = 8 := rfl
theorem zl_23 : zln 23 = 8 := rfl
theorem zl_24 : zln 24 = 8 := rfl
theorem zl_25 : zln 25 = 8 := rfl
theorem zl_26 : zln 26 = 8 := rfl
theorem zl_27 : zln 27 = 8 := rfl
theorem zl_28 : zln 28 = 8 := rfl
theorem zl_29 : zln 29 = 8 := rfl
theorem zl_30 : zln 30 = 8 := rfl
theorem zl_31 : zln 31 = 8 := rfl
theorem zl_32 : zln 32 = 8 := rfl
theorem zl_33 : zln 33 = 8 := rfl
theorem zl_36 : zln 36 = 400 := rfl
theorem zl_37 : zln 37 = 400 := rfl
theorem zl_38 : zln 38 = 6 := rfl
theorem zl_41 : zln 41 = 5 := rfl
theorem zl_42 : zln 42 = 15 := rfl
theorem zl_43 : zln 43 = 8 := rfl
theorem zl_44 : zln 44 = 8 := rfl
theorem zl_45 : zln 45 = 8 := rfl
theorem zl_46 : zln 46 = 8 := rfl
theorem zl_47 : zln 47 = 8 := rfl
theorem zl_48 : zln 48 = 8 := rfl
theorem zl_49 : zln 49 = 8 := rfl
theorem zl_50 : zln 50 = 8 := rfl
theorem zl_51 : zln 51 = 8 := rfl
theorem zl_52 : zln 52 = 8 := rfl
theorem zl_53 : zln 53 = 8 := rfl
theorem zl_54 : zln 54 = 8 := rfl
theorem zl_55 : zln 55 = 8 := rfl
theorem zl_56 : zln 56 = 8 := rfl
theorem zl_57 : zln 57 = 8 := rfl
theorem zl_58 : zln 58 = 8 := rfl
theorem zl_59 : zln 59 = 8 := rfl
theorem zl_60 : zln 60 = 8 := rfl
theorem zl_61 : zln 61 = 8 := rfl
theorem zl_62 : zln 62 = 8 := rfl
theorem zl_63 : zln 63 = 8 := rfl
theorem zl_64 : zln 64 = 8 := rfl
theorem zl_65 : zln 65 = 8 := rfl
theorem zl_66 : zln 66 = 8 := rfl
theorem zl_68 : zln 68 = 4 := rfl
theorem zl_69 : zln 69 = 20 := rfl
theorem zl_70 : zln 70 = 10 := rfl
theorem zl_71 : zln 71 = 10 := rfl
theorem zl_73 : zln 73 = 4 := rfl
theorem zl_75 : zln 75 = 4 := rfl
theorem zl_77 : zln 77 = 4 := rfl
theorem zl_79 : zln 79 = 4 := rfl
theorem zl_81 : zln 81 = 4 := rfl
theorem zl_83 : zln 83 = 4 := rfl
theorem zl_85 : zln 85 = 4 := rfl
theorem zl_87 : zln 87 = 4 := rfl
theorem zl_89 : zln 89 = 4 := rfl
theorem zl_91 : zln 91 = 4 := rfl
theorem zl_93 : zln 93 = 4 := rfl
theorem zl_95 : zln 95 = 4 := rfl
theorem zl_97 : zln 97 = 4 := rfl
theorem zl_99 : zln 99 = 4 := rfl
theorem zl_101 : zln 101 = 4 := rfl
theorem zl_103 : zln 103 = 4 := rfl
theorem zl_105 : zln 105 = 4 := rfl
theorem zl_107 : zln 107 = 4 := rfl
theorem zl_109 : zln 109 = 4 := rfl
theorem zl_111 : zln 111 = 4 := rfl
theorem zl_112 : zln 112 = 4 := rfl
theorem zl_113 : zln 113 = 4 := rfl
theorem zl_115 : zln 115 = 4 := rfl
theorem zl_116 : zln 116 = 4 := rfl
theorem zl_117 : zln 117 = 4 := rfl
theorem zl_118 : zln 118 = 64 := rfl
theorem zl_121 : zln 121 = 4 := rfl
theorem zl_123 : zln 123 = 4 := rfl
theorem zl_125 : zln 125 = 4 := rfl
theorem zl_126 : zln 126 = 4 := rfl
theorem zl_127 : zln 127 = 4 := rfl
theorem zl_128 : zln 128 = 64 := rfl
theorem zl_130 : zln 130 = 7 := rfl
theorem zl_131 : zln 131 = 61 := rfl
theorem zl_132 : zln 132 = 61 := rfl
theorem zl_133 : zln 133 = 61 := rfl
theorem zl_134 : zln 134 = 61 := rfl
theorem zl_135 : zln 135 = 61 := rfl
theorem zl_136 : zln 136 = 61 := rfl
theorem zl_137 : zln 137 = 61 := rfl
theorem zl_138 : zln 138 = 7 := rfl
theorem zl_140 : zln 140 = 4 := rfl
theorem zl_142 : zln 142 = 4 := rfl
theorem zl_143 : zln 143 = 4 := rfl
theorem zl_144 : zln 144 = 4 := rfl
theorem zl_145 : zln 145 = 64 := rfl
theorem zl_147 : zln 147 = 4 := rfl
theorem zl_148 : zln 148 = 4 := rfl
theorem zl_149 : zln 149 = 4 := rfl
theorem zl_151 : zln 151 = 400 := rfl
theorem zl_152 : zln 152 = 400 := rfl
theorem zl_154 : zln 154 = 400 := rfl
theorem zl_155 : zln 155 = 400 := rfl
theorem zl_157 : zln 157 = 400 := rfl
theorem zl_158 : zln 158 = 400 := rfl
theorem zl_160 : zln 160 = 400 := rfl
theorem zl_161 : zln 161 = 400 := rfl
theorem zl_163 : zln 163 = 400 := rfl
theorem zl_164 : zln 164 = 400 := rfl
theorem zl_166 : zln 166 = 400 := rfl
theorem zl_167 : zln 167 = 400 := rfl
theorem zl_170 : zln 170 = 5 := rfl
theorem zl_171 : zln 171 = 15 := rfl
theorem zl_172 : zln 172 = 8 := rfl
theorem zl_173 : zln 173 = 8 := rfl
theorem zl_174 : zln 174 = 8 := rfl
theorem zl_175 : zln 175 = 8 := rfl
theorem zl_176 : zln 176 = 8 := rfl
theorem zl_177 : zln 177 = 8 := rfl
theorem zl_178 : zln 178 = 8 := rfl
theorem zl_179 : zln 179 = 8 := rfl
theorem zl_180 : zln 180 = 8 := rfl
theorem zl_181 : zln 181 = 8 := rfl
theorem zl_182 : zln 182 = 8 := rfl
theorem zl_183 : zln 183 = 8 := rfl
theorem zl_184 : zln 184 = 8 := rfl
theorem zl_185 : zln 185 = 8 := rfl
theorem zl_186 : zln 186 = 8 := rfl
theorem zl_187 : zln 187 = 8 := rfl
theorem zl_188 : zln 188 = 8 := rfl
theorem zl_189 : zln 189 = 8 := rfl
theorem zl_190 : zln 190 = 8 := rfl
theorem zl_191 : zln 191 = 8 := rfl
theorem zl_192 : zln 192 = 8 := rfl
theorem zl_193 : zln 193 = 8 := rfl
theorem zl_194 : zln 194 = 8 := rfl
theorem zl_195 : zln 195 = 8 := rfl
theorem zl_197 : zln 197 = 4 := rfl
theorem zl_198 : zln 198 = 20 := rfl
theorem zl_199 : zln 199 = 10 := rfl
theorem zl_200 : zln 200 = 10 := rfl
theorem zl_202 : zln 202 = 4 := rfl
theorem zl_204 : zln 204 = 4 := rfl
theorem zl_206 : zln 206 = 4 := rfl
theorem zl_208 : zln 208 = 4 := rfl
theorem zl_210 : zln 210 = 4 := rfl
theorem zl_212 : zln 212 = 4 := rfl
theorem zl_214 : zln 214 = 4 := rfl
theorem zl_216 : zln 216 = 4 := rfl
theorem zl_218 : zln 218 = 4 := rfl
theorem zl_220 : zln 220 = 4 := rfl
theorem zl_222 : zln 222 = 4 := rfl
theorem zl_224 : zln 224 = 4 := rfl
theorem zl_226 : zln 226 = 4 := rfl
theorem zl_228 : zln 228 = 4 := rfl
theorem zl_230 : zln 230 = 4 := rfl
theorem zl_232 : zln 232 = 4 := rfl
theorem zl_234 : zln 234 = 4 := rfl
theorem zl_236 : zln 236 = 4 := rfl
theorem zl_238 : zln 238 = 4 := rfl
theorem zl_240 : zln 240 = 4 := rfl
theorem zl_243 : zln 243 = 5 := rfl
theorem zl_244 : zln 244 = 15 := rfl
theorem zl_245 : zln 245 = 8 := rfl
theorem zl_246 : zln 246 = 8 := rfl
theorem zl_247 : zln 247 = 8 := rfl
theorem zl_248 : zln 248 = 8 := rfl
theorem zl_249 : zln 249 = 8 := rfl
theorem zl_250 : zln 250 = 8 := rfl
theorem zl_251 : zln 251 = 8 := rfl
theorem zl_252 : zln 252 = 8 := rfl
theorem zl_253 : zln 253 = 8 := rfl
theorem zl_254 : zln 254 = 8 := rfl
theorem zl_255 : zln 255 = 8 := rfl
theorem zl_256 : zln 256 = 8 := rfl
theorem zl_257 : zln 257 = 8 := rfl
theorem zl_258 : zln 258 = 8 := rfl
theorem zl_259 : zln 259 = 8 := rfl
theorem zl_260 : zln 260 = 8 := rfl
theorem zl_261 : zln 261 = 8 := rfl
theorem zl_262 : zln 262 = 8 := rfl
theorem zl_263 : zln 263 = 8 := rfl
theorem zl_264 : zln 264 = 8 := rfl
theorem zl_265 : zln 265 = 8 := rfl
theorem zl_266 : zln 266 = 8 := rfl
theorem zl_267 : zln 267 = 8 := rfl
theorem zl_268 : zln 268 = 8 := rfl
theorem zl_270 : zln 270 = 4 := rfl
theorem zl_271 : zln 271 = 20 := rfl
theorem zl_272 : zln 272 = 10 := rfl
theorem zl_273 : zln 273 = 10 := rfl
theorem zl_275 : zln 275 = 4 := rfl
theorem zl_277 : zln 277 = 4 := rfl
theorem zl_279 : zln 279 = 4 := rfl
theorem zl_281 : zln 281 = 4 := rfl
theorem zl_283 : zln 283 = 4 := rfl
theorem zl_285 : zln 285 = 4 := rfl
theorem zl_287 : zln 287 = 4 := rfl
theorem zl_289 : zln 289 = 4 := rfl
theorem zl_291 : zln 291 = 4 := rfl
theorem zl_293 : zln 293 = 4 := rfl
theorem zl_295 : zln 295 = 4 := rfl
theorem zl_297 : zln 297 = 4 := rfl
theorem zl_299 : zln 299 = 4 := rfl
theorem zl_301 : zln 301 = 4 := rfl
theorem zl_303 : zln 303 = 4 := rfl
theorem zl_305 : zln 305 = 4 := rfl
theorem zl_307 : zln 307 = 4 := rfl
theorem zl_309 : zln 309 = 4 := rfl
theorem zl_311 : zln 311 = 4 := rfl
theorem zl_313 : zln 313 = 4 := rfl
theorem zl_316 : zln 316 = 5 := rfl
theorem zl_317 : zln 317 = 15 := rfl
theorem zl_318 : zln 318 = 8 := rfl
theorem zl_319 : zln 319 = 8 := rfl
theorem zl_320 : zln 320 = 8 := rfl
theorem zl_321 : zln 321 = 8 := rfl
theorem zl_322 : zln 322 = 8 := rfl
theorem zl_323 : zln 323 = 8 := rfl
theorem zl_324 : zln 324 = 8 := rfl
theorem zl_325 : zln 325 = 8 := rfl
theorem zl_326 : zln 326 = 8 := rfl
theorem zl_327 : zln 327 = 8 := rfl
theorem zl_328 : zln 328 = 8 := rfl
theorem zl_329 : zln 329 = 8 := rfl
theorem zl_330 : zln 330 = 8 := rfl
theorem zl_331 : zln 331 = 8 := rfl
theorem zl_332 : zln 332 = 8 := rfl
theorem zl_333 : zln 333 = 8 := rfl
theorem zl_334 : zln 334 = 8 := rfl
theorem zl_335 : zln 335 = 8 := rfl
theorem zl_336 : zln 336 = 8 := rfl
theorem zl_337 : zln 337 = 8 := rfl
theorem zl_338 : zln 338 = 8 := rfl
theorem zl_339 : zln 339 = 8 := rfl
theorem zl_340 : zln 340 = 8 := rfl
theorem zl_341 : zln 341 = 8 := rfl
theorem zl_343 : zln 343 = 4 := rfl
theorem zl_344 : zln 344 = 20 := rfl
theorem zl_345 : zln 345 = 10 := rfl
theorem zl_346 : zln 346 = 10 := rfl
theorem zl_348 : zln 348 = 4 := rfl
theorem zl_350 : zln 350 = 4 := rfl
theorem zl_352 : zln 352 = 4 := rfl
theorem zl_354 : zln 354 = 4 := rfl
theorem zl_356 : zln 356 = 4 := rfl
theorem zl_358 : zln 358 = 4 := rfl
theorem zl_360 : zln 360 = 4 := rfl
theorem zl_362 : zln 362 = 4 := rfl
theorem zl_364 : zln 364 = 4 := rfl
theorem zl_366 : zln 366 = 4 := rfl
theorem zl_368 : zln 368 = 4 := rfl
theorem zl_370 : zln 370 = 4 := rfl
theorem zl_372 : zln 372 = 4 := rfl
theorem zl_374 : zln 374 = 4 := rfl
theorem zl_376 : zln 376 = 4 := rfl
theorem zl_378 : zln 378 = 4 := rfl
theorem zl_380 : zln 380 = 4 := rfl
theorem zl_382 : zln 382 = 4 := rfl
theorem zl_384 : zln 384 = 4 := rfl
theorem zl_386 : zln 386 = 4 := rfl
theorem zl_389 : zln 389 = 5 := rfl
theorem zl_390 : zln 390 = 15 := rfl
theorem zl_391 : zln 391 = 8 := rfl
theorem zl_392 : zln 392 = 8 := rfl
theorem zl_393 : zln 393 = 8 := rfl
theorem zl_394 : zln 394 = 8 := rfl
theorem zl_395 : zln 395 = 8 := rfl
theorem zl_396 : zln 396 = 8 := rfl
theorem zl_397 : zln 397 = 8 := rfl
theorem zl_398 : zln 398 = 8 := rfl
theorem zl_399 : zln 399 = 8 := rfl
theorem zl_400 : zln 400 = 8 := rfl
theorem zl_401 : zln 401 = 8 := rfl
theorem zl_402 : zln 402 = 8 := rfl
theorem zl_403 : zln 403 = 8 := rfl
theorem zl_404 : zln 404 = 8 := rfl
theorem zl_405 : zln 405 = 8 := rfl
theorem zl_406 : zln 406 = 8 := rfl
theorem zl_407 : zln 407 = 8 := rfl
theorem zl_408 : zln 408 = 8 := rfl
theorem zl_409 : zln 409 = 8 := rfl
theorem zl_410 : zln 410 = 8 := rfl
theorem zl_411 : zln 411 = 8 := rfl
theorem zl_412 : zln 412 = 8 := rfl
theorem zl_413 : zln 413 = 8 := rfl
theorem zl_414 : zln 414 = 8 := rfl
theorem zl_416 : zln 416 = 4 := rfl
theorem zl_417 : zln 417 = 20 := rfl
theorem zl_418 : zln 418 = 10 := rfl
theorem zl_419 : zln 419 = 10 := rfl
theorem zl_421 : zln 421 = 4 := rfl
theorem zl_423 : zln 423 = 4 := rfl
theorem zl_425 : zln 425 = 4 := rfl
theorem zl_427 : zln 427 = 4 := rfl
theorem zl_429 : zln 429 = 4 := rfl
theorem zl_431 : zln 431 = 4 := rfl
theorem zl_433 : zln 433 = 4 := rfl
theorem zl_435 : zln 435 = 4 := rfl
theorem zl_437 : zln 437 = 4 := rfl
theorem zl_439 : zln 439 = 4 := rfl
theorem zl_441 : zln 441 = 4 := rfl
theorem zl_443 : zln 443 = 4 := rfl
theorem zl_445 : zln 445 = 4 := rfl
theorem zl_447 : zln 447 = 4 := rfl
theorem zl_449 : zln 449 = 4 := rfl
theorem zl_451 : zln 451 = 4 := rfl
theorem zl_453 : zln 453 = 4 := rfl
theorem zl_455 : zln 455 = 4 := rfl
theorem zl_457 : zln 457 = 4 := rfl
theorem zl_459 : zln 459 = 4 := rfl
theorem zl_461 : zln 461 = 18 := rfl
theorem zl_462 : zln 462 = 4 := rfl
theorem zl_463 : zln 463 = 6 := rfl
theorem zl_464 : zln 464 = 6 := rfl
theorem zl_465 : zln 465 = 6 := rfl
theorem zl_466 : zln 466 = 4 := rfl
theorem zl_467 : zln 467 = 4 := rfl
theorem zl_468 : zln 468 = 4 := rfl
theorem zl_469 : zln 469 = 4 := rfl
theorem zl_470 : zln 470 = 64 := rfl
theorem zl_471 : zln 471 = 10 := rfl
theorem zl_472 : zln 472 = 10 := rfl
theorem zl_473 : zln 473 = 4 := rfl
theorem zl_474 : zln 474 = 1 := rfl
theorem zl_475 : zln 475 = 6 := rfl
theorem zl_476 : zln 476 = 6 := rfl
theorem zl_477 : zln 477 = 6 := rfl
theorem zl_478 : zln 478 = 6 := rfl
theorem zl_479 : zln 479 = 4 := rfl
theorem zl_480 : zln 480 = 4 := rfl
theorem zl_481 : zln 481 = 4 := rfl
theorem zl_482 : zln 482 = 4 := rfl
theorem zl_483 : zln 483 = 4 := rfl
theorem zl_484 : zln 484 = 64 := rfl
theorem zl_485 : zln 485 = 400 := rfl
theorem zl_486 : zln 486 = 1800 := rfl
theorem zl_487 : zln 487 = 1800 := rfl
theorem zl_488 : zln 488 = 6 := rfl
theorem zl_489 : zln 489 = 72 := rfl
theorem zl_490 : zln 490 = 72 := rfl
theorem zl_491 : zln 491 = 72 := rfl
theorem zl_492 : zln 492 = 402 := rfl
theorem zl_493 : zln 493 = 64 := rfl
theorem zl_494 : zln 494 = 11 := rfl
theorem zl_495 : zln 495 = 300 := rfl
theorem zl_496 : zln 496 = 4 := rfl
theorem zl_497 : zln 497 = 280 := rfl
theorem zl_498 : zln 498 = 1 := rfl
theorem zl_499 : zln 499 = 4 := rfl
theorem zl_500 : zln 500 = 61 := rfl
theorem zl_501 : zln 501 = 427 := rfl
theorem zl_502 : zln 502 = 2750 := rfl
theorem zl_503 : zln 503 = 4 := rfl
theorem zl_504 : zln 504 = 4 := rfl
theorem ga38_0 {M : zM} (h : zGE M) : M.2.2.1 38 0 = 150 := zge_rd h rfl (by decide)
theorem ga38_1 {M : zM} (h : zGE M) : M.2.2.1 38 1 = 153 := zge_rd h rfl (by decide)
theorem ga38_2 {M : zM} (h : zGE M) : M.2.2.1 38 2 = 156 := zge_rd h rfl (by decide)
theorem ga38_3 {M : zM} (h : zGE M) : M.2.2.1 38 3 = 159 := zge_rd h rfl (by decide)
theorem ga38_4 {M : zM} (h : zGE M) : M.2.2.1 38 4 = 162 := zge_rd h rfl (by decide)
theorem ga38_5 {M : zM} (h : zGE M) : M.2.2.1 38 5 = 165 := zge_rd h rfl (by decide)
theorem ga112_0 {M : zM} (h : zGE M) : M.2.2.1 112 0 = 168 := zge_rd h rfl (by decide)
theorem ga112_1 {M : zM} (h : zGE M) : M.2.2.1 112 1 = 241 := zge_rd h rfl (by decide)
theorem ga112_2 {M : zM} (h : zGE M) : M.2.2.1 112 2 = 314 := zge_rd h rfl (by decide)
theorem ga112_3 {M : zM} (h : zGE M) : M.2.2.1 112 3 = 387 := zge_rd h rfl (by decide)
theorem ga130_0 {M : zM} (h : zGE M) : M.2.2.1 130 0 = 131 := zge_rd h rfl (by decide)
theorem ga130_1 {M : zM} (h : zGE M) : M.2.2.1 130 1 = 132 := zge_rd h rfl (by decide)
theorem ga130_2 {M : zM} (h : zGE M) : M.2.2.1 130 2 = 133 := zge_rd h rfl (by decide)
theorem ga130_3 {M : zM} (h : zGE M) : M.2.2.1 130 3 = 134 := zge_rd h rfl (by decide)
theorem ga130_4 {M : zM} (h : zGE M) : M.2.2.1 130 4 = 135 := zge_rd h rfl (by decide)
theorem ga130_5 {M : zM} (h : zGE M) : M.2.2.1 130 5 = 136 := zge_rd h rfl (by decide)
theorem ga130_6 {M : zM} (h : zGE M) : M.2.2.1 130 6 = 137 := zge_rd h rfl (by decide)
