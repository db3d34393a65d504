/-! Where form and data modules are -/
section TABS
def foT (k : Nat) : Nat := ([168, 169, 170, 171, 172, 173, 175, 176, 155, 113, 92, 71, 50, 29, 8, 428, 407, 386, 365, 344, 323, 302, 181, 182, 183, 184, 185, 186, 187, 188] : List Nat).getD k 0
def soT (k : Nat) : Nat := ([1, 1, 1, 1, 1, 1, 1, 1, 2, 0, 0, 0, 0, 1, 1, 1, 1, 1, 1, 1, 1, 1, 1, 1, 1, 1, 1, 1, 1, 2, 0, 0, 0, 0, 1, 1, 1, 1, 1, 1, 1, 1, 1, 1, 1, 1, 1, 1, 1, 1, 2, 0, 0, 0, 0, 1, 1, 1, 1, 1, 1, 1, 1, 1, 1, 1, 1, 1, 1, 1, 1, 2, 0, 0, 0, 0, 1, 1, 1, 1, 1, 1, 1, 1, 1, 1, 1, 1, 1, 1, 1, 1, 2, 0, 0, 0, 0, 1, 1, 1, 1, 1, 1, 1, 1, 1, 1, 1, 1, 1, 1, 1, 1, 2, 0, 0, 0, 0, 1, 1, 1, 1, 1, 1, 1, 1, 1, 1, 1, 1, 1, 1, 1, 1, 1, 1, 1, 1, 1, 1, 1, 1, 1, 1, 1, 1, 1, 1, 1, 1, 1, 1, 1, 1, 1, 2, 0, 0, 0, 0, 1, 1, 1, 1, 1, 1, 1, 1, 2, 2, 2, 2, 2, 2, 1, 2, 2, 0, 0, 0, 0, 2, 2, 2, 2, 2, 2, 2, 2, 0, 0, 0, 0, 0, 0, 1, 0, 0, 0, 0, 0, 0, 0, 0, 0, 0, 0, 0, 0, 0, 0, 0, 0, 0, 0, 0, 1, 0, 0, 0, 0, 0, 0, 0, 0, 0, 0, 0, 0, 0, 0, 0, 0, 0, 0, 0, 0, 1, 0, 0, 0, 0, 0, 0, 0, 0, 0, 0, 0, 0, 0, 0, 0, 0, 0, 0, 0, 0, 1, 0, 0, 0, 0, 0, 0, 0, 0, 0, 0, 0, 0, 0, 0, 1, 1, 1, 1, 1, 1, 1, 1, 1, 0, 0, 0, 0, 0, 0, 0, 0, 0, 0, 0, 0, 1, 1, 1, 1, 1, 1, 1, 1, 2, 0, 0, 0, 0, 0, 0, 0, 0, 0, 0, 0, 0, 1, 1, 1, 1, 1, 1, 1, 1, 2, 0, 0, 0, 0, 0, 0, 0, 0, 0, 0, 0, 0, 1, 1, 1, 1, 1, 1, 1, 1, 2, 0, 0, 0, 0, 0, 0, 0, 0, 0, 0, 0, 0, 1, 1, 1, 1, 1, 1, 1, 1, 2, 0, 0, 0, 0, 0, 0, 0, 0, 0, 0, 0, 0, 1, 1, 1, 1, 1, 1, 1, 1, 2, 0, 0, 0, 0, 0, 0, 0, 0, 0, 0, 0, 0, 1, 1, 1, 1, 1, 1, 1, 1, 2, 0, 0, 0, 0, 0, 0, 0, 0, 0, 0, 0, 0, 1, 1, 1, 1, 1, 1, 1, 1, 2, 0, 0, 0, 0, 0, 0, 0, 0, 0, 0, 0, 0] : List Nat).getD k 0
def daT (k : Nat) : Nat := ([440, 439, 419, 418, 398, 397, 377, 376, 356, 355, 335, 334, 314, 313, 293, 292, 272, 271, 251, 250, 230, 229, 209, 208, 207, 206, 228, 227, 249, 248, 270, 269, 291, 290, 312, 311, 333, 332, 354, 353, 375, 374, 396, 395, 417, 416, 438, 437, 436, 435, 415, 414, 394, 393, 373, 372, 352, 351, 331, 330, 310, 309, 289, 288, 268, 267, 247, 246, 226, 225, 205, 204, 203, 202, 224, 223, 245, 244, 266, 265, 287, 286, 308, 307, 329, 328, 350, 349, 371, 370, 392, 391, 413, 412, 434, 433, 432, 431, 411, 410, 390, 389, 369, 368, 348, 347, 327, 326, 306, 305, 285, 284, 264, 263, 243, 242, 222, 221, 201, 200, 180, 179, 159, 158, 117, 116, 96, 95, 75, 74, 54, 53, 33, 32, 12, 11, 10, 9, 31, 30, 52, 51, 73, 72, 94, 93, 115, 114, 157, 156, 178, 177, 199, 198, 220, 219, 241, 240, 262, 261, 283, 282, 304, 303, 325, 324, 346, 345, 367, 366, 388, 387, 409, 408, 430, 429, 260, 259, 239, 238, 218, 217, 197, 196, 194, 193, 215, 214, 236, 235, 257, 256, 255, 254, 234, 233, 213, 212, 192, 191, 190, 189, 211, 210, 232, 231, 253, 252] : List Nat).getD k 0
def cnT (k : Nat) : Nat := ([0, 1, 2, 3, 4, 5, 6, 7, 8, 9, 10, 11, 12, 13, 14, 15, 16, 17, 18, 19, 20, 21, 22, 23, 24, 24, 24, 24, 24, 24, 24, 24, 24, 24, 24, 24, 24, 24, 24, 24, 24, 24, 24, 24, 24, 24, 24, 24, 24, 24, 24, 24, 24, 24, 24, 24, 24, 24, 24, 24, 24, 25, 26, 27, 28, 29, 30, 31, 32, 33, 34, 35, 36, 37, 38, 39, 40, 41, 42, 43, 44, 45, 46, 47, 48, 49, 50, 51, 52, 53, 54, 55, 56, 57, 58, 59, 60, 61, 62, 63, 64, 65, 66, 67, 68, 69, 70, 71, 72, 72, 72, 72, 72, 72, 72, 72, 72, 72, 72, 72, 72, 72, 72, 72, 72, 72, 72, 72, 72, 72, 72, 72, 72, 72, 72, 72, 72, 72, 72, 72, 72, 72, 72, 72, 72, 73, 74, 75, 76, 77, 78, 79, 80, 81, 82, 83, 84, 85, 86, 87, 88, 89, 90, 91, 92, 93, 94, 95, 96, 97, 98, 99, 100, 101, 102, 103, 104, 105, 106, 107, 108, 109, 110, 111, 112, 113, 114, 115, 116, 117, 118, 119, 120, 121, 122, 123, 124, 124, 124, 125, 126, 127, 128, 129, 130, 131, 132, 133, 134, 135, 136, 137, 138, 139, 140, 141, 142, 143, 144, 145, 146, 147, 148, 148, 148, 149, 150, 151, 152, 153, 154, 155, 156, 157, 158, 159, 160, 161, 162, 163, 164, 165, 166, 167, 168, 169, 170, 171, 172, 173, 174, 175, 176, 176, 176, 176, 176, 176, 176, 176, 176, 176, 176, 176, 176, 176, 176, 176, 176, 177, 178, 179, 180, 181, 182, 183, 184, 184, 184, 184, 184, 184, 184, 184, 184, 184, 184, 184, 184, 184, 184, 184, 184, 184, 184, 184, 184, 184, 184, 184, 184, 184, 184, 184, 184, 184, 184, 184, 184, 184, 184, 184, 184, 185, 186, 187, 188, 189, 190, 191, 192, 192, 192, 192, 192, 192, 192, 192, 192, 192, 192, 192, 192, 192, 192, 192, 192, 192, 192, 192, 192, 192, 192, 192, 192, 192, 192, 192, 192, 192, 192, 192, 192, 193, 194, 195, 196, 197, 198, 199, 200, 200, 200, 200, 200, 200, 200, 200, 200, 200, 200, 200, 200, 200, 200, 200, 200, 200, 200, 200, 200, 200, 200, 200, 200, 200, 200, 200, 200, 200, 200, 200, 200, 200, 200, 200, 200, 201, 202, 203, 204, 205, 206, 207, 208, 208, 208, 208, 208, 208, 208, 208, 208, 208, 208, 208, 208, 208, 208, 208, 208] : List Nat).getD k 0
def ivT (k : Nat) : Nat := ([0, 0, 0, 0, 0, 0, 0, 0, 0, 137, 136, 135, 134, 0, 0, 0, 0, 0, 0, 0, 0, 0, 0, 0, 0, 0, 0, 0, 0, 0, 139, 138, 133, 132, 0, 0, 0, 0, 0, 0, 0, 0, 0, 0, 0, 0, 0, 0, 0, 0, 0, 141, 140, 131, 130, 0, 0, 0, 0, 0, 0, 0, 0, 0, 0, 0, 0, 0, 0, 0, 0, 0, 143, 142, 129, 128, 0, 0, 0, 0, 0, 0, 0, 0, 0, 0, 0, 0, 0, 0, 0, 0, 0, 145, 144, 127, 126, 0, 0, 0, 0, 0, 0, 0, 0, 0, 0, 0, 0, 0, 0, 0, 0, 0, 147, 146, 125, 124, 0, 0, 0, 0, 0, 0, 0, 0, 0, 0, 0, 0, 0, 0, 0, 0, 0, 0, 0, 0, 0, 0, 0, 0, 0, 0, 0, 0, 0, 0, 0, 0, 0, 0, 0, 0, 0, 0, 149, 148, 123, 122, 0, 0, 0, 0, 0, 0, 0, 0, 0, 0, 0, 0, 0, 0, 0, 0, 0, 151, 150, 121, 120, 0, 0, 0, 0, 0, 0, 0, 0, 201, 200, 199, 198, 185, 184, 0, 183, 182, 153, 152, 119, 118, 73, 72, 71, 70, 25, 24, 23, 22, 203, 202, 197, 196, 187, 186, 0, 181, 180, 155, 154, 117, 116, 75, 74, 69, 68, 27, 26, 21, 20, 205, 204, 195, 194, 189, 188, 0, 179, 178, 157, 156, 115, 114, 77, 76, 67, 66, 29, 28, 19, 18, 207, 206, 193, 192, 191, 190, 0, 177, 176, 159, 158, 113, 112, 79, 78, 65, 64, 31, 30, 17, 16, 0, 0, 0, 0, 0, 0, 0, 0, 0, 161, 160, 111, 110, 81, 80, 63, 62, 33, 32, 15, 14, 0, 0, 0, 0, 0, 0, 0, 0, 0, 163, 162, 109, 108, 83, 82, 61, 60, 35, 34, 13, 12, 0, 0, 0, 0, 0, 0, 0, 0, 0, 165, 164, 107, 106, 85, 84, 59, 58, 37, 36, 11, 10, 0, 0, 0, 0, 0, 0, 0, 0, 0, 167, 166, 105, 104, 87, 86, 57, 56, 39, 38, 9, 8, 0, 0, 0, 0, 0, 0, 0, 0, 0, 169, 168, 103, 102, 89, 88, 55, 54, 41, 40, 7, 6, 0, 0, 0, 0, 0, 0, 0, 0, 0, 171, 170, 101, 100, 91, 90, 53, 52, 43, 42, 5, 4, 0, 0, 0, 0, 0, 0, 0, 0, 0, 173, 172, 99, 98, 93, 92, 51, 50, 45, 44, 3, 2, 0, 0, 0, 0, 0, 0, 0, 0, 0, 175, 174, 97, 96, 95, 94, 49, 48, 47, 46, 1, 0] : List Nat).getD k 0
def frT (k : Nat) : Nat := ([2080895, 1065025, 1523805, 1523805, 1523805, 1065025, 2086271, 0, 16384, 0, 16384, 0, 16384, 4096, 2080768, 1064960, 1523712, 1523712, 1523712, 1064960, 2080768] : List Nat).getD k 0
def z0 : Nat → Nat := fun _ => 0
/-- the reference's formAt, behind n steps -/
def fo1 (k : Nat) : Nat := if k < 6 then 168 + k else if k = 6 then 175 else if k = 7 then 176 else if k = 8 then 155 else 21 * (14 - k) + 8
def fo2 (k : Nat) : Nat := if k < 7 then 21 * (20 - k) + 8 else 174 + k
def ctF : Nat → Nat → Nat
  | 0 => z0
  | k + 1 => va_up (va_up (ctF k) k (fo1 k)) (15 + k) (fo2 k)
theorem ctF_at : ∀ n, n ≤ 15 → ∀ j, ctF n j = if j < n then fo1 j else if 15 ≤ j ∧ j < 15 + n then fo2 (j - 15) else 0 := by
  intro n
  induction n with
  | zero => intro _ j; rw [if_neg (Nat.not_lt_zero j), if_neg (by omega)]; rfl
  | succ n ih =>
    intro hn j
    rw [ctF]
    unfold va_up
    by_cases e1 : j = 15 + n
    · rw [if_pos e1, if_neg (by omega), if_pos (by omega), e1, show 15 + n - 15 = n by omega]
    · rw [if_neg e1]
      by_cases e2 : j = n
      · rw [if_pos e2, if_pos (by omega), e2]
      · rw [if_neg e2, ih (by omega) j]
        by_cases e3 : j < n
        · rw [if_pos e3, if_pos (show j < n + 1 by omega)]
        · rw [if_neg e3, if_neg (show ¬ j < n + 1 by omega)]
          by_cases e4 : 15 ≤ j ∧ j < 15 + n
          · rw [if_pos e4, if_pos (by omega)]
          · rw [if_neg e4, if_neg (by omega)]
theorem fo_chk : ∀ j, j < 30 → (if j < 15 then fo1 j else if 15 ≤ j ∧ j < 15 + 15 then fo2 (j - 15) else 0) = foT j := by decide +kernel
theorem ctF_tab {j : Nat} (hj : j < 30) : ctF 15 j = foT j := (ctF_at 15 (Nat.le_refl _) j).trans (fo_chk j hj)
/-- the reference's sort, behind n steps: which are fixed; then which are the form's -/
def ctS : Nat → Nat → Nat
  | 0 => z0
  | k + 1 => va_up (ctS k) k (bN (isF (k / 21) (k % 21)))
def ctT : Nat → Nat → Nat
  | 0 => ctS 441
  | k + 1 => va_up (ctT k) (ctF 15 k) 2
theorem ctS_at : ∀ n j, ctS n j = if j < n then bN (isF (j / 21) (j % 21)) else 0 := by
  intro n
  induction n with
  | zero => intro j; rw [if_neg (Nat.not_lt_zero j)]; rfl
  | succ n ih =>
    intro j
    rw [ctS]
    unfold va_up
    by_cases e : j = n
    · rw [if_pos e, if_pos (by omega), e]
    · rw [if_neg e, ih j]
      by_cases e1 : j < n
      · rw [if_pos e1, if_pos (show j < n + 1 by omega)]
      · rw [if_neg e1, if_neg (show ¬ j < n + 1 by omega)]
theorem ctT_at : ∀ n, n ≤ 30 → ∀ j, ctT n j = if (List.range n).any (fun i => foT i == j) then 2 else ctS 441 j := by
  intro n
  induction n with
  | zero => intro _ j; rfl
  | succ n ih =>
    intro hn j
    rw [ctT, ctF_tab (by omega)]
    unfold va_up
    rw [List.range_succ, List.any_append, ih (by omega) j]
    by_cases e : j = foT n
    · rw [if_pos e]
      have : ([n].any fun i => foT i == j) = true := by simp [e]
      rw [this, Bool.or_true, if_pos rfl]
    · rw [if_neg e]
      have : ([n].any fun i => foT i == j) = false := by
        simp only [List.any_cons, List.any_nil, Bool.or_false, beq_eq_false_iff_ne]
        exact fun z => e z.symm
      rw [this, Bool.or_false]
theorem so_chk : ∀ j, j < 441 → (if (List.range 30).any (fun i => foT i == j) then 2 else bN (isF (j / 21) (j % 21))) = soT j := by decide +kernel
theorem ctT_tab {j : Nat} (hj : j < 441) : ctT 30 j = soT j := by
  rw [ctT_at 30 (Nat.le_refl _) j, ctS_at, if_pos hj]
  exact so_chk j hj
/-- the order of the data modules, as the reference finds it -/
def ctJ (so : Nat → Nat) (st : Nat × (Nat → Nat)) (q : Nat) : Nat → Nat × (Nat → Nat)
  | 0 => st
  | i + 1 => if so (21 * fuR q i + fuK q - i % 2) = 0 then ((ctJ so st q i).1 + 1, va_up (ctJ so st q i).2 (ctJ so st q i).1 (21 * fuR q i + fuK q - i % 2)) else ctJ so st q i
def ctI (so : Nat → Nat) : Nat → Nat × (Nat → Nat)
  | 0 => (0, z0)
  | q + 1 => ctJ so (ctI so q) q 42
theorem ctJ_t {so : Nat → Nat} {st : Nat × (Nat → Nat)} {q i : Nat} (h : so (21 * fuR q i + fuK q - i % 2) = 0) : ctJ so st q (i + 1) = ((ctJ so st q i).1 + 1, va_up (ctJ so st q i).2 (ctJ so st q i).1 (21 * fuR q i + fuK q - i % 2)) := if_pos h
theorem ctJ_f {so : Nat → Nat} {st : Nat × (Nat → Nat)} {q i : Nat} (h : so (21 * fuR q i + fuK q - i % 2) ≠ 0) : ctJ so st q (i + 1) = ctJ so st q i := if_neg h
theorem da_c1 : ∀ q, q < 10 → ∀ i, i < 42 → bN (isDt (fuR q i) (fuK q - i % 2)) = bN (soT (21 * fuR q i + fuK q - i % 2) = 0) := by decide +kernel
theorem da_c2 : ∀ q, q < 10 → ∀ i, i < 42 → 21 * fuR q i + fuK q - i % 2 < 441 ∧ cnT (42 * q + i) ≤ 208 := by decide +kernel
theorem da_c3 : ∀ q, q < 10 → ∀ i, i < 42 → soT (21 * fuR q i + fuK q - i % 2) = 0 → cnT (42 * q + i) < 208 ∧ daT (cnT (42 * q + i)) = 21 * fuR q i + fuK q - i % 2 ∧ cnT (42 * q + (i + 1)) = cnT (42 * q + i) + 1 := by decide +kernel
theorem da_c4 : ∀ q, q < 10 → ∀ i, i < 42 → soT (21 * fuR q i + fuK q - i % 2) ≠ 0 → cnT (42 * q + (i + 1)) = cnT (42 * q + i) := by decide +kernel
theorem da_chk (q : Nat) (hq : q < 10) (i : Nat) (hi : i < 42) : 21 * fuR q i + fuK q - i % 2 < 441 ∧ (isDt (fuR q i) (fuK q - i % 2) ↔ soT (21 * fuR q i + fuK q - i % 2) = 0) ∧ cnT (42 * q + i) ≤ 208 ∧ (soT (21 * fuR q i + fuK q - i % 2) = 0 → cnT (42 * q + i) < 208 ∧ daT (cnT (42 * q + i)) = 21 * fuR q i + fuK q - i % 2 ∧ cnT (42 * q + (i + 1)) = cnT (42 * q + i) + 1) ∧ (soT (21 * fuR q i + fuK q - i % 2) ≠ 0 → cnT (42 * q + (i + 1)) = cnT (42 * q + i)) := by
  have h := da_c1 q hq i hi
  refine ⟨(da_c2 q hq i hi).1, ⟨fun z => bN_ne0.mp (by rw [← h]; exact bN_ne0.mpr z), fun z => bN_ne0.mp (by rw [h]; exact bN_ne0.mpr z)⟩, (da_c2 q hq i hi).2, da_c3 q hq i hi, da_c4 q hq i hi⟩
theorem ctI_tab {so : Nat → Nat} (hso : ∀ j, j < 441 → so j = soT j) : ∀ q, q ≤ 10 → (ctI so q).1 = cnT (42 * q) ∧ (∀ j, j < cnT (42 * q) → (ctI so q).2 j = daT j) ∧ (q < 10 → ∀ i, i ≤ 42 → (ctJ so (ctI so q) q i).1 = cnT (42 * q + i) ∧ ∀ j, j < cnT (42 * q + i) → (ctJ so (ctI so q) q i).2 j = daT j) := by
  have step : ∀ q, q < 10 → (ctI so q).1 = cnT (42 * q) → (∀ j, j < cnT (42 * q) → (ctI so q).2 j = daT j) → ∀ i, i ≤ 42 → (ctJ so (ctI so q) q i).1 = cnT (42 * q + i) ∧ ∀ j, j < cnT (42 * q + i) → (ctJ so (ctI so q) q i).2 j = daT j := by
    intro q hq h1 h2 i
    induction i with
    | zero => intro _; exact ⟨h1, h2⟩
    | succ i ih =>
      intro hi
      obtain ⟨i1, i2⟩ := ih (by omega)
      obtain ⟨c0, _, _, c3, c4⟩ := da_chk q hq i (by omega)
      by_cases e : soT (21 * fuR q i + fuK q - i % 2) = 0
      · replace c3 := c3 e
        rw [ctJ_t (by rw [hso _ c0]; exact e)]
        refine ⟨by rw [c3.2.2]; show _ + 1 = _; rw [i1], fun j hj => ?_⟩
        show va_up (ctJ so (ctI so q) q i).2 (ctJ so (ctI so q) q i).1 _ j = _
        rw [i1]
        unfold va_up
        by_cases e2 : j = cnT (42 * q + i)
        · rw [if_pos e2, e2, c3.2.1]
        · rw [if_neg e2]; exact i2 j (by omega)
      · replace c3 := c4 e
        rw [ctJ_f (by rw [hso _ c0]; exact e), c3]
        exact ⟨i1, i2⟩
  intro q
  induction q with
  | zero => intro _; exact ⟨rfl, fun j h => absurd h (Nat.not_lt_zero j), fun hq => step 0 hq rfl (fun j h => absurd h (Nat.not_lt_zero j))⟩
  | succ q ih =>
    intro hq
    have i := (ih (by omega)).2.2 (by omega) 42 (Nat.le_refl _)
    rw [show 42 * q + 42 = 42 * (q + 1) by omega] at i
    exact ⟨i.1, i.2, fun hq2 => step (q + 1) hq2 i.1 i.2⟩
theorem ctI_da {so : Nat → Nat} (hso : ∀ j, j < 441 → so j = soT j) {j : Nat} (hj : j < 208) : (ctI so 10).2 j = daT j := (ctI_tab hso 10 (Nat.le_refl _)).2.1 j hj
/-- as the class finds it -/
theorem fuI_tab (rx cx : Nat → Nat) : ∀ q, q ≤ 10 → (fuI rx cx q).1 = cnT (42 * q) ∧ (∀ j, j < cnT (42 * q) → 21 * (fuI rx cx q).2.1 j + (fuI rx cx q).2.2 j = daT j ∧ (fuI rx cx q).2.1 j < 21 ∧ (fuI rx cx q).2.2 j < 21) := by
  intro q
  induction q with
  | zero => intro _; exact ⟨rfl, fun j h => absurd h (Nat.not_lt_zero j)⟩
  | succ q ih =>
    intro hq
    obtain ⟨h1, h2⟩ := ih (by omega)
    have step : ∀ i, i ≤ 42 → (fuJ (fuI rx cx q) q i).1 = cnT (42 * q + i) ∧ ∀ j, j < cnT (42 * q + i) → 21 * (fuJ (fuI rx cx q) q i).2.1 j + (fuJ (fuI rx cx q) q i).2.2 j = daT j ∧ (fuJ (fuI rx cx q) q i).2.1 j < 21 ∧ (fuJ (fuI rx cx q) q i).2.2 j < 21 := by
      intro i
      induction i with
      | zero => intro _; exact ⟨h1, h2⟩
      | succ i ih2 =>
        intro hi
        obtain ⟨i1, i2⟩ := ih2 (by omega)
        obtain ⟨c0, c1, c2, c3, c4⟩ := da_chk q (by omega) i (by omega)
        have hk := fuK_in (q := q) (by omega)
        have hr := fuR_in q (i := i) (by omega)
        by_cases e : soT (21 * fuR q i + fuK q - i % 2) = 0
        · replace c3 := c3 e
          obtain ⟨t1, t2, t3⟩ := fu_t (st := fuI rx cx q) (c1.mpr e) (by rw [i1]; exact c3.1)
          rw [t1, t2, t3, i1, c3.2.2]
          refine ⟨rfl, fun j hj => ?_⟩
          unfold va_up
          by_cases e2 : j = cnT (42 * q + i)
          · rw [if_pos e2, if_pos e2, e2, c3.2.1]
            exact ⟨by omega, by omega, by omega⟩
          · rw [if_neg e2, if_neg e2]; exact i2 j (by omega)
        · replace c3 := c4 e
          obtain ⟨t1, t2, t3⟩ := fu_f (st := fuI rx cx q) (Or.inl (fun z => e (c1.mp z)))
          rw [t1, t2, t3, c3]
          exact ⟨i1, i2⟩
    have := step 42 (Nat.le_refl _)
    rw [show 42 * q + 42 = 42 * (q + 1) by omega] at this
    exact this
theorem fuI_da (rx cx : Nat → Nat) {j : Nat} (hj : j < 208) : 21 * (fuI rx cx 10).2.1 j + (fuI rx cx 10).2.2 j = daT j ∧ (fuI rx cx 10).2.1 j < 21 ∧ (fuI rx cx 10).2.2 j < 21 := (fuI_tab rx cx 10 (Nat.le_refl _)).2 j hj
/-- the class's fixed rows -/
def fxR : Nat → Nat := va_up (ddL (deI (deI (deI z0 0 0 7) 0 14 7) 14 0 7) 3) 13 (ddL (deI (deI (deI z0 0 0 7) 0 14 7) 14 0 7) 3 13 ^^^ 2 ^ (20 - 8))
theorem fxR_tab : ∀ r, r < 21 → fxR r = frT r := by decide +kernel
theorem fr_chk : ∀ r, r < 21 → frT r < 2 ^ 21 ∧ ∀ c, c < 21 → (if soT (21 * r + c) = 1 then fxA r c else 0) = frT r / 2 ^ (20 - c) % 2 := by decide +kernel
theorem fo_in : ∀ i, i < 30 → foT i < 441 ∧ soT (foT i) = 2 := by decide +kernel
theorem fo_inj : ∀ i, i < 30 → ∀ j, j < 30 → foT i = foT j → i = j := by decide +kernel
theorem da_in : ∀ i, i < 208 → daT i < 441 ∧ soT (daT i) = 0 ∧ ivT (daT i) = i := by decide +kernel
theorem da_inj {i j : Nat} (hi : i < 208) (hj : j < 208) (h : daT i = daT j) : i = j := by
  rw [← (da_in i hi).2.2, ← (da_in j hj).2.2, h]
theorem so_le : ∀ k, k < 441 → soT k ≤ 2 := by decide +kernel
/-- the class's rows and columns of the form's copies -/
def f1R (k : Nat) : Nat := ([8, 8, 8, 8, 8, 8, 8, 8, 7, 5, 4, 3, 2, 1, 0] : List Nat).getD k 0
def f1C (k : Nat) : Nat := ([0, 1, 2, 3, 4, 5, 7, 8, 8, 8, 8, 8, 8, 8, 8] : List Nat).getD k 0
def f2R (k : Nat) : Nat := ([20, 19, 18, 17, 16, 15, 14, 8, 8, 8, 8, 8, 8, 8, 8] : List Nat).getD k 0
def f2C (k : Nat) : Nat := ([8, 8, 8, 8, 8, 8, 8, 13, 14, 15, 16, 17, 18, 19, 20] : List Nat).getD k 0
theorem f1_chk : ∀ j, j < 15 → f1R j < 21 ∧ f1C j < 21 ∧ foT (15 * 0 + j) = 21 * f1R j + f1C j := by decide +kernel
theorem f2_chk : ∀ j, j < 15 → f2R j < 21 ∧ f2C j < 21 ∧ foT (15 * 1 + j) = 21 * f2R j + f2C j := by decide +kernel
end TABS
