/-! What the reference's small methods answer -/
section SPEC_M
def bN (P : Prop) [Decidable P] : Nat := if P then 1 else 0
theorem bN_le (P : Prop) [Decidable P] : bN P ≤ 1 := by unfold bN; split <;> omega
theorem bN_e0 {P : Prop} [Decidable P] : bN P = 0 ↔ ¬ P := by unfold bN; split <;> simp_all
theorem bN_ne0 {P : Prop} [Decidable P] : bN P ≠ 0 ↔ P := by unfold bN; split <;> simp_all
theorem bN_t {P : Prop} [Decidable P] (h : P) : bN P = 1 := if_pos h
theorem bN_f {P : Prop} [Decidable P] (h : ¬ P) : bN P = 0 := if_neg h
theorem bN_fit (P : Prop) [Decidable P] : narrow .boolean (.int (nI (bN P))) = .int (nI (bN P)) := by unfold bN; split <;> decide
abbrev inC (r d : Nat) : Prop := (r < 8 ∧ d < 8) ∨ (r < 8 ∧ 12 < d) ∨ (12 < r ∧ d < 8)
abbrev isF (r d : Nat) : Prop := inC r d ∨ r = 6 ∨ d = 6 ∨ (r = 13 ∧ d = 8)
abbrev isM (r d : Int32) : Prop := ¬ r < 0 ∧ ¬ nI 21 ≤ r ∧ ¬ d < 0 ∧ ¬ nI 21 ≤ d
def ckN (v : Nat) : Nat := if v = 0 then 7 else if v = 1 then 10 else if v = 2 then 13 else 17
def fxI (i j : Nat) : Nat := if (i = 0 ∨ i = 6 ∨ j = 0 ∨ j = 6) ∨ (2 ≤ i ∧ i ≤ 4 ∧ 2 ≤ j ∧ j ≤ 4) then 1 else 0
/-- what a fixed module holds -/
def fxA (r d : Nat) : Nat :=
  if r = 13 ∧ d = 8 then 1 else if inC r d then
    (if r = 13 ∨ d = 13 ∨ r = 7 ∨ d = 7 then 0 else fxI (if 12 < r then r - 14 else r) (if 12 < d then d - 14 else d))
  else if r = 6 then 1 - d % 2 else 1 - r % 2
def tnN (mk r d : Nat) : Nat := match mk with
  | 0 => bN ((r + d) % 2 = 0)
  | 1 => bN (r % 2 = 0)
  | 2 => bN (d % 3 = 0)
  | 3 => bN ((r + d) % 3 = 0)
  | 4 => bN ((r / 2 + d / 3) % 2 = 0)
  | 5 => bN (r * d % 2 + r * d % 3 = 0)
  | 6 => bN ((r * d % 2 + r * d % 3) % 2 = 0)
  | _ => bN (((r + d) % 2 + r * d % 3) % 2 = 0)
theorem tnN_le (mk r d : Nat) : tnN mk r d ≤ 1 := by
  unfold tnN
  split <;> exact bN_le _
theorem tnN_fit (mk r d : Nat) : narrow .boolean (.int (nI (tnN mk r d))) = .int (nI (tnN mk r d)) := by
  unfold tnN
  split <;> exact bN_fit _
/-- the rest of a form's bits: j steps, from bit 14 down -/
def fmL (r : Nat) : Nat → Nat
  | 0 => r
  | j + 1 => if fmL r j / 2 ^ (14 - j) % 2 = 1 then fmL r j ^^^ 1335 * 2 ^ (4 - j) else fmL r j
theorem fmL_t {r j : Nat} (h : fmL r j / 2 ^ (14 - j) % 2 = 1) : fmL r (j + 1) = fmL r j ^^^ 1335 * 2 ^ (4 - j) := by rw [fmL, if_pos h]
theorem fmL_f {r j : Nat} (h : fmL r j / 2 ^ (14 - j) % 2 ≠ 1) : fmL r (j + 1) = fmL r j := by rw [fmL, if_neg h]
theorem fmL_lt {r : Nat} (hr : r < 32768) : ∀ j, j ≤ 5 → fmL r j < 32768 := by
  intro j
  induction j with
  | zero => intro _; exact hr
  | succ j ih =>
    intro hj
    have h := ih (by omega)
    rw [fmL]
    split
    · refine Nat.xor_lt_two_pow (n := 15) h ?_
      rcases (show j = 0 ∨ j = 1 ∨ j = 2 ∨ j = 3 ∨ j = 4 by omega) with h | h | h | h | h <;> subst h <;> decide
    · exact h
/-- the 15 bits of level and mask -/
def fmN (lv mk : Nat) : Nat := ((8 * (lv ^^^ 1) + mk) * 2 ^ 10 ||| fmL ((8 * (lv ^^^ 1) + mk) * 2 ^ 10) 5) ^^^ 21522
theorem gmL_1t {a b k : Nat} (h : b / 2 ^ k % 2 = 1) : (gmL a b (k + 1)).1 = (gmL a b k).1 ^^^ (gmL a b k).2 := by rw [gmL, if_pos h]
theorem gmL_1f {a b k : Nat} (h : b / 2 ^ k % 2 ≠ 1) : (gmL a b (k + 1)).1 = (gmL a b k).1 := by rw [gmL, if_neg h]
theorem gmL_2t {a b k : Nat} (h : (gmL a b k).2 * 2 ^ 1 ≤ 255) : (gmL a b (k + 1)).2 = (gmL a b k).2 * 2 ^ 1 := by
  show xt (gmL a b k).2 = _
  unfold xt
  rw [if_neg (by omega)]
theorem gmL_2f {a b k : Nat} (h : 255 < (gmL a b k).2 * 2 ^ 1) : (gmL a b (k + 1)).2 = (gmL a b k).2 * 2 ^ 1 ^^^ 285 := by
  show xt (gmL a b k).2 = _
  unfold xt
  rw [if_pos (by omega)]
/-- the inverse -/
def ivN (a : Nat) : Nat := pw (255 - lg a)
theorem ivN_lt (a : Nat) : ivN a < 256 := pw_lt _
theorem gm_iv {a : Nat} (ha : a < 256) (h : a ≠ 0) : gm a (ivN a) = 1 := gm_inv ha h
theorem ivN_pos {a : Nat} (_ : a < 256) (_ : a ≠ 0) : 1 ≤ ivN a := Nat.pos_of_ne_zero (pw_ne _)
theorem ivN_uniq {a b : Nat} (ha : a < 256) (h : a ≠ 0) (hb : b < 256) (hab : gm a b = 1) : b = ivN a := by
  have h1 : gm (gm b a) (ivN a) = gm b (gm a (ivN a)) := gm_assoc hb ha (ivN_lt a)
  rw [gm_iv ha h, gm_comm hb ha, hab, gm_one _ (ivN_lt a), gm_comm hb (by omega), gm_one _ hb] at h1
  exact h1.symm
end SPEC_M
section SPEC_Q
abbrev isL (i : Int32) : Prop := ¬ i < 0 ∧ ¬ nI 21 ≤ i
abbrev isDt (r d : Nat) : Prop := ¬ ((r ≤ 8 ∧ d ≤ 8) ∨ (r ≤ 8 ∧ 13 ≤ d) ∨ (13 ≤ r ∧ d ≤ 8)) ∧ r ≠ 6 ∧ d ≠ 6
theorem fxI_fit (i j : Nat) : narrow .boolean (.int (nI (fxI i j))) = .int (nI (fxI i j)) := by unfold fxI; split <;> decide
/-- runs of a line, from its lowest bit: what is summed, and the run that goes on, before bit k + 1 is looked at -/
def prL (x : Nat) : Nat → Nat × Nat
  | 0 => (0, 1)
  | k + 1 => if k + 1 < 21 ∧ x / 2 ^ (k + 1) % 2 = x / 2 ^ k % 2 then ((prL x k).1, (prL x k).2 + 1) else ((prL x k).1 + (if 5 ≤ (prL x k).2 then (prL x k).2 - 2 else 0), 1)
theorem prL_1t {x k : Nat} (h : k + 1 < 21) (g : x / 2 ^ (k + 1) % 2 = x / 2 ^ k % 2) : (prL x (k + 1)).1 = (prL x k).1 := by rw [prL, if_pos ⟨h, g⟩]
theorem prL_2t {x k : Nat} (h : k + 1 < 21) (g : x / 2 ^ (k + 1) % 2 = x / 2 ^ k % 2) : (prL x (k + 1)).2 = (prL x k).2 + 1 := by rw [prL, if_pos ⟨h, g⟩]
theorem prL_1f {x k : Nat} (h : 21 ≤ k + 1) (g : (prL x k).2 < 5) : (prL x (k + 1)).1 = (prL x k).1 + 0 := by rw [prL, if_neg (fun q => by omega), if_neg (by omega)]
theorem prL_1g {x k : Nat} (h : 21 ≤ k + 1) (g : 5 ≤ (prL x k).2) : (prL x (k + 1)).1 = (prL x k).1 + ((prL x k).2 - 2) := by rw [prL, if_neg (fun q => by omega), if_pos g]
theorem prL_1h {x k : Nat} (h : x / 2 ^ (k + 1) % 2 ≠ x / 2 ^ k % 2) (g : (prL x k).2 < 5) : (prL x (k + 1)).1 = (prL x k).1 + 0 := by rw [prL, if_neg (fun q => h q.2), if_neg (by omega)]
theorem prL_1i {x k : Nat} (h : x / 2 ^ (k + 1) % 2 ≠ x / 2 ^ k % 2) (g : 5 ≤ (prL x k).2) : (prL x (k + 1)).1 = (prL x k).1 + ((prL x k).2 - 2) := by rw [prL, if_neg (fun q => h q.2), if_pos g]
theorem prL_2f {x k : Nat} (h : 21 ≤ k + 1) : (prL x (k + 1)).2 = 1 := by rw [prL, if_neg (fun q => by omega)]
theorem prL_2g {x k : Nat} (h : x / 2 ^ (k + 1) % 2 ≠ x / 2 ^ k % 2) : (prL x (k + 1)).2 = 1 := by rw [prL, if_neg (fun q => h q.2)]
theorem prL_le (x k : Nat) : (prL x k).2 ≤ k + 1 ∧ 1 ≤ (prL x k).2 := by
  induction k with
  | zero => exact ⟨Nat.le_refl 1, Nat.le_refl 1⟩
  | succ k ih =>
    by_cases h : k + 1 < 21 ∧ x / 2 ^ (k + 1) % 2 = x / 2 ^ k % 2
    · rw [prL, if_pos h]
      exact ⟨by show (prL x k).2 + 1 ≤ _; omega, by show 1 ≤ (prL x k).2 + 1; omega⟩
    · rw [prL, if_neg h]
      exact ⟨by show 1 ≤ _; omega, Nat.le_refl 1⟩
/-- the pattern of an eye, seen in the k lowest places -/
def peL (x : Nat) : Nat → Nat
  | 0 => 0
  | k + 1 => peL x k + (if x / 2 ^ k % 2048 = 1488 ∨ x / 2 ^ k % 2048 = 93 then 40 else 0)
theorem peL_t {x k : Nat} (h : x / 2 ^ k % 2048 = 1488) : peL x (k + 1) = peL x k + 40 := by rw [peL, if_pos (Or.inl h)]
theorem peL_u {x k : Nat} (h : x / 2 ^ k % 2048 = 93) : peL x (k + 1) = peL x k + 40 := by rw [peL, if_pos (Or.inr h)]
theorem peL_f {x k : Nat} (h : x / 2 ^ k % 2048 ≠ 1488) (h2 : x / 2 ^ k % 2048 ≠ 93) : peL x (k + 1) = peL x k := by rw [peL, if_neg (fun q => q.elim h h2), Nat.add_zero]
/-- a form's 15 bits by its number -/
def fmW (n : Nat) : Nat := (n * 2 ^ 10 ||| fmL (n * 2 ^ 10) 5) ^^^ 21522
end SPEC_Q
