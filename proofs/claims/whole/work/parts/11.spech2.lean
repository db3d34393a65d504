section SPEC_H2
/-- the value of a plain character; -1 where it is none -/
def plI (c : Nat) : Int32 :=
  if 48 ≤ c ∧ c ≤ 57 then nI (c - 48) else if 65 ≤ c ∧ c ≤ 90 then nI (c - 65 + 10) else
  if c = 32 then nI 36 else if c = 36 then nI 37 else if c = 37 then nI 38 else if c = 42 then nI 39 else if c = 43 then nI 40 else
  if c = 45 then nI 41 else if c = 46 then nI 42 else if c = 47 then nI 43 else if c = 58 then nI 44 else -1
theorem plI_a {c : Nat} (h1 : 48 ≤ c) (h2 : c ≤ 57) : plI c = nI (c - 48) := if_pos ⟨h1, h2⟩
theorem plI_b {c : Nat} (h1 : 65 ≤ c) (h2 : c ≤ 90) : plI c = nI (c - 65 + 10) := by
  unfold plI
  rw [if_neg (by omega), if_pos ⟨h1, h2⟩]
theorem plI_o {c : Nat} (h : c < 32 ∨ 58 < c) (h1 : ¬ (48 ≤ c ∧ c ≤ 57)) (h2 : ¬ (65 ≤ c ∧ c ≤ 90)) : plI c = -1 := by
  unfold plI
  rw [if_neg h1, if_neg h2, if_neg (by omega), if_neg (by omega), if_neg (by omega), if_neg (by omega), if_neg (by omega), if_neg (by omega), if_neg (by omega), if_neg (by omega), if_neg (by omega)]
theorem nx_sub1 (n : Nat) : nI n - nI 1 = nI (n - 0) - 1 := by
  rw [Nat.sub_zero]
  rfl
/-- the character of a value -/
def chN (v : Nat) : Nat :=
  if v < 10 then 48 + v else if v < 36 then 65 + v - 10 else
  if v = 36 then 32 else if v = 37 then 36 else if v = 38 then 37 else if v = 39 then 42 else if v = 40 then 43 else
  if v = 41 then 45 else if v = 42 then 46 else if v = 43 then 47 else 58
/-- the kind of the first k characters -/
def kdL (t : Nat → Nat) : Nat → Nat
  | 0 => 1
  | k + 1 => if ¬ 0 ≤ plI (t k) then 4 else if ¬ plI (t k) ≤ nI 9 ∧ kdL t k = 1 then 2 else kdL t k
theorem kdL_le (t : Nat → Nat) (k : Nat) : kdL t k ≤ 4 := by
  induction k with
  | zero => show 1 ≤ 4; omega
  | succ k ih => rw [kdL]; split <;> first | omega | (split <;> omega)
theorem kdL_a {t : Nat → Nat} {k : Nat} (h : ¬ 0 ≤ plI (t k)) : kdL t (k + 1) = 4 := by rw [kdL, if_pos h]
theorem kdL_b {t : Nat → Nat} {k : Nat} (h : 0 ≤ plI (t k)) (h2 : ¬ plI (t k) ≤ nI 9) (h3 : kdL t k = 1) : kdL t (k + 1) = 2 := by rw [kdL, if_neg (fun q => q h), if_pos ⟨h2, h3⟩]
theorem kdL_c {t : Nat → Nat} {k : Nat} (h : 0 ≤ plI (t k)) (_ : ¬ plI (t k) ≤ nI 9) (h3 : kdL t k ≠ 1) : kdL t (k + 1) = kdL t k := by rw [kdL, if_neg (fun q => q h), if_neg (fun q => h3 q.2)]
theorem kdL_d {t : Nat → Nat} {k : Nat} (h : 0 ≤ plI (t k)) (h2 : plI (t k) ≤ nI 9) : kdL t (k + 1) = kdL t k := by rw [kdL, if_neg (fun q => q h), if_neg (fun q => q.1 h2)]
def whN (b n : Nat) : Nat := if b = 0 then n else 0
/-- bits put: i of n, from the highest on, behind the first m -/
def ptL (b : Nat → Nat) (m v n : Nat) : Nat → Nat → Nat
  | 0 => b
  | i + 1 => if m + i < 208 then va_up (ptL b m v n i) (m + i) (v / 2 ^ (n - (i + 1)) % 2) else ptL b m v n i
theorem ptL_t {b : Nat → Nat} {m v n i : Nat} (h : m + i < 208) : ptL b m v n (i + 1) = va_up (ptL b m v n i) (m + i) (v / 2 ^ (n - (i + 1)) % 2) := by rw [ptL, if_pos h]
theorem ptL_f {b : Nat → Nat} {m v n i : Nat} (h : 208 ≤ m + i) : ptL b m v n (i + 1) = ptL b m v n i := by rw [ptL, if_neg (by omega)]
/-- the k next bits from place p on -/
def nxL (t : Nat → Nat) (p : Nat) : Nat → Nat
  | 0 => 0
  | k + 1 => 2 * nxL t p k + t ((p + k) / 8) / 2 ^ (7 - (p + k) % 8) % 2
end SPEC_H2
