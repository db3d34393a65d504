/-! What the reference's methods over its arrays answer -/
section SPEC_H
/-- the value of 26 bytes at x, highest power first: j of them -/
def hrn (t : Nat → Nat) (x : Nat) : Nat → Nat
  | 0 => 0
  | j + 1 => gm (hrn t x j) x ^^^ t j
theorem hrn_lt {t : Nat → Nat} {x : Nat} (ht : ∀ j, j < 26 → t j < 256) (_ : x < 256) : ∀ j, j ≤ 26 → hrn t x j < 256 := by
  intro j
  induction j with
  | zero => intro _; show 0 < 256; omega
  | succ j ih => intro hj; exact xor_lt (gm_lt x (ih (by omega))) (ht j (by omega))
/-- are the first k sums 0 -/
def irL (t : Nat → Nat) : Nat → Nat
  | 0 => 1
  | k + 1 => if irL t k ≠ 0 ∧ hrn t (pw k) 26 = 0 then 1 else 0
theorem irL_le (t : Nat → Nat) (k : Nat) : irL t k ≤ 1 := by
  cases k with
  | zero => exact Nat.le_refl 1
  | succ k => rw [irL]; split <;> omega
theorem irL_t {t : Nat → Nat} {k : Nat} (h : irL t k ≠ 0) (h2 : hrn t (pw k) 26 = 0) : irL t (k + 1) = 1 := by rw [irL, if_pos ⟨h, h2⟩]
theorem irL_f {t : Nat → Nat} {k : Nat} (h : irL t k = 0) : irL t (k + 1) = 0 := by rw [irL, if_neg (fun q => q.1 h)]
theorem irL_g {t : Nat → Nat} {k : Nat} (h : hrn t (pw k) 26 ≠ 0) : irL t (k + 1) = 0 := by rw [irL, if_neg (fun q => h q.2)]
theorem irL_fit (t : Nat → Nat) (k : Nat) : narrow .boolean (.int (nI (irL t k))) = .int (nI (irL t k)) := by
  rcases (show irL t k = 0 ∨ irL t k = 1 by have := irL_le t k; omega) with h | h <;> rw [h] <;> decide
/-- the k-th module of line u: rows, then columns -/
def ilN (d : Nat → Nat) (u k : Nat) : Nat := if u < 21 then d (21 * u + k) else d (21 * k + u - 21)
theorem ilN_t {d : Nat → Nat} {u k : Nat} (h : u < 21) : ilN d u k = d (21 * u + k) := if_pos h
theorem ilN_f {d : Nat → Nat} {u k : Nat} (h : 21 ≤ u) : ilN d u k = d (21 * k + u - 21) := if_neg (by omega)
theorem ilN_le {d : Nat → Nat} {u k : Nat} (hd : ∀ j, j < 441 → d j ≤ 1) (hu : u < 42) (hk : k < 21) : ilN d u k ≤ 1 := by
  unfold ilN
  split <;> exact hd _ (by omega)
/-- runs along a line: what is summed, and the run that goes on, before place k + 1 is looked at -/
def rnL (f : Nat → Nat) : Nat → Nat × Nat
  | 0 => (0, 1)
  | k + 1 => if k + 1 < 21 ∧ f (k + 1) = f k then ((rnL f k).1, (rnL f k).2 + 1) else ((rnL f k).1 + (if 5 ≤ (rnL f k).2 then (rnL f k).2 - 2 else 0), 1)
theorem rnL_1t {f : Nat → Nat} {k : Nat} (h : k + 1 < 21) (g : f (k + 1) = f k) : (rnL f (k + 1)).1 = (rnL f k).1 := by rw [rnL, if_pos ⟨h, g⟩]
theorem rnL_2t {f : Nat → Nat} {k : Nat} (h : k + 1 < 21) (g : f (k + 1) = f k) : (rnL f (k + 1)).2 = (rnL f k).2 + 1 := by rw [rnL, if_pos ⟨h, g⟩]
theorem rnL_1f {f : Nat → Nat} {k : Nat} (h : 21 ≤ k + 1) (g : (rnL f k).2 < 5) : (rnL f (k + 1)).1 = (rnL f k).1 + 0 := by rw [rnL, if_neg (fun q => by omega), if_neg (by omega)]
theorem rnL_1g {f : Nat → Nat} {k : Nat} (h : 21 ≤ k + 1) (g : 5 ≤ (rnL f k).2) : (rnL f (k + 1)).1 = (rnL f k).1 + ((rnL f k).2 - 2) := by rw [rnL, if_neg (fun q => by omega), if_pos g]
theorem rnL_1h {f : Nat → Nat} {k : Nat} (h : f (k + 1) ≠ f k) (g : (rnL f k).2 < 5) : (rnL f (k + 1)).1 = (rnL f k).1 + 0 := by rw [rnL, if_neg (fun q => h q.2), if_neg (by omega)]
theorem rnL_1i {f : Nat → Nat} {k : Nat} (h : f (k + 1) ≠ f k) (g : 5 ≤ (rnL f k).2) : (rnL f (k + 1)).1 = (rnL f k).1 + ((rnL f k).2 - 2) := by rw [rnL, if_neg (fun q => h q.2), if_pos g]
theorem rnL_2f {f : Nat → Nat} {k : Nat} (h : 21 ≤ k + 1) : (rnL f (k + 1)).2 = 1 := by rw [rnL, if_neg (fun q => by omega)]
theorem rnL_2g {f : Nat → Nat} {k : Nat} (h : f (k + 1) ≠ f k) : (rnL f (k + 1)).2 = 1 := by rw [rnL, if_neg (fun q => h q.2)]
theorem rnL_le (f : Nat → Nat) (k : Nat) : (rnL f k).2 ≤ k + 1 ∧ 1 ≤ (rnL f k).2 := by
  induction k with
  | zero => exact ⟨Nat.le_refl 1, Nat.le_refl 1⟩
  | succ k ih =>
    by_cases h : k + 1 < 21 ∧ f (k + 1) = f k
    · rw [rnL, if_pos h]
      exact ⟨by show (rnL f k).2 + 1 ≤ _; omega, by show 1 ≤ (rnL f k).2 + 1; omega⟩
    · rw [rnL, if_neg h]
      exact ⟨by show 1 ≤ _; omega, Nat.le_refl 1⟩
/-- eleven places from k on, as a number: j of them -/
def mvL (f : Nat → Nat) (k : Nat) : Nat → Nat
  | 0 => 0
  | j + 1 => 2 * mvL f k j + f (k + j)
theorem mvL_lt {f : Nat → Nat} {k : Nat} (hf : ∀ j, j < 11 → f (k + j) ≤ 1) : ∀ j, j ≤ 11 → mvL f k j < 2 ^ j := by
  intro j
  induction j with
  | zero => intro _; show 0 < 1; omega
  | succ j ih =>
    intro hj
    have h1 := ih (by omega)
    have h2 := hf j (by omega)
    show 2 * mvL f k j + f (k + j) < 2 ^ (j + 1)
    rw [Nat.pow_succ]
    omega
def mkL (f : Nat → Nat) : Nat → Nat
  | 0 => 0
  | k + 1 => mkL f k + (if mvL f k 11 = 1488 ∨ mvL f k 11 = 93 then 40 else 0)
theorem mkL_t {f : Nat → Nat} {k : Nat} (h : mvL f k 11 = 1488) : mkL f (k + 1) = mkL f k + 40 := by rw [mkL, if_pos (Or.inl h)]
theorem mkL_u {f : Nat → Nat} {k : Nat} (h : mvL f k 11 = 93) : mkL f (k + 1) = mkL f k + 40 := by rw [mkL, if_pos (Or.inr h)]
theorem mkL_f {f : Nat → Nat} {k : Nat} (h : mvL f k 11 ≠ 1488) (h2 : mvL f k 11 ≠ 93) : mkL f (k + 1) = mkL f k + 0 := by rw [mkL, if_neg (fun q => q.elim h h2)]
end SPEC_H
