section SPEC_H5
def lt256 (n : Nat) (f : Nat → Nat) : Prop := ∀ j, j < n → f j < 256
theorem lt_up {n : Nat} {f : Nat → Nat} {k v : Nat} (h : lt256 n f) (hv : v < 256) : lt256 n (va_up f k v) := by
  intro j hj
  unfold va_up
  split
  · exact hv
  · exact h j hj
/-- the bytes before division: data, then 0 -/
def ckA (t b : Nat → Nat) (x : Nat) : Nat → Nat → Nat
  | 0 => t
  | k + 1 => va_up (ckA t b x k) k (if k < 26 - x then b k else 0)
theorem ckA_t {t b : Nat → Nat} {x k : Nat} (h : k < 26 - x) : ckA t b x (k + 1) = va_up (ckA t b x k) k (b k) := by rw [ckA, if_pos h]
theorem ckA_f {t b : Nat → Nat} {x k : Nat} (h : 26 - x ≤ k) : ckA t b x (k + 1) = va_up (ckA t b x k) k 0 := by rw [ckA, if_neg (by omega)]
theorem ckA_at {t b : Nat → Nat} {x : Nat} : ∀ (k j : Nat), j < k → ckA t b x k j = if j < 26 - x then b j else 0 := by
  intro k
  induction k with
  | zero => intro j h; omega
  | succ k ih =>
    intro j h
    by_cases hj : j = k
    · subst hj; exact if_pos rfl
    · exact (show ckA t b x (k + 1) j = ckA t b x k j from if_neg hj).trans (ih j (by omega))
theorem ckA_lt {b : Nat → Nat} {x : Nat} (t : Nat → Nat) (hb : lt256 26 b) : lt256 26 (ckA t b x 26) := by
  intro j hj
  rw [ckA_at 26 j hj]
  split
  · exact hb j hj
  · omega
/-- the generator's start -/
def ckS (s : Nat → Nat) : Nat → Nat → Nat
  | 0 => s
  | k + 1 => va_up (ckS s k) k (if k = 0 then 1 else 0)
theorem ckS_t {s : Nat → Nat} {k : Nat} (h : k = 0) : ckS s (k + 1) = va_up (ckS s k) k 1 := by rw [ckS, if_pos h]
theorem ckS_f {s : Nat → Nat} {k : Nat} (h : k ≠ 0) : ckS s (k + 1) = va_up (ckS s k) k 0 := by rw [ckS, if_neg h]
theorem ckS_at {s : Nat → Nat} : ∀ (k j : Nat), j < k → ckS s k j = if j = 0 then 1 else 0 := by
  intro k
  induction k with
  | zero => intro j h; omega
  | succ k ih =>
    intro j h
    by_cases hj : j = k
    · subst hj; exact if_pos rfl
    · exact (show ckS s (k + 1) j = ckS s k j from if_neg hj).trans (ih j (by omega))
theorem ckS_lt (s : Nat → Nat) : lt256 18 (ckS s 18) := by
  intro j hj
  rw [ckS_at 18 j hj]
  split <;> omega
/-- one factor of the generator: j places, from i + 1 down -/
def gnJ (s : Nat → Nat) (i : Nat) : Nat → Nat → Nat
  | 0 => s
  | j + 1 => va_up (gnJ s i j) (i + 1 - j) (gnJ s i j (i + 1 - j) ^^^ gm (gnJ s i j (i + 1 - j - 1)) (pw i))
def gnI (s : Nat → Nat) : Nat → Nat → Nat
  | 0 => s
  | i + 1 => gnJ (gnI s i) i (i + 1)
theorem gnJ_lt {s : Nat → Nat} (hs : lt256 18 s) (i : Nat) : ∀ j, i < 17 → lt256 18 (gnJ s i j) := by
  intro j hi
  induction j with
  | zero => exact hs
  | succ j ih => exact lt_up ih (xor_lt (ih _ (by omega)) (gm_lt _ (ih _ (by omega))))
theorem gnI_lt {s : Nat → Nat} (hs : lt256 18 s) : ∀ i, i ≤ 17 → lt256 18 (gnI s i) := by
  intro i
  induction i with
  | zero => intro _; exact hs
  | succ i ih => intro hi; exact gnJ_lt (ih (by omega)) i (i + 1) (by omega)
/-- division: one step's places, and the steps -/
def dvJ (t s : Nat → Nat) (k f : Nat) : Nat → Nat → Nat
  | 0 => t
  | j + 1 => va_up (dvJ t s k f j) (k + j) (dvJ t s k f j (k + j) ^^^ gm f (s j))
def dvI (t s : Nat → Nat) (x : Nat) : Nat → Nat → Nat
  | 0 => t
  | k + 1 => dvJ (dvI t s x k) s k (dvI t s x k k) (x + 1)
theorem dvJ_lt {t s : Nat → Nat} {k f : Nat} (ht : lt256 26 t) (hf : f < 256) : ∀ j, k + j ≤ 26 → lt256 26 (dvJ t s k f j) := by
  intro j
  induction j with
  | zero => intro _; exact ht
  | succ j ih => intro h; exact lt_up (ih (by omega)) (xor_lt (ih (by omega) _ (by omega)) (gm_lt _ hf))
theorem dvI_lt {t s : Nat → Nat} {x : Nat} (ht : lt256 26 t) (_ : lt256 18 s) : ∀ k, k + x ≤ 26 → lt256 26 (dvI t s x k) := by
  intro k
  induction k with
  | zero => intro _; exact ht
  | succ k ih => intro h; exact dvJ_lt (ih (by omega)) (ih (by omega) k (by omega)) (x + 1) (by omega)
/-- the check bytes copied -/
def cbL (b t : Nat → Nat) (s : Nat) : Nat → Nat → Nat
  | 0 => b
  | q + 1 => va_up (cbL b t s q) (s + q) (t (s + q))
end SPEC_H5
