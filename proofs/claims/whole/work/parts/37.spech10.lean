section SPEC_H10
/-- the square of syndromes, and one column more: row r's first k places, and the first r rows -/
def hkJ (s y : Nat → Nat) (x r : Nat) : Nat → Nat → Nat
  | 0 => s
  | k + 1 => va_up (hkJ s y x r k) ((x + 1) * r + k) (y (r + k))
def hkI (s y : Nat → Nat) (x : Nat) : Nat → Nat → Nat
  | 0 => s
  | r + 1 => hkJ (hkI s y x r) y x r (x + 1)
theorem hkJ_lt {s y : Nat → Nat} {x r : Nat} (hx : x ≤ 8) (hr : r < x) (hs : lt256 72 s) (hy : lt256 17 y) : ∀ k, k ≤ x + 1 → lt256 72 (hkJ s y x r k) := by
  intro k
  induction k with
  | zero => intro _; exact hs
  | succ k ih => intro h; exact lt_up (ih (by omega)) (hy _ (by omega))
theorem hkI_lt {sy y : Nat → Nat} {x : Nat} (hx : x ≤ 8) (hs : lt256 72 sy) (hy : lt256 17 y) : ∀ r, r ≤ x → lt256 72 (hkI sy y x r) := by
  intro r
  induction r with
  | zero => intro _; exact hs
  | succ r ih => intro h; exact hkJ_lt hx (by omega) (ih (by omega)) hy (x + 1) (Nat.le_refl _)
theorem soL_at {so s : Nat → Nat} {x : Nat} : ∀ k j, j < k → soL so s x k j = s ((x + 1) * j + x) := by
  intro k
  induction k with
  | zero => intro j h; omega
  | succ k ih =>
    intro j h
    by_cases hj : j = k
    · subst hj; exact if_pos rfl
    · exact (show soL so s x (k + 1) j = soL so s x k j from if_neg hj).trans (ih j (by omega))
theorem soL_lt {so s : Nat → Nat} {x : Nat} (hx : x ≤ 8) (hs : lt256 72 s) : lt256 x (soL so s x x) := by
  intro j hj
  rw [soL_at x j hj]
  exact hs _ (ix72 hx hj (by omega))
/-- the value at y of the polynomial whose highest term is 1: i terms more -/
def hvS (so : Nat → Nat) (y x : Nat) : Nat → Nat
  | 0 => 1
  | i + 1 => gm (hvS so y x i) y ^^^ so (x - (i + 1))
theorem hvS_lt {so : Nat → Nat} {y x : Nat} (hs : lt256 x so) (_ : y < 256) : ∀ i, i ≤ x → hvS so y x i < 256 := by
  intro i
  induction i with
  | zero => intro _; show 1 < 256; omega
  | succ i ih => intro h; exact xor_lt (gm_lt y (ih (by omega))) (hs _ (by omega))
/-- roots among the first q powers: how many, and where -/
def spC (so : Nat → Nat) (x : Nat) : Nat → Nat
  | 0 => 0
  | q + 1 => spC so x q + (if hvS so (pw q) x x = 0 then 1 else 0)
def spA (sp so : Nat → Nat) (x : Nat) : Nat → Nat → Nat
  | 0 => sp
  | q + 1 => if hvS so (pw q) x x = 0 then va_up (spA sp so x q) (spC so x q) q else spA sp so x q
variable {sp so : Nat → Nat} {x q : Nat}
theorem spC_t (h : hvS so (pw q) x x = 0) : spC so x (q + 1) = spC so x q + 1 := by rw [spC, if_pos h]
theorem spC_f (h : hvS so (pw q) x x ≠ 0) : spC so x (q + 1) = spC so x q := by rw [spC, if_neg h, Nat.add_zero]
theorem spA_t (h : hvS so (pw q) x x = 0) : spA sp so x (q + 1) = va_up (spA sp so x q) (spC so x q) q := by rw [spA, if_pos h]
theorem spA_f (h : hvS so (pw q) x x ≠ 0) : spA sp so x (q + 1) = spA sp so x q := by rw [spA, if_neg h]
end SPEC_H10
