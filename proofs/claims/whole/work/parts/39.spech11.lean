section SPEC_H11
theorem cp_lt (t : Nat → Nat) {b : Nat → Nat} (hb : lt256 26 b) : lt256 26 (cpL t b 26) := fun j hj => by rw [cpL_at 26 j hj]; exact hb j hj
/-- the powers of the places found, row r's first k, and the first r rows with their syndromes -/
def vdJ (s sp : Nat → Nat) (x r : Nat) : Nat → Nat → Nat
  | 0 => s
  | k + 1 => va_up (vdJ s sp x r k) ((x + 1) * r + k) (pw (sp k * r % 255))
def vdI (s sp y : Nat → Nat) (x : Nat) : Nat → Nat → Nat
  | 0 => s
  | r + 1 => va_up (vdJ (vdI s sp y x r) sp x r x) ((x + 1) * r + x) (y r)
theorem vdJ_lt {s sp : Nat → Nat} {x r : Nat} (hs : lt256 72 s) : ∀ k, lt256 72 (vdJ s sp x r k) := by
  intro k
  induction k with
  | zero => exact hs
  | succ k ih => exact lt_up ih (pw_lt _)
theorem vdI_lt {s sp y : Nat → Nat} {x : Nat} (hx : x ≤ 8) (hs : lt256 72 s) (hy : lt256 17 y) : ∀ r, r ≤ x → lt256 72 (vdI s sp y x r) := by
  intro r
  induction r with
  | zero => intro _; exact hs
  | succ r ih => intro h; exact lt_up (vdJ_lt (ih (by omega)) x) (hy _ (by omega))
/-- the places found are among the first q -/
theorem spA_lt (sp so : Nat → Nat) (x : Nat) : ∀ q, q ≤ 26 → ∀ k, k < spC so x q → spA sp so x q k < q := by
  intro q
  induction q with
  | zero => intro _ k h; exact absurd h (Nat.not_lt_zero _)
  | succ q ih =>
    intro hq k hk
    by_cases h : hvS so (pw q) x x = 0
    · rw [spC_t h] at hk
      rw [spA_t h]
      unfold va_up
      split
      · omega
      · exact Nat.lt_succ_of_lt (ih (by omega) k (by omega))
    · rw [spC_f h] at hk
      rw [spA_f h]
      exact Nat.lt_succ_of_lt (ih (by omega) k hk)
/-- the first k places mended -/
def mdL (t sp so : Nat → Nat) : Nat → Nat → Nat
  | 0 => t
  | k + 1 => va_up (mdL t sp so k) (25 - sp k) (mdL t sp so k (25 - sp k) ^^^ so k)
theorem mdL_lt {t sp so : Nat → Nat} {x : Nat} (ht : lt256 26 t) (hs : lt256 x so) : ∀ k, k ≤ x → lt256 26 (mdL t sp so k) := by
  intro k
  induction k with
  | zero => intro _; exact ht
  | succ k ih =>
    intro h
    have i := ih (by omega)
    exact lt_up i (xor_lt (i _ (by omega)) (hs k (by omega)))
end SPEC_H11
