section SPEC_H3
theorem isM_nI {r d : Nat} (hr : r < 21) (hd : d < 21) : isM (nI r) (nI d) := ⟨nI_pos (by omega), nI_ge hr (by decide), nI_pos (by omega), nI_ge hd (by decide)⟩
/-- lines: runs and marks of the first k -/
def ulL (d : Nat → Nat) : Nat → Nat
  | 0 => 0
  | k + 1 => ulL d k + ((rnL (ilN d k) 21).1 + mkL (ilN d k) 11)
/-- dark modules among the first k -/
def dkL (d : Nat → Nat) : Nat → Nat
  | 0 => 0
  | k + 1 => dkL d k + d k
theorem dkL_le {d : Nat → Nat} (hd : ∀ j, j < 441 → d j ≤ 1) : ∀ k, k ≤ 441 → dkL d k ≤ k := by
  intro k
  induction k with
  | zero => intro _; exact Nat.le_refl 0
  | succ k ih =>
    intro hk
    have h1 := ih (by omega)
    have h2 := hd k (by omega)
    show dkL d k + d k ≤ k + 1
    omega
/-- lines, and squares among the first k -/
def sqL (d : Nat → Nat) : Nat → Nat
  | 0 => ulL d 42
  | k + 1 => sqL d k + (if k % 21 < 20 ∧ k / 21 < 20 ∧ d k = d (k + 1) ∧ d k = d (k + 21) ∧ d k = d (k + 22) then 3 else 0)
theorem sqL_t {d : Nat → Nat} {k : Nat} (h1 : k % 21 < 20) (h2 : k / 21 < 20) (h3 : d k = d (k + 1)) (h4 : d k = d (k + 21)) (h5 : d k = d (k + 22)) : sqL d (k + 1) = sqL d k + 3 := by rw [sqL, if_pos ⟨h1, h2, h3, h4, h5⟩]
theorem sqL_f {d : Nat → Nat} {k : Nat} (h : ¬ (k % 21 < 20 ∧ k / 21 < 20 ∧ d k = d (k + 1) ∧ d k = d (k + 21) ∧ d k = d (k + 22))) : sqL d (k + 1) = sqL d k + 0 := by rw [sqL, if_neg h]
/-- how ugly -/
def ugN (d : Nat → Nat) : Nat := sqL d 441 + 10 * ((if 20 * dkL d 441 < 4410 then 4410 - 20 * dkL d 441 else 20 * dkL d 441 - 4410) / 441)
theorem ugN_t {d : Nat → Nat} (h : 20 * dkL d 441 < 4410) : ugN d = sqL d 441 + 10 * ((4410 - 20 * dkL d 441) / 441) := by unfold ugN; rw [if_pos h]
theorem ugN_f {d : Nat → Nat} (h : 4410 ≤ 20 * dkL d 441) : ugN d = sqL d 441 + 10 * ((20 * dkL d 441 - 4410) / 441) := by unfold ugN; rw [if_neg (by omega)]
/-- a row as a number: its first k modules -/
def rwL (g : Nat → Nat) (r : Nat) : Nat → Nat
  | 0 => 0
  | k + 1 => 2 * rwL g r k + g (21 * r + k)
end SPEC_H3
