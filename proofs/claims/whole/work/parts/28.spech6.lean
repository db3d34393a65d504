section SPEC_H6
/-- by one less at a time -/
theorem fuel_ind {P : Nat → Prop} (h : ∀ n, (∀ m, n = m + 1 → P m) → P n) : ∀ n, P n := by
  intro n
  induction n with
  | zero => exact h 0 (fun m e => by omega)
  | succ n ih => exact h (n + 1) (fun m e => (Nat.succ.inj e) ▸ ih)
theorem nxL_lt {t : Nat → Nat} (_ : ∀ j, j < 26 → t j < 256) (p : Nat) : ∀ k, nxL t p k < 2 ^ k := by
  intro k
  induction k with
  | zero => show 0 < 1; omega
  | succ k ih =>
    have h1 : t ((p + k) / 8) / 2 ^ (7 - (p + k) % 8) % 2 < 2 := Nat.mod_lt _ (by decide)
    show 2 * nxL t p k + t ((p + k) / 8) / 2 ^ (7 - (p + k) % 8) % 2 < 2 ^ (k + 1)
    rw [Nat.pow_succ]
    omega
/-- a group's number, i places taken off -/
def gpV (v b : Nat) : Nat → Nat
  | 0 => v
  | i + 1 => gpV v b i / b
theorem gpV_le (v b i : Nat) : gpV v b i ≤ v := by
  induction i with
  | zero => exact Nat.le_refl v
  | succ i ih => exact Nat.le_trans (Nat.div_le_self _ _) ih
/-- a group's characters, the last i of x, behind the first f -/
def gpR (r : Nat → Nat) (f x b v : Nat) : Nat → Nat → Nat
  | 0 => r
  | i + 1 => va_up (gpR r f x b v i) (f + (x - (i + 1))) (if b = 256 then gpV v b i % b else chN (gpV v b i % b))
theorem gpR_t {r : Nat → Nat} {f x b v i : Nat} (h : b = 256) : gpR r f x b v (i + 1) = va_up (gpR r f x b v i) (f + (x - (i + 1))) (gpV v b i % b) := by rw [gpR, if_pos h]
theorem gpR_f {r : Nat → Nat} {f x b v i : Nat} (h : b ≠ 256) : gpR r f x b v (i + 1) = va_up (gpR r f x b v i) (f + (x - (i + 1))) (chN (gpV v b i % b)) := by rw [gpR, if_neg h]
end SPEC_H6
