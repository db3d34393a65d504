section SPEC_C2
theorem gs0_lt (ge : Nat → Nat) : lt256 18 (va_up (flL ge 0 18) 0 1) := by
  refine lt_up (fun j hj => ?_) (by decide)
  rw [flL_at 18 j hj]
  omega
theorem t1_lt {bt : Nat → Nat} {dt : Nat} (re : Nat → Nat) (hb : lt256 26 bt) : lt256 26 (va_cpy bt (flL re 0 26) 0 0 dt) := by
  intro j hj
  unfold va_cpy
  split
  · exact hb _ (by omega)
  · rw [flL_at 26 j hj]; omega
/-- the sums: the first k -/
def smL (su bt : Nat → Nat) : Nat → Nat → Nat
  | 0 => su
  | k + 1 => va_up (smL su bt k) k (hrn bt (pw k) 26)
/-- what is amiss at n: k terms -/
def msL (lc su : Nat → Nat) (n : Nat) : Nat → Nat
  | 0 => 0
  | k + 1 => msL lc su n k ^^^ gm (lc k) (su (n - k))
/-- k places of f times former, moved by s, added to the locator -/
def asL (lc fm : Nat → Nat) (f s : Nat) : Nat → Nat → Nat
  | 0 => lc
  | k + 1 => va_up (asL lc fm f s k) (k + s) (asL lc fm f s k (k + s) ^^^ gm f (fm k))
/-- the evaluator: j terms of place i, and the first i places -/
def feJ (v lc su : Nat → Nat) (i : Nat) : Nat → Nat → Nat
  | 0 => v
  | j + 1 => va_up (feJ v lc su i j) i (feJ v lc su i j i ^^^ gm (lc j) (su (i - j)))
def feI (v lc su : Nat → Nat) : Nat → Nat → Nat
  | 0 => v
  | i + 1 => feJ (feI v lc su i) lc su i (i + 1)
/-- the value of a polynomial of n terms at y: i terms, the highest first -/
def hvL (p : Nat → Nat) (n y : Nat) : Nat → Nat
  | 0 => 0
  | i + 1 => gm (hvL p n y i) y ^^^ p (n - (i + 1))
theorem hvL_lt {p : Nat → Nat} {n y : Nat} (hp : lt256 n p) (_ : y < 256) : ∀ i, 0 < n ∨ i = 0 → hvL p n y i < 256 := by
  intro i
  induction i with
  | zero => intro _; show 0 < 256; omega
  | succ i ih =>
    intro h
    exact xor_lt (gm_lt y (ih (Or.inl (by omega)))) (hp _ (by omega))
/-- the slope: k of its terms -/
def spL (lc : Nat → Nat) (x : Nat) : Nat → Nat
  | 0 => 0
  | k + 1 => spL lc x k ^^^ gm (lc (2 * k + 1)) (pwm (x * (2 * k)))
theorem spL_lt {lc : Nat → Nat} (h : lt256 18 lc) (x : Nat) : ∀ k, k ≤ 9 → spL lc x k < 256 := by
  intro k
  induction k with
  | zero => intro _; show 0 < 256; omega
  | succ k ih => intro hk; exact xor_lt (ih (by omega)) (gm_lt _ (h _ (by omega)))
theorem qtN_lt (a b : Nat) (ha : a < 256) (_ : b < 256) : qtN a b < 256 := by
  unfold qtN
  split
  · omega
  · exact gm_lt _ ha
/-- the change at exponent x -/
def caN (lc vl : Nat → Nat) (x : Nat) : Nat := gm (qtN (hvL vl 17 (pwm x) 17) (spL lc x 9)) (pw x)
def chg (lc vl : Nat → Nat) (x : Nat) : Nat := if hvL lc 18 (pwm x) 18 = 0 then caN lc vl x else 0
theorem chg_t {lc vl : Nat → Nat} {x : Nat} (h : hvL lc 18 (pwm x) 18 = 0) : chg lc vl x = caN lc vl x := if_pos h
theorem chg_f {lc vl : Nat → Nat} {x : Nat} (h : hvL lc 18 (pwm x) 18 ≠ 0) : chg lc vl x = 0 := if_neg h
theorem chg_lt {lc vl : Nat → Nat} (hl : lt256 18 lc) (hv : lt256 17 vl) (x : Nat) : chg lc vl x < 256 := by
  unfold chg caN
  split
  · exact gm_lt _ (qtN_lt _ _ (hvL_lt hv (pwm_lt x) 17 (Or.inl (by decide))) (spL_lt hl x 9 (by decide)))
  · omega
def cwB (bt lc vl : Nat → Nat) : Nat → Nat → Nat
  | 0 => bt
  | k + 1 => va_up (cwB bt lc vl k) k (cwB bt lc vl k k ^^^ chg lc vl (25 - k))
def cwC (lc vl : Nat → Nat) : Nat → Nat
  | 0 => 0
  | k + 1 => cwC lc vl k + (if chg lc vl (25 - k) = 0 then 0 else 1)
theorem cwC_t {lc vl : Nat → Nat} {k : Nat} (h : chg lc vl (25 - k) = 0) : cwC lc vl (k + 1) = cwC lc vl k + 0 := by rw [cwC, if_pos h]
theorem cwC_f {lc vl : Nat → Nat} {k : Nat} (h : chg lc vl (25 - k) ≠ 0) : cwC lc vl (k + 1) = cwC lc vl k + 1 := by rw [cwC, if_neg h]
end SPEC_C2
