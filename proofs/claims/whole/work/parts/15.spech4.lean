section SPEC_H4
/-- the first k places copied -/
def cpL (d g : Nat → Nat) : Nat → Nat → Nat
  | 0 => d
  | k + 1 => va_up (cpL d g k) k (g k)
theorem cpL_at {d g : Nat → Nat} : ∀ (k j : Nat), j < k → cpL d g k j = g j := by
  intro k
  induction k with
  | zero => intro j h; omega
  | succ k ih =>
    intro j h
    show va_up (cpL d g k) k (g k) j = g j
    by_cases hj : j = k
    · subst hj; exact va_up_self _ _ _
    · exact (show va_up (cpL d g k) k (g k) j = cpL d g k j from if_neg hj).trans (ih j (by omega))
theorem cpL_le {d g : Nat → Nat} (hg : ∀ j, j < 441 → g j ≤ 1) : ∀ j, j < 441 → cpL d g 441 j ≤ 1 := fun j hj => by rw [cpL_at 441 j hj]; exact hg j hj
theorem fmN_lt {lv mk : Nat} (hlv : lv < 4) (hmk : mk < 8) : fmN lv mk < 32768 := by
  have h8 : lv ^^^ 1 < 4 := Nat.xor_lt_two_pow (n := 2) hlv (by decide)
  have h1 : (8 * (lv ^^^ 1) + mk) * 2 ^ 10 < 32768 := by omega
  exact Nat.xor_lt_two_pow (n := 15) (Nat.or_lt_two_pow (n := 15) h1 (fmL_lt h1 5 (by omega))) (by decide)
/-- wrong bits of a form's copy against f, among the first j -/
def wgL (g fo : Nat → Nat) (c f : Nat) : Nat → Nat
  | 0 => 0
  | j + 1 => wgL g fo c f j + (if g (fo (15 * c + j)) = f / 2 ^ (14 - j) % 2 then 0 else 1)
theorem wgL_t {g fo : Nat → Nat} {c f j : Nat} (h : g (fo (15 * c + j)) = f / 2 ^ (14 - j) % 2) : wgL g fo c f (j + 1) = wgL g fo c f j + 0 := by rw [wgL, if_pos h]
theorem wgL_f {g fo : Nat → Nat} {c f j : Nat} (h : g (fo (15 * c + j)) ≠ f / 2 ^ (14 - j) % 2) : wgL g fo c f (j + 1) = wgL g fo c f j + 1 := by rw [wgL, if_neg h]
theorem wgL_le (g fo : Nat → Nat) (c f j : Nat) : wgL g fo c f j ≤ j := by
  induction j with
  | zero => exact Nat.le_refl 0
  | succ j ih => rw [wgL]; split <;> omega
/-- the last of the first k forms that is near enough; 4294967295 (that is -1) where none is -/
def foL (g fo : Nat → Nat) (c : Nat) : Nat → Nat
  | 0 => 4294967295
  | k + 1 => if wgL g fo c (fmN (k / 8) (k % 8)) 15 ≤ 3 then k else foL g fo c k
theorem foL_t {g fo : Nat → Nat} {c k : Nat} (h : wgL g fo c (fmN (k / 8) (k % 8)) 15 ≤ 3) : foL g fo c (k + 1) = k := by rw [foL, if_pos h]
theorem foL_f {g fo : Nat → Nat} {c k : Nat} (h : 3 < wgL g fo c (fmN (k / 8) (k % 8)) 15) : foL g fo c (k + 1) = foL g fo c k := by rw [foL, if_neg (by omega)]
/-- the first k places are 0 -/
def zrL (b : Nat → Nat) : Nat → Nat → Nat
  | 0 => b
  | k + 1 => va_up (zrL b k) k 0
/-- the first k data modules taken up into bytes -/
def tkL (b g da : Nat → Nat) (mk : Nat) : Nat → Nat → Nat
  | 0 => b
  | k + 1 => va_up (tkL b g da mk k) (k / 8) (2 * tkL b g da mk k (k / 8) + (if tnN mk (da k / 21) (da k % 21) = 0 then g (da k) else 1 - g (da k)))
theorem tkL_t {b g da : Nat → Nat} {mk k : Nat} (h : tnN mk (da k / 21) (da k % 21) = 0) : tkL b g da mk (k + 1) = va_up (tkL b g da mk k) (k / 8) (2 * tkL b g da mk k (k / 8) + g (da k)) := by rw [tkL, if_pos h]
theorem tkL_f {b g da : Nat → Nat} {mk k : Nat} (h : tnN mk (da k / 21) (da k % 21) ≠ 0) : tkL b g da mk (k + 1) = va_up (tkL b g da mk k) (k / 8) (2 * tkL b g da mk k (k / 8) + (1 - g (da k))) := by rw [tkL, if_neg h]
/-- drawing: the fixed modules, the form, the data -/
def dwA (d so : Nat → Nat) : Nat → Nat → Nat
  | 0 => d
  | k + 1 => va_up (dwA d so k) k (if so k = 1 then fxA (k / 21) (k % 21) else 0)
theorem dwA_t {d so : Nat → Nat} {k : Nat} (h : so k = 1) : dwA d so (k + 1) = va_up (dwA d so k) k (fxA (k / 21) (k % 21)) := by rw [dwA, if_pos h]
theorem dwA_f {d so : Nat → Nat} {k : Nat} (h : so k ≠ 1) : dwA d so (k + 1) = va_up (dwA d so k) k 0 := by rw [dwA, if_neg h]
def dwB (d fo : Nat → Nat) (f : Nat) : Nat → Nat → Nat
  | 0 => d
  | k + 1 => va_up (dwB d fo f k) (fo k) (f / 2 ^ (14 - k % 15) % 2)
def dwC (d da bt : Nat → Nat) (mk : Nat) : Nat → Nat → Nat
  | 0 => d
  | k + 1 => va_up (dwC d da bt mk k) (da k) (if tnN mk (da k / 21) (da k % 21) = 0 then bt (k / 8) / 2 ^ (7 - k % 8) % 2 else 1 - bt (k / 8) / 2 ^ (7 - k % 8) % 2)
theorem dwC_t {d da bt : Nat → Nat} {mk k : Nat} (h : tnN mk (da k / 21) (da k % 21) = 0) : dwC d da bt mk (k + 1) = va_up (dwC d da bt mk k) (da k) (bt (k / 8) / 2 ^ (7 - k % 8) % 2) := by rw [dwC, if_pos h]
theorem dwC_f {d da bt : Nat → Nat} {mk k : Nat} (h : tnN mk (da k / 21) (da k % 21) ≠ 0) : dwC d da bt mk (k + 1) = va_up (dwC d da bt mk k) (da k) (1 - bt (k / 8) / 2 ^ (7 - k % 8) % 2) := by rw [dwC, if_neg h]
end SPEC_H4
