section SPEC_C4
/-- counting bits, as the JDK does it -/
def bc1 (x : Nat) : Nat := x - (x / 2 ^ 1 &&& 1431655765)
def bc2 (x : Nat) : Nat := (bc1 x &&& 858993459) + (bc1 x / 2 ^ 2 &&& 858993459)
def bc3 (x : Nat) : Nat := bc2 x + bc2 x / 2 ^ 4 &&& 252645135
def bc4 (x : Nat) : Nat := bc3 x + bc3 x / 2 ^ 8
def bc5 (x : Nat) : Nat := bc4 x + bc4 x / 2 ^ 16
def bcN (x : Nat) : Nat := bc5 x &&& 63
theorem bc1_le (x : Nat) : bc1 x ≤ x := Nat.sub_le _ _
theorem bc2_lt (x : Nat) : bc2 x < 2147483648 := by
  have h1 : bc1 x &&& 858993459 ≤ 858993459 := Nat.and_le_right
  have h2 : bc1 x / 2 ^ 2 &&& 858993459 ≤ 858993459 := Nat.and_le_right
  unfold bc2
  omega
theorem bc3_lt (x : Nat) : bc3 x ≤ 252645135 := Nat.and_le_right
theorem bc4_lt (x : Nat) : bc4 x < 2147483648 := by
  have h := bc3_lt x
  unfold bc4
  omega
theorem bcN_le (x : Nat) : bcN x ≤ 63 := Nat.and_le_right
theorem xor_lt32 {a : Nat} (h : a < 4294967296) : a ^^^ 4294967295 < 4294967296 := Nat.xor_lt_two_pow (n := 32) h (by decide)
theorem xor_big {a : Nat} (h : a < 2147483648) : 2147483648 ≤ a ^^^ 4294967295 := by
  apply Nat.ge_two_pow_of_testBit (i := 31)
  rw [Nat.testBit_xor]
  have h1 : a.testBit 31 = false := Nat.testBit_lt_two_pow h
  rw [h1]
  decide
theorem nx_shr1 {q : Nat} (h1 : 2147483648 ≤ q) (h2 : q < 4294967296) : nI q >>> (nI 1 &&& 31) = nI (q / 2 + 2147483648) := by
  apply Int32.toInt_inj.mp
  rw [pk_shr (nI q) (nI 1 &&& 31) 1 (nx_s 1 (by decide))]
  have e1 : (nI q).toInt = (q : Int) - 4294967296 := by
    show (Int32.ofNat q).toInt = _
    rw [Int32.toInt_ofNat']
    rw [Int.bmod_def]
    simp
    omega
  have e2 : (nI (q / 2 + 2147483648)).toInt = ((q / 2 + 2147483648 : Nat) : Int) - 4294967296 := by
    show (Int32.ofNat (q / 2 + 2147483648)).toInt = _
    rw [Int32.toInt_ofNat']
    rw [Int.bmod_def]
    simp
    omega
  rw [e1, e2, Int.shiftRight_eq_div_pow]
  omega
/-- squares: rows r and r + 1 -/
def sqA (ro : Nat → Nat) (r : Nat) : Nat := ((((ro r ^^^ ro r / 2 ^ 1) ^^^ 4294967295) &&& ((ro r ^^^ ro (r + 1)) ^^^ 4294967295)) &&& (((ro r ^^^ ro (r + 1)) ^^^ 4294967295) / 2 + 2147483648)) &&& 1048575
def pqL (ro : Nat → Nat) : Nat → Nat
  | 0 => 0
  | k + 1 => pqL ro k + bcN (sqA ro k)
/-- dark modules -/
def pbL (ro : Nat → Nat) : Nat → Nat
  | 0 => 0
  | k + 1 => pbL ro k + bcN (ro k)
theorem pbL_le (ro : Nat → Nat) (k : Nat) : pbL ro k ≤ 63 * k := by
  induction k with
  | zero => exact Nat.le_refl 0
  | succ k ih => have h := bcN_le (ro k); show pbL ro k + bcN (ro k) ≤ _; omega
def adN (a : Nat) : Nat := if a < 4410 then 4410 - a else a - 4410
theorem adN_lt (a : Nat) : adN a ≤ a + 4410 := by unfold adN; split <;> omega
theorem nx_abs {a : Nat} (ha : a < 1000000) : (if 0 ≤ nI a - nI 4410 then nI a - nI 4410 else 0 - (nI a - nI 4410)) = nI (adN a) := by
  unfold adN
  by_cases h : a < 4410
  · rw [if_neg (nx_nge0 h (by decide)), if_pos h, Int32.zero_sub, nx_negsub (by omega)]
  · rw [pk_sub (by omega), if_pos (nI_pos' (by omega)), if_neg h]
theorem clN_lt (ro : Nat → Nat) (d : Nat) : ∀ k, clN ro d k < 2 ^ k := by
  intro k
  induction k with
  | zero => show 0 < 1; omega
  | succ k ih =>
    show clN ro d k * 2 ^ 1 ||| ro k / 2 ^ (20 - d) % 2 < 2 ^ (k + 1)
    refine Nat.or_lt_two_pow ?_ ?_
    · rw [Nat.pow_succ]; omega
    · have h1 : ro k / 2 ^ (20 - d) % 2 < 2 := Nat.mod_lt _ (by decide)
      have h2 : 1 ≤ 2 ^ k := Nat.one_le_two_pow
      rw [Nat.pow_succ]; omega
/-- how ugly: squares and balance, then the first k rows and columns -/
def peN (ro : Nat → Nat) : Nat → Nat
  | 0 => 3 * pqL ro 20 + 10 * (adN (20 * pbL ro 21) / 441)
  | k + 1 => peN ro k + (((prL (ro k) 21).1 + peL (ro k) 11) + ((prL (clN ro k 21) 21).1 + peL (clN ro k 21) 11))
end SPEC_C4
