/-! Counting bits, as the JDK does it, counts bits -/
section POPC
/-- the bits of x among the first n -/
def pcn (x n : Nat) : Nat := sm (fun i => x / 2 ^ i % 2) n
theorem land_split {k a b m q : Nat} (ha : a < 2 ^ k) (hm : m < 2 ^ k) : (2 ^ k * b + a) &&& (2 ^ k * q + m) = 2 ^ k * (b &&& q) + (a &&& m) := by
  apply Nat.eq_of_testBit_eq
  intro i
  rw [Nat.testBit_and, Nat.testBit_two_pow_mul_add b ha i, Nat.testBit_two_pow_mul_add q hm i, Nat.testBit_two_pow_mul_add (b &&& q) (Nat.lt_of_le_of_lt Nat.and_le_left ha) i]
  split
  · rw [Nat.testBit_and]
  · rw [Nat.testBit_and]
theorem land_hi {k z : Nat} (m q : Nat) (hm : m < 2 ^ k) (hz : z < 2 ^ k) : z &&& (2 ^ k * q + m) = z &&& m := by
  have := land_split (k := k) (a := z) (b := 0) (m := m) (q := q) hz hm
  rw [Nat.zero_and, Nat.mul_zero, Nat.zero_add, Nat.zero_add] at this
  exact this
theorem bc1_split {a b : Nat} (ha : a < 256) (hb : b < 16777216) : bc1 (256 * b + a) = 256 * bc1 b + bc1 a := by
  unfold bc1
  have e1 : (256 * b + a) / 2 ^ 1 = 2 ^ 8 * (b / 2) + (2 ^ 7 * (b % 2) + a / 2) := by omega
  have e2 : (2 ^ 7 * (b % 2) + a / 2) &&& 85 = a / 2 &&& 85 := by
    rw [show (85 : Nat) = 2 ^ 7 * 0 + 85 from rfl, land_split (by omega) (by decide), Nat.and_zero]
    show _ + (a / 2 &&& 85) = a / 2 &&& 85
    omega
  have e3 := land_hi (k := 8) (z := a / 2 ^ 1) 85 5592405 (by decide) (by omega)
  have e4 := land_hi (k := 24) (z := b / 2 ^ 1) 5592405 85 (by decide) (by omega)
  rw [show 2 ^ 8 * 5592405 + 85 = (1431655765 : Nat) from rfl] at e3
  rw [show 2 ^ 24 * 85 + 5592405 = (1431655765 : Nat) from rfl] at e4
  rw [e1, e3, e4, show (1431655765 : Nat) = 2 ^ 8 * 5592405 + 85 from rfl, land_split (by omega) (by decide), e2, show a / 2 ^ 1 = a / 2 by omega, show b / 2 ^ 1 = b / 2 by omega]
  have h1 : a / 2 &&& 85 ≤ a / 2 := Nat.and_le_left
  have h2 : b / 2 &&& 5592405 ≤ b / 2 := Nat.and_le_left
  omega
theorem bc2_split {a b : Nat} (ha : a < 256) (hb : b < 16777216) : bc2 (256 * b + a) = 256 * bc2 b + bc2 a := by
  have ha1 := Nat.lt_of_le_of_lt (bc1_le a) ha
  have hb1 := Nat.lt_of_le_of_lt (bc1_le b) hb
  unfold bc2
  rw [bc1_split ha hb]
  generalize bc1 a = x at ha1 ⊢
  generalize bc1 b = y at hb1 ⊢
  have e1 : (256 * y + x) / 2 ^ 2 = 2 ^ 8 * (y / 4) + (2 ^ 6 * (y % 4) + x / 4) := by omega
  have e2 : (2 ^ 6 * (y % 4) + x / 4) &&& 51 = x / 4 &&& 51 := by
    rw [show (51 : Nat) = 2 ^ 6 * 0 + 51 from rfl, land_split (by omega) (by decide), Nat.and_zero]
    show _ + (x / 4 &&& 51) = x / 4 &&& 51
    omega
  have e3 := land_hi (k := 8) (z := x / 2 ^ 2) 51 3355443 (by decide) (by omega)
  have e4 := land_hi (k := 24) (z := y / 2 ^ 2) 3355443 51 (by decide) (by omega)
  have e5 := land_hi (k := 8) (z := x) 51 3355443 (by decide) (by omega)
  have e6 := land_hi (k := 24) (z := y) 3355443 51 (by decide) (by omega)
  rw [show 2 ^ 8 * 3355443 + 51 = (858993459 : Nat) from rfl] at e3 e5
  rw [show 2 ^ 24 * 51 + 3355443 = (858993459 : Nat) from rfl] at e4 e6
  rw [e1, e3, e4, e5, e6, show (858993459 : Nat) = 2 ^ 8 * 3355443 + 51 from rfl, land_split (by omega) (by decide), e2, show 256 * y + x = 2 ^ 8 * y + x from rfl, land_split (by omega) (by decide), show y / 2 ^ 2 = y / 4 by omega, show x / 2 ^ 2 = x / 4 by omega]
  omega
theorem bc_byte : ∀ x, x < 256 → bc2 x % 16 ≤ 4 ∧ bc2 x / 16 ≤ 4 ∧ bc3 x ≤ 8 ∧ bc3 x = pcn x 8 := by decide +kernel
theorem bc2_lo {b : Nat} (hb : b < 4294967296) : bc2 b % 16 ≤ 4 := by
  have h := bc2_split (a := b % 256) (b := b / 256) (by omega) (by omega)
  rw [show 256 * (b / 256) + b % 256 = b by omega] at h
  have := (bc_byte (b % 256) (by omega)).1
  omega
theorem bc3_split {a b : Nat} (ha : a < 256) (hb : b < 16777216) (hb2 : bc2 b < 5000000) : bc3 (256 * b + a) = 256 * bc3 b + bc3 a := by
  obtain ⟨h1, h2, -, -⟩ := bc_byte a ha
  have h3 := bc2_lo (b := b) (by omega)
  unfold bc3
  rw [bc2_split ha hb]
  generalize bc2 a = x at h1 h2 ⊢
  generalize bc2 b = y at h3 hb2 ⊢
  have e1 : 256 * y + x + (256 * y + x) / 2 ^ 4 = 2 ^ 8 * (y + y / 16) + (16 * (y % 16) + (x + x / 16)) := by omega
  have e5 := land_hi (k := 8) (z := x + x / 2 ^ 4) 15 986895 (by decide) (by omega)
  have e6 := land_hi (k := 24) (z := y + y / 2 ^ 4) 986895 15 (by decide) (by omega)
  rw [show 2 ^ 8 * 986895 + 15 = (252645135 : Nat) from rfl] at e5
  rw [show 2 ^ 24 * 15 + 986895 = (252645135 : Nat) from rfl] at e6
  have e7 : ∀ z, z &&& 15 = z % 16 := fun z => Nat.and_two_pow_sub_one_eq_mod z 4
  rw [e1, e5, e6, show (252645135 : Nat) = 2 ^ 8 * 986895 + 15 from rfl, land_split (by omega) (by decide), e7, e7, show y / 2 ^ 4 = y / 16 by omega, show x / 2 ^ 4 = x / 16 by omega]
  omega
theorem bit_lo {k a b i : Nat} (ha : a < 2 ^ k) (hi : i < k) : (2 ^ k * b + a) / 2 ^ i % 2 = a / 2 ^ i % 2 := by
  rw [← Nat.toNat_testBit, ← Nat.toNat_testBit, Nat.testBit_two_pow_mul_add b ha i, if_pos hi]
theorem bit_hi {k a b i : Nat} (ha : a < 2 ^ k) : (2 ^ k * b + a) / 2 ^ (k + i) % 2 = b / 2 ^ i % 2 := by
  rw [← Nat.toNat_testBit, ← Nat.toNat_testBit, Nat.testBit_two_pow_mul_add b ha (k + i), if_neg (by omega), show k + i - k = i by omega]
theorem pcn_split {a b : Nat} (ha : a < 256) (n : Nat) : pcn (256 * b + a) (8 + n) = pcn a 8 + pcn b n := by
  unfold pcn
  rw [sm_split]
  congr 1
  · exact sm_congr 8 (fun i hi => bit_lo (k := 8) ha hi)
  · exact sm_congr n (fun i _ => bit_hi (k := 8) ha)
theorem bc2_b3 {b : Nat} (hb : b < 16777216) : bc2 b < 5000000 := by
  have h1 := bc2_split (a := b % 256) (b := b / 256) (by omega) (by omega)
  have h2 := bc2_split (a := b / 256 % 256) (b := b / 256 / 256) (by omega) (by omega)
  rw [show 256 * (b / 256) + b % 256 = b by omega] at h1
  rw [show 256 * (b / 256 / 256) + b / 256 % 256 = b / 256 by omega] at h2
  obtain ⟨a1, a2, -, -⟩ := bc_byte (b % 256) (by omega)
  obtain ⟨b1, b2, -, -⟩ := bc_byte (b / 256 % 256) (by omega)
  obtain ⟨c1, c2, -, -⟩ := bc_byte (b / 256 / 256) (by omega)
  omega
/-- bitCount counts the bits -/
theorem bcN_pc {x : Nat} (hx : x < 4294967296) : bcN x = pcn x 32 := by
  have s1 := bc3_split (a := x % 256) (b := x / 256) (by omega) (by omega) (bc2_b3 (by omega))
  have s2 := bc3_split (a := x / 256 % 256) (b := x / 256 / 256) (by omega) (by omega) (bc2_b3 (by omega))
  have s3 := bc3_split (a := x / 256 / 256 % 256) (b := x / 256 / 256 / 256) (by omega) (by omega) (bc2_b3 (by omega))
  have p1 := pcn_split (a := x % 256) (b := x / 256) (by omega) 24
  have p2 := pcn_split (a := x / 256 % 256) (b := x / 256 / 256) (by omega) 16
  have p3 := pcn_split (a := x / 256 / 256 % 256) (b := x / 256 / 256 / 256) (by omega) 8
  rw [show 256 * (x / 256) + x % 256 = x by omega] at s1 p1
  rw [show 256 * (x / 256 / 256) + x / 256 % 256 = x / 256 by omega] at s2 p2
  rw [show 256 * (x / 256 / 256 / 256) + x / 256 / 256 % 256 = x / 256 / 256 by omega] at s3 p3
  obtain ⟨-, -, a1, a2⟩ := bc_byte (x % 256) (by omega)
  obtain ⟨-, -, b1, b2⟩ := bc_byte (x / 256 % 256) (by omega)
  obtain ⟨-, -, c1, c2⟩ := bc_byte (x / 256 / 256 % 256) (by omega)
  obtain ⟨-, -, d1, d2⟩ := bc_byte (x / 256 / 256 / 256) (by omega)
  unfold bcN bc5 bc4
  rw [show (63 : Nat) = 2 ^ 6 - 1 from rfl, Nat.and_two_pow_sub_one_eq_mod, p1, p2, p3, ← a2, ← b2, ← c2, ← d2, s1, s2, s3]
  generalize bc3 (x % 256) = t0 at a1 ⊢
  generalize bc3 (x / 256 % 256) = t1 at b1 ⊢
  generalize bc3 (x / 256 / 256 % 256) = t2 at c1 ⊢
  generalize bc3 (x / 256 / 256 / 256) = t3 at d1 ⊢
  have q1 : (256 * (256 * (256 * t3 + t2) + t1) + t0) / 2 ^ 8 = 65536 * t3 + 256 * t2 + t1 := by omega
  rw [q1]
  have q2 : (256 * (256 * (256 * t3 + t2) + t1) + t0 + (65536 * t3 + 256 * t2 + t1)) / 2 ^ 16 = 256 * t3 + (t3 + t2) := by omega
  rw [q2]
  have q3 : 256 * (256 * (256 * t3 + t2) + t1) + t0 + (65536 * t3 + 256 * t2 + t1) + (256 * t3 + (t3 + t2)) = 64 * (262144 * t3 + 1024 * t2 + 4 * t1 + 1024 * t3 + 4 * t2 + 4 * t3) + (t0 + t1 + t2 + t3) := by omega
  rw [q3, show (2 : Nat) ^ 6 = 64 from rfl, Nat.mul_add_mod]
  omega
theorem pcn_cut {x n : Nat} (hx : x < 2 ^ n) (m : Nat) : pcn x (n + m) = pcn x n := by
  unfold pcn
  rw [sm_split]
  have h : sm (fun k => x / 2 ^ (n + k) % 2) m = 0 := by
    have h1 : ∀ m, sm (fun k => x / 2 ^ (n + k) % 2) m = 0 := by
      intro m
      induction m with
      | zero => rfl
      | succ m ih =>
        rw [sm, ih, Nat.div_eq_of_lt (Nat.lt_of_lt_of_le hx (Nat.pow_le_pow_right (by decide) (by omega)))]
    exact h1 m
  omega
end POPC
