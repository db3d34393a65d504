/-! The field of 256 elements, as the reference multiplies -/
section GF_NAT
/-- times 2 -/
def xt (x : Nat) : Nat := if 255 < x * 2 then (x * 2) ^^^ 285 else x * 2
/-- the reference's loop: what is summed, and a times 2 to the k -/
def gmL (a b : Nat) : Nat → Nat × Nat
  | 0 => (0, a)
  | k + 1 => (if b / 2 ^ k % 2 = 1 then (gmL a b k).1 ^^^ (gmL a b k).2 else (gmL a b k).1, xt (gmL a b k).2)
/-- the product -/
def gm (a b : Nat) : Nat := (gmL a b 8).1
/-- 2 to the k -/
def pw : Nat → Nat
  | 0 => 1
  | k + 1 => xt (pw k)
/-- x times 2 to the k -/
def xti : Nat → Nat → Nat
  | 0, x => x
  | k + 1, x => xt (xti k x)
theorem xor_lt {a b : Nat} (ha : a < 256) (hb : b < 256) : a ^^^ b < 256 := Nat.xor_lt_two_pow (n := 8) ha hb
theorem xt_lt : ∀ a, a < 256 → xt a < 256 := by decide +kernel
theorem xt_ne : ∀ a, a < 256 → a ≠ 0 → xt a ≠ 0 := by decide +kernel
theorem xt_lin : ∀ a, a < 256 → ∀ b, b < 256 → xt (a ^^^ b) = xt a ^^^ xt b := by decide +kernel
theorem gmL_lt {a : Nat} (b : Nat) (ha : a < 256) : ∀ k, (gmL a b k).1 < 256 ∧ (gmL a b k).2 < 256 := by
  intro k
  induction k with
  | zero => exact ⟨by show 0 < 256; omega, ha⟩
  | succ k ih =>
    refine ⟨?_, xt_lt _ ih.2⟩
    show (if b / 2 ^ k % 2 = 1 then (gmL a b k).1 ^^^ (gmL a b k).2 else (gmL a b k).1) < 256
    by_cases h : b / 2 ^ k % 2 = 1
    · rw [if_pos h]; exact xor_lt ih.1 ih.2
    · rw [if_neg h]; exact ih.1
theorem gm_lt {a : Nat} (b : Nat) (ha : a < 256) : gm a b < 256 := (gmL_lt b ha 8).1
theorem gmL_lin {a a' : Nat} (b : Nat) (ha : a < 256) (ha' : a' < 256) : ∀ k, gmL (a ^^^ a') b k = ((gmL a b k).1 ^^^ (gmL a' b k).1, (gmL a b k).2 ^^^ (gmL a' b k).2) := by
  intro k
  induction k with
  | zero => simp only [gmL, Nat.xor_self]
  | succ k ih =>
    have h1 := gmL_lt b ha k
    have h2 := gmL_lt b ha' k
    show ((if b / 2 ^ k % 2 = 1 then (gmL (a ^^^ a') b k).1 ^^^ (gmL (a ^^^ a') b k).2 else (gmL (a ^^^ a') b k).1), xt (gmL (a ^^^ a') b k).2) = ((if b / 2 ^ k % 2 = 1 then (gmL a b k).1 ^^^ (gmL a b k).2 else (gmL a b k).1) ^^^ (if b / 2 ^ k % 2 = 1 then (gmL a' b k).1 ^^^ (gmL a' b k).2 else (gmL a' b k).1), xt (gmL a b k).2 ^^^ xt (gmL a' b k).2)
    rw [ih, ← xt_lin _ h1.2 _ h2.2]
    by_cases h : b / 2 ^ k % 2 = 1
    · simp only [if_pos h]
      congr 1
      ac_rfl
    · simp only [if_neg h]
theorem gm_addL {a a' : Nat} (b : Nat) (ha : a < 256) (ha' : a' < 256) : gm (a ^^^ a') b = gm a b ^^^ gm a' b := by
  unfold gm
  rw [gmL_lin b ha ha' 8]
theorem gmL_xt {a : Nat} (b : Nat) (ha : a < 256) : ∀ k, gmL (xt a) b k = (xt (gmL a b k).1, xt (gmL a b k).2) := by
  intro k
  induction k with
  | zero => rfl
  | succ k ih =>
    have h1 := gmL_lt b ha k
    show ((if b / 2 ^ k % 2 = 1 then (gmL (xt a) b k).1 ^^^ (gmL (xt a) b k).2 else (gmL (xt a) b k).1), xt (gmL (xt a) b k).2) = (xt (if b / 2 ^ k % 2 = 1 then (gmL a b k).1 ^^^ (gmL a b k).2 else (gmL a b k).1), xt (xt (gmL a b k).2))
    rw [ih]
    by_cases h : b / 2 ^ k % 2 = 1
    · simp only [if_pos h]
      rw [xt_lin _ h1.1 _ h1.2]
    · simp only [if_neg h]
theorem gm_xt {a : Nat} (b : Nat) (ha : a < 256) : gm (xt a) b = xt (gm a b) := by
  unfold gm
  rw [gmL_xt b ha 8]
theorem gm_one : ∀ b, b < 256 → gm 1 b = b := by decide +kernel
theorem gm_two : ∀ a, a < 256 → gm a 2 = xt a := by decide +kernel
theorem pw_lt (k : Nat) : pw k < 256 := by
  induction k with
  | zero => decide
  | succ k ih => exact xt_lt _ ih
theorem pw_ne (k : Nat) : pw k ≠ 0 := by
  induction k with
  | zero => decide
  | succ k ih => exact xt_ne _ (pw_lt k) ih
theorem gm_pw (i : Nat) {b : Nat} (hb : b < 256) : gm (pw i) b = xti i b := by
  induction i with
  | zero => exact gm_one b hb
  | succ i ih =>
    show gm (xt (pw i)) b = xt (xti i b)
    rw [gm_xt b (pw_lt i), ih]
theorem xti_pw (i j : Nat) : xti i (pw j) = pw (i + j) := by
  induction i with
  | zero => rw [Nat.zero_add]; rfl
  | succ i ih =>
    rw [show i + 1 + j = (i + j) + 1 by omega]
    show xt (xti i (pw j)) = xt (pw (i + j))
    rw [ih]
theorem xti_zero (i : Nat) : xti i 0 = 0 := by
  induction i with
  | zero => rfl
  | succ i ih => show xt (xti i 0) = 0; rw [ih]; rfl
theorem gm_pp (i j : Nat) : gm (pw i) (pw j) = pw (i + j) := by rw [gm_pw i (pw_lt j), xti_pw]
/-- the powers of 2, and the logarithms, as tables -/
def pwT : List Nat := [1, 2, 4, 8, 16, 32, 64, 128, 29, 58, 116, 232, 205, 135, 19, 38, 76, 152, 45, 90, 180, 117, 234, 201, 143, 3, 6, 12, 24, 48, 96, 192, 157, 39, 78, 156, 37, 74, 148, 53, 106, 212, 181, 119, 238, 193, 159, 35, 70, 140, 5, 10, 20, 40, 80, 160, 93, 186, 105, 210, 185, 111, 222, 161, 95, 190, 97, 194, 153, 47, 94, 188, 101, 202, 137, 15, 30, 60, 120, 240, 253, 231, 211, 187, 107, 214, 177, 127, 254, 225, 223, 163, 91, 182, 113, 226, 217, 175, 67, 134, 17, 34, 68, 136, 13, 26, 52, 104, 208, 189, 103, 206, 129, 31, 62, 124, 248, 237, 199, 147, 59, 118, 236, 197, 151, 51, 102, 204, 133, 23, 46, 92, 184, 109, 218, 169, 79, 158, 33, 66, 132, 21, 42, 84, 168, 77, 154, 41, 82, 164, 85, 170, 73, 146, 57, 114, 228, 213, 183, 115, 230, 209, 191, 99, 198, 145, 63, 126, 252, 229, 215, 179, 123, 246, 241, 255, 227, 219, 171, 75, 150, 49, 98, 196, 149, 55, 110, 220, 165, 87, 174, 65, 130, 25, 50, 100, 200, 141, 7, 14, 28, 56, 112, 224, 221, 167, 83, 166, 81, 162, 89, 178, 121, 242, 249, 239, 195, 155, 43, 86, 172, 69, 138, 9, 18, 36, 72, 144, 61, 122, 244, 245, 247, 243, 251, 235, 203, 139, 11, 22, 44, 88, 176, 125, 250, 233, 207, 131, 27, 54, 108, 216, 173, 71, 142, 1]
def lgT : List Nat := [0, 0, 1, 25, 2, 50, 26, 198, 3, 223, 51, 238, 27, 104, 199, 75, 4, 100, 224, 14, 52, 141, 239, 129, 28, 193, 105, 248, 200, 8, 76, 113, 5, 138, 101, 47, 225, 36, 15, 33, 53, 147, 142, 218, 240, 18, 130, 69, 29, 181, 194, 125, 106, 39, 249, 185, 201, 154, 9, 120, 77, 228, 114, 166, 6, 191, 139, 98, 102, 221, 48, 253, 226, 152, 37, 179, 16, 145, 34, 136, 54, 208, 148, 206, 143, 150, 219, 189, 241, 210, 19, 92, 131, 56, 70, 64, 30, 66, 182, 163, 195, 72, 126, 110, 107, 58, 40, 84, 250, 133, 186, 61, 202, 94, 155, 159, 10, 21, 121, 43, 78, 212, 229, 172, 115, 243, 167, 87, 7, 112, 192, 247, 140, 128, 99, 13, 103, 74, 222, 237, 49, 197, 254, 24, 227, 165, 153, 119, 38, 184, 180, 124, 17, 68, 146, 217, 35, 32, 137, 46, 55, 63, 209, 91, 149, 188, 207, 205, 144, 135, 151, 178, 220, 252, 190, 97, 242, 86, 211, 171, 20, 42, 93, 158, 132, 60, 57, 83, 71, 109, 65, 162, 31, 45, 67, 216, 183, 123, 164, 118, 196, 23, 73, 236, 127, 12, 111, 246, 108, 161, 59, 82, 41, 157, 85, 170, 251, 96, 134, 177, 187, 204, 62, 90, 203, 89, 95, 176, 156, 169, 160, 81, 11, 245, 22, 235, 122, 117, 44, 215, 79, 174, 213, 233, 230, 231, 173, 232, 116, 214, 244, 234, 168, 80, 88, 175]
def lg (a : Nat) : Nat := lgT.getD a 0
theorem pwT_step : ∀ k, k < 255 → pwT.getD (k + 1) 0 = xt (pwT.getD k 0) := by decide +kernel
theorem pwT_pw : ∀ k, k < 256 → pw k = pwT.getD k 0 := by
  intro k
  induction k with
  | zero => intro _; rfl
  | succ k ih =>
    intro h
    show xt (pw k) = _
    rw [ih (by omega), ← pwT_step k (by omega)]
theorem lgT_ok : ∀ a, a < 256 → a ≠ 0 → pwT.getD (lgT.getD a 0) 0 = a ∧ lgT.getD a 0 < 255 := by decide +kernel
theorem lg_pw (a : Nat) (ha : a < 256) (h : a ≠ 0) : pw (lg a) = a ∧ lg a < 255 := by
  obtain ⟨h1, h2⟩ := lgT_ok a ha h
  refine ⟨?_, h2⟩
  unfold lg
  rw [pwT_pw _ (by omega), h1]
theorem pw_255 : pw 255 = 1 := by rw [pwT_pw 255 (by omega)]; rfl
theorem pw_add255 (k : Nat) : pw (k + 255) = pw k := by
  rw [← gm_pp, pw_255]
  induction k with
  | zero => decide
  | succ k ih => show gm (xt (pw k)) 1 = xt (pw k); rw [gm_xt _ (pw_lt k), ih]
theorem pw_mod (k : Nat) : pw (k % 255) = pw k := by
  have h : ∀ n k, pw (k + 255 * n) = pw k := by
    intro n
    induction n with
    | zero => intro k; rfl
    | succ n ih => intro k; rw [show k + 255 * (n + 1) = (k + 255 * n) + 255 by omega, pw_add255, ih]
  conv => rhs; rw [← Nat.mod_add_div k 255]
  rw [h]
theorem gm_zeroL {b : Nat} : gm 0 b = 0 := by
  have h : ∀ k, gmL 0 b k = (0, 0) := by
    intro k
    induction k with
    | zero => rfl
    | succ k ih =>
      show ((if b / 2 ^ k % 2 = 1 then (gmL 0 b k).1 ^^^ (gmL 0 b k).2 else (gmL 0 b k).1), xt (gmL 0 b k).2) = (0, 0)
      rw [ih]
      by_cases h : b / 2 ^ k % 2 = 1
      · simp only [if_pos h]; rfl
      · simp only [if_neg h]; rfl
  unfold gm
  rw [h]
theorem gm_zeroR {a : Nat} (ha : a < 256) : gm a 0 = 0 := by
  by_cases h : a = 0
  · rw [h]; exact gm_zeroL
  · rw [← (lg_pw a ha h).1, gm_pw _ (by omega), xti_zero]
theorem gm_comm {a b : Nat} (ha : a < 256) (hb : b < 256) : gm a b = gm b a := by
  by_cases h : a = 0
  · rw [h, gm_zeroL, gm_zeroR hb]
  · by_cases h2 : b = 0
    · rw [h2, gm_zeroL, gm_zeroR ha]
    · rw [← (lg_pw a ha h).1, ← (lg_pw b hb h2).1, gm_pp, gm_pp, Nat.add_comm]
theorem xti_add (i j x : Nat) : xti (i + j) x = xti i (xti j x) := by
  induction i with
  | zero => rw [Nat.zero_add]; rfl
  | succ i ih => rw [show i + 1 + j = (i + j) + 1 by omega]; show xt (xti (i + j) x) = xt (xti i (xti j x)); rw [ih]
theorem gm_assoc {a b d : Nat} (ha : a < 256) (hb : b < 256) (hd : d < 256) : gm (gm a b) d = gm a (gm b d) := by
  by_cases h : a = 0
  · rw [h, gm_zeroL, gm_zeroL, gm_zeroL]
  · by_cases h2 : b = 0
    · rw [h2, gm_zeroR ha, gm_zeroL, gm_zeroR ha]
    · rw [← (lg_pw a ha h).1, ← (lg_pw b hb h2).1, gm_pp, gm_pw _ hd, gm_pw (lg b) hd, gm_pw, xti_add]
      rw [← gm_pw (lg b) hd]
      exact gm_lt d (pw_lt _)
theorem gm_ne {a b : Nat} (ha : a < 256) (hb : b < 256) (h : gm a b = 0) : a = 0 ∨ b = 0 := by
  by_cases h1 : a = 0
  · exact Or.inl h1
  · by_cases h2 : b = 0
    · exact Or.inr h2
    · rw [← (lg_pw a ha h1).1, ← (lg_pw b hb h2).1, gm_pp] at h
      exact absurd h (pw_ne _)
theorem gm_inv {a : Nat} (ha : a < 256) (h : a ≠ 0) : gm a (pw (255 - lg a)) = 1 := by
  obtain ⟨h1, h2⟩ := lg_pw a ha h
  have h3 : gm (pw (lg a)) (pw (255 - lg a)) = 1 := by rw [gm_pp, show lg a + (255 - lg a) = 255 by omega, pw_255]
  rwa [h1] at h3
end GF_NAT
section GF_RING
/-- the same, as a ring -/
def GF : Type := Fin 256
def gf (a : Nat) : GF := (⟨a % 256, Nat.mod_lt _ (by omega)⟩ : Fin 256)
def gv (a : GF) : Nat := (show Fin 256 from a).val
theorem gv_lt (a : GF) : gv a < 256 := (show Fin 256 from a).isLt
theorem gv_inj {a b : GF} (h : gv a = gv b) : a = b := Fin.eq_of_val_eq h
theorem gv_gf {a : Nat} (h : a < 256) : gv (gf a) = a := Nat.mod_eq_of_lt h
theorem gf_gv (a : GF) : gf (gv a) = a := gv_inj (gv_gf (gv_lt a))
def gfAdd (a b : GF) : GF := gf (gv a ^^^ gv b)
def gfMul (a b : GF) : GF := gf (gm (gv a) (gv b))
def gfNat (n : Nat) : GF := gf (n % 2)
def gfPow (a : GF) : Nat → GF
  | 0 => gf 1
  | n + 1 => gfMul (gfPow a n) a
theorem gv_add (a b : GF) : gv (gfAdd a b) = gv a ^^^ gv b := gv_gf (xor_lt (gv_lt a) (gv_lt b))
theorem gv_mul (a b : GF) : gv (gfMul a b) = gm (gv a) (gv b) := gv_gf (gm_lt _ (gv_lt a))
theorem gfMul_comm (a b : GF) : gfMul a b = gfMul b a := gv_inj (by rw [gv_mul, gv_mul, gm_comm (gv_lt a) (gv_lt b)])
theorem gfAdd_self (a : GF) : gfAdd a a = gf 0 := gv_inj (by rw [gv_add, Nat.xor_self]; rfl)
theorem gfMul_addL (a b d : GF) : gfMul (gfAdd a b) d = gfAdd (gfMul a d) (gfMul b d) := gv_inj (by rw [gv_mul, gv_add, gv_add, gv_mul, gv_mul, gm_addL _ (gv_lt a) (gv_lt b)])
theorem gfMul_one (a : GF) : gfMul a (gf 1) = a := by
  rw [gfMul_comm]
  exact gv_inj (by rw [gv_mul, gv_gf (by omega), gm_one _ (gv_lt a)])
theorem gfMul_zero (a : GF) : gfMul a (gf 0) = gf 0 := gv_inj (by rw [gv_mul, gv_gf (by omega), gm_zeroR (gv_lt a)])
theorem gfAdd_zero (a : GF) : gfAdd a (gf 0) = a := gv_inj (by rw [gv_add, gv_gf (by omega), Nat.xor_zero])
theorem gfNat_succ (n : Nat) : gfNat (n + 1) = gfAdd (gfNat n) (gf 1) := by
  unfold gfNat
  rcases Nat.mod_two_eq_zero_or_one n with h | h
  · rw [h, show (n + 1) % 2 = 1 by omega]; rfl
  · rw [h, show (n + 1) % 2 = 0 by omega]; rfl
def gfSemi : Lean.Grind.Semiring GF where
  add := gfAdd
  mul := gfMul
  natCast := ⟨gfNat⟩
  ofNat := fun n => ⟨gfNat n⟩
  nsmul := ⟨fun n a => gfMul (gfNat n) a⟩
  npow := ⟨gfPow⟩
  add_zero := gfAdd_zero
  add_comm := fun a b => gv_inj (by show gv (gfAdd a b) = gv (gfAdd b a); rw [gv_add, gv_add, Nat.xor_comm])
  add_assoc := fun a b d => gv_inj (by show gv (gfAdd (gfAdd a b) d) = gv (gfAdd a (gfAdd b d)); rw [gv_add, gv_add, gv_add, gv_add, Nat.xor_assoc])
  mul_assoc := fun a b d => gv_inj (by show gv (gfMul (gfMul a b) d) = gv (gfMul a (gfMul b d)); rw [gv_mul, gv_mul, gv_mul, gv_mul, gm_assoc (gv_lt a) (gv_lt b) (gv_lt d)])
  mul_one := gfMul_one
  one_mul := fun a => (gfMul_comm _ _).trans (gfMul_one a)
  left_distrib := fun a b d => by
    show gfMul a (gfAdd b d) = gfAdd (gfMul a b) (gfMul a d)
    rw [gfMul_comm a, gfMul_addL, gfMul_comm b, gfMul_comm d]
  right_distrib := gfMul_addL
  zero_mul := fun a => (gfMul_comm _ _).trans (gfMul_zero a)
  mul_zero := gfMul_zero
  pow_zero := fun _ => rfl
  pow_succ := fun _ _ => rfl
  ofNat_succ := gfNat_succ
  ofNat_eq_natCast := fun _ => rfl
  nsmul_eq_natCast_mul := fun _ _ => rfl
end GF_RING
