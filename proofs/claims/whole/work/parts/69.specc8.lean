section SPEC_C8
theorem nx_ltp : ∀ n, n < 65 → nI n - 1 < nI n := by decide +kernel
theorem ptC_lt {y : Nat → Nat} {m v n : Nat} (h : lt256 26 y) : ∀ i, m + i ≤ 208 → lt256 26 (ptC y m v n i) := by
  intro i
  induction i with
  | zero => intro _; exact h
  | succ i ih =>
    intro hi
    rw [ptC]
    refine lt_up (ih (by omega)) (Nat.or_lt_two_pow (n := 8) (ih (by omega) _ (by omega)) ?_)
    have h1 : 2 ^ (7 - (m + i) % 8) ≤ 2 ^ 7 := Nat.pow_le_pow_right (by decide) (by omega)
    have h2 : v / 2 ^ (n - (i + 1)) % 2 * 2 ^ (7 - (m + i) % 8) ≤ 1 * 2 ^ (7 - (m + i) % 8) := Nat.mul_le_mul_right _ (by omega)
    omega
variable {tr : Nat → Nat} {dt n p f k wd : Nat} {r : Nat → Nat}
theorem dcW_e (h : 8 * dt - p < 4) : dcW tr dt n p f r = (1, p, f, r) := by
  cases n with
  | zero => rfl
  | succ n => rw [dcW, if_pos h]
theorem dcW_z (h : ¬ 8 * dt - p < 4) (hk : nxL tr p 4 = 0) : dcW tr dt (n + 1) p f r = (1, p + 4, f, r) := by rw [dcW, if_neg h, if_pos hk]
theorem dcW_k (h : ¬ 8 * dt - p < 4) (hk : nxL tr p 4 ≠ 0 ∧ nxL tr p 4 ≠ 1 ∧ nxL tr p 4 ≠ 2 ∧ nxL tr p 4 ≠ 4) : dcW tr dt (n + 1) p f r = (0, p + 4, f, r) := by
  rw [dcW, if_neg h, if_neg hk.1, if_pos (by omega)]
theorem dcW_n (h : ¬ 8 * dt - p < 4) (hk : nxL tr p 4 = k) (hk2 : k = 1 ∨ k = 2 ∨ k = 4) (hw : wdN k = wd) (hr : 8 * dt < p + 4 + wd) : dcW tr dt (n + 1) p f r = (0, p + 4, f, r) := by
  subst hw
  rw [dcW, if_neg h, if_neg (by omega), if_neg (fun q => q (by omega)), hk, if_pos hr]
theorem dcW_b (h : ¬ 8 * dt - p < 4) (hk : nxL tr p 4 = k) (hk2 : k = 1 ∨ k = 2 ∨ k = 4) (hw : wdN k = wd) (hr : p + 4 + wd ≤ 8 * dt) (hb : (tpW tr k dt (nxL tr (p + 4) wd) (nxL tr (p + 4) wd) (p + 4 + wd) f r).1 = 0) :
    dcW tr dt (n + 1) p f r = (0, (tpW tr k dt (nxL tr (p + 4) wd) (nxL tr (p + 4) wd) (p + 4 + wd) f r).2) := by
  subst hw
  rw [dcW, if_neg h, if_neg (by omega), if_neg (fun q => q (by omega)), hk, if_neg (by omega), if_pos hb]
  generalize hq : tpW tr k dt (nxL tr (p + 4) (wdN k)) (nxL tr (p + 4) (wdN k)) (p + 4 + wdN k) f r = q at hb ⊢
  obtain ⟨q1, q2⟩ := q
  simp only at hb
  rw [hb]
theorem dcW_s (h : ¬ 8 * dt - p < 4) (hk : nxL tr p 4 = k) (hk2 : k = 1 ∨ k = 2 ∨ k = 4) (hw : wdN k = wd) (hr : p + 4 + wd ≤ 8 * dt) (hb : (tpW tr k dt (nxL tr (p + 4) wd) (nxL tr (p + 4) wd) (p + 4 + wd) f r).1 ≠ 0) :
    dcW tr dt (n + 1) p f r = dcW tr dt n (tpW tr k dt (nxL tr (p + 4) wd) (nxL tr (p + 4) wd) (p + 4 + wd) f r).2.1 (tpW tr k dt (nxL tr (p + 4) wd) (nxL tr (p + 4) wd) (p + 4 + wd) f r).2.2.1 (tpW tr k dt (nxL tr (p + 4) wd) (nxL tr (p + 4) wd) (p + 4 + wd) f r).2.2.2 := by
  subst hw
  rw [dcW, if_neg h, if_neg (by omega), if_neg (fun q => q (by omega)), hk, if_neg (by omega), if_neg hb]
theorem tpW_le (tr : Nat → Nat) (kd dt : Nat) : ∀ n l p f r, (tpW tr kd dt n l p f r).1 ≤ 1 := fun n l p f r => by rw [(tp_ch tr kd dt n l p f r).1]; exact chW_le _ _ _ _ _ _ _ _
theorem le1_fit {a : Nat} (h : a ≤ 1) : narrow .boolean (.int (nI a)) = .int (nI a) := by
  rcases (show a = 0 ∨ a = 1 by omega) with q | q <;> subst q <;> decide
end SPEC_C8
