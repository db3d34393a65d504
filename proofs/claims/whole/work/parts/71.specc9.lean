section SPEC_C9
variable {kd n us : Nat} {t y : Nat → Nat}
theorem pcS_t {k : Nat} (h : (pcS kd t n us y k).2.1 + 1 = gmo kd ∨ k = n - 1) : pcS kd t n us y (k + 1) = (0, 0, (pcS kd t n us y k).2.2.1 + gsz kd ((pcS kd t n us y k).2.1 + 1), ptC (pcS kd t n us y k).2.2.2 (pcS kd t n us y k).2.2.1 ((pcS kd t n us y k).1 * gva kd + cvN kd (t k)) (gsz kd ((pcS kd t n us y k).2.1 + 1)) (gsz kd ((pcS kd t n us y k).2.1 + 1))) := if_pos h
theorem pcS_f {k : Nat} (h1 : (pcS kd t n us y k).2.1 + 1 ≠ gmo kd) (h2 : k ≠ n - 1) : pcS kd t n us y (k + 1) = ((pcS kd t n us y k).1 * gva kd + cvN kd (t k), (pcS kd t n us y k).2.1 + 1, (pcS kd t n us y k).2.2) := if_neg (fun z => z.elim h1 h2)
theorem pc_at (hk : kd = 1 ∨ kd = 2 ∨ kd = 4) (hcv : ∀ j, j < n → cvN kd (t j) < gva kd) : ∀ k, k < n → (pcS kd t n us y k).2.1 = k % gmo kd ∧ (pcS kd t n us y k).2.2.1 = us + k / gmo kd * gsz kd (gmo kd) ∧ (pcS kd t n us y k).1 < gva kd ^ (k % gmo kd) := by
  intro k
  induction k with
  | zero => intro _; rcases hk with e | e | e <;> subst e <;> exact ⟨rfl, rfl, Nat.one_pos⟩
  | succ k ih =>
    intro hk2
    obtain ⟨i1, i2, i3⟩ := ih (by omega)
    have hc := hcv k (by omega)
    by_cases e : (pcS kd t n us y k).2.1 + 1 = gmo kd
    · rw [pcS_t (Or.inl e)]
      rw [i1] at e
      show 0 = _ ∧ (pcS kd t n us y k).2.2.1 + gsz kd ((pcS kd t n us y k).2.1 + 1) = _ ∧ 0 < _
      rw [i2, i1, e]
      rcases hk with q | q | q <;> subst q
      · have e : k % 3 + 1 = 3 := e
        exact ⟨by show 0 = (k + 1) % 3; omega, by show us + k / 3 * 10 + 10 = us + (k + 1) / 3 * 10; omega, Nat.pow_pos (by decide)⟩
      · have e : k % 2 + 1 = 2 := e
        exact ⟨by show 0 = (k + 1) % 2; omega, by show us + k / 2 * 11 + 11 = us + (k + 1) / 2 * 11; omega, Nat.pow_pos (by decide)⟩
      · exact ⟨by show 0 = (k + 1) % 1; omega, by show us + k / 1 * 8 + 8 = us + (k + 1) / 1 * 8; omega, Nat.pow_pos (by decide)⟩
    · rw [pcS_f e (by omega)]
      rw [i1] at e
      show (pcS kd t n us y k).2.1 + 1 = _ ∧ (pcS kd t n us y k).2.2.1 = _ ∧ (pcS kd t n us y k).1 * gva kd + cvN kd (t k) < _
      rw [i2, i1]
      have hb : (pcS kd t n us y k).1 * gva kd + cvN kd (t k) < gva kd ^ (k % gmo kd + 1) := by
        rw [Nat.pow_succ]
        have h1 : ((pcS kd t n us y k).1 + 1) * gva kd ≤ gva kd ^ (k % gmo kd) * gva kd := Nat.mul_le_mul_right _ i3
        rw [Nat.add_mul] at h1
        omega
      rcases hk with q | q | q <;> subst q
      · have e : ¬ k % 3 + 1 = 3 := e
        have e2 : k % 3 + 1 = (k + 1) % 3 := by omega
        exact ⟨e2, by show us + k / 3 * 10 = us + (k + 1) / 3 * 10; omega, by have := hb; rw [show k % gmo 1 + 1 = (k + 1) % gmo 1 from e2] at this; exact this⟩
      · have e : ¬ k % 2 + 1 = 2 := e
        have e2 : k % 2 + 1 = (k + 1) % 2 := by omega
        exact ⟨e2, by show us + k / 2 * 11 = us + (k + 1) / 2 * 11; omega, by have := hb; rw [show k % gmo 2 + 1 = (k + 1) % gmo 2 from e2] at this; exact this⟩
      · have e : ¬ k % 1 + 1 = 1 := e
        omega
/-- what a step needs -/
theorem pc_step (hk : kd = 1 ∨ kd = 2 ∨ kd = 4) (hcv : ∀ j, j < n → cvN kd (t j) < gva kd) {k : Nat} (hkn : k < n) : (pcS kd t n us y k).2.1 + 1 ≤ gmo kd ∧ (pcS kd t n us y k).1 * gva kd + cvN kd (t k) < 65536 ∧ (((pcS kd t n us y k).2.1 + 1 = gmo kd ∨ k = n - 1) → (pcS kd t n us y k).2.2.1 + gsz kd ((pcS kd t n us y k).2.1 + 1) ≤ us + bfN kd n) := by
  obtain ⟨i1, i2, i3⟩ := pc_at (us := us) (y := y) hk hcv k hkn
  have hc := hcv k hkn
  rw [i1, i2]
  have hb : (pcS kd t n us y k).1 * gva kd + cvN kd (t k) < gva kd ^ (k % gmo kd + 1) := by
    rw [Nat.pow_succ]
    have h1 : ((pcS kd t n us y k).1 + 1) * gva kd ≤ gva kd ^ (k % gmo kd) * gva kd := Nat.mul_le_mul_right _ i3
    rw [Nat.add_mul] at h1
    omega
  rcases hk with q | q | q <;> subst q
  · have h9 : gva 1 ^ (k % gmo 1 + 1) ≤ 10 ^ 3 := Nat.pow_le_pow_right (by decide) (by show k % 3 + 1 ≤ 3; omega)
    refine ⟨by show k % 3 + 1 ≤ 3; omega, by omega, fun h => ?_⟩
    show us + k / 3 * 10 + gsz 1 (k % 3 + 1) ≤ us + (n / 3 * 10 + (if n % 3 = 0 then 0 else gsz 1 (n % 3)))
    have h : k % 3 + 1 = 3 ∨ k = n - 1 := h
    by_cases e : k % 3 + 1 = 3
    · rw [e]; show us + k / 3 * 10 + 10 ≤ _; split <;> omega
    · have e2 : k % 3 + 1 = n % 3 := by omega
      rw [e2, if_neg (by omega), show n / 3 = k / 3 by omega]; omega
  · have h9 : gva 2 ^ (k % gmo 2 + 1) ≤ 45 ^ 2 := Nat.pow_le_pow_right (by decide) (by show k % 2 + 1 ≤ 2; omega)
    refine ⟨by show k % 2 + 1 ≤ 2; omega, by omega, fun h => ?_⟩
    show us + k / 2 * 11 + gsz 2 (k % 2 + 1) ≤ us + (n / 2 * 11 + (if n % 2 = 0 then 0 else gsz 2 (n % 2)))
    have h : k % 2 + 1 = 2 ∨ k = n - 1 := h
    by_cases e : k % 2 + 1 = 2
    · rw [e]; show us + k / 2 * 11 + 11 ≤ _; split <;> omega
    · have e2 : k % 2 + 1 = n % 2 := by omega
      rw [e2, if_neg (by omega), show n / 2 = k / 2 by omega]; omega
  · have h9 : gva 4 ^ (k % gmo 4 + 1) ≤ 256 ^ 1 := Nat.pow_le_pow_right (by decide) (by show k % 1 + 1 ≤ 1; omega)
    refine ⟨by show k % 1 + 1 ≤ 1; omega, by omega, fun h => ?_⟩
    show us + k / 1 * 8 + 8 ≤ us + (n / 1 * 8 + (if n % 1 = 0 then 0 else gsz 4 (n % 1)))
    split <;> omega
theorem pc_end (hk : kd = 1 ∨ kd = 2 ∨ kd = 4) (hcv : ∀ j, j < n → cvN kd (t j) < gva kd) : (pcS kd t n us y n).2.2.1 = us + bfN kd n := by
  rcases Nat.eq_zero_or_pos n with e | e
  · subst e
    show us = us + bfN kd 0
    unfold bfN
    rw [Nat.zero_div, Nat.zero_mod, if_pos rfl]; omega
  · obtain ⟨k, rfl⟩ : ∃ k, n = k + 1 := ⟨n - 1, by omega⟩
    obtain ⟨i1, i2, i3⟩ := pc_at (us := us) (y := y) hk hcv k (by omega)
    rw [pcS_t (Or.inr (by omega))]
    show (pcS kd t (k + 1) us y k).2.2.1 + gsz kd ((pcS kd t (k + 1) us y k).2.1 + 1) = _
    rw [i1, i2]
    rcases hk with q | q | q <;> subst q
    · show us + k / 3 * 10 + gsz 1 (k % 3 + 1) = us + ((k + 1) / 3 * 10 + (if (k + 1) % 3 = 0 then 0 else gsz 1 ((k + 1) % 3)))
      by_cases e : k % 3 + 1 = 3
      · rw [e, if_pos (by omega)]; show us + k / 3 * 10 + 10 = _; omega
      · rw [if_neg (by omega), show (k + 1) % 3 = k % 3 + 1 by omega, show (k + 1) / 3 = k / 3 by omega]; omega
    · show us + k / 2 * 11 + gsz 2 (k % 2 + 1) = us + ((k + 1) / 2 * 11 + (if (k + 1) % 2 = 0 then 0 else gsz 2 ((k + 1) % 2)))
      by_cases e : k % 2 + 1 = 2
      · rw [e, if_pos (by omega)]; show us + k / 2 * 11 + 11 = _; omega
      · rw [if_neg (by omega), show (k + 1) % 2 = k % 2 + 1 by omega, show (k + 1) / 2 = k / 2 by omega]; omega
    · show us + k / 1 * 8 + 8 = us + ((k + 1) / 1 * 8 + (if (k + 1) % 1 = 0 then 0 else gsz 4 ((k + 1) % 1)))
      rw [if_pos (by omega)]; omega
end SPEC_C9
section SPEC_C9B
theorem bf_max {kd n : Nat} (hk : kd = 1 ∨ kd = 2 ∨ kd = 4) (hn : n ≤ 45) : 4 + gwd kd + bfN kd n ≤ 600 := by
  rcases hk with q | q | q <;> subst q
  · have h := gsz_le 1 (n % 3)
    show 4 + 10 + (n / 3 * 10 + (if n % 3 = 0 then 0 else gsz 1 (n % 3))) ≤ 600
    split <;> omega
  · have h := gsz_le 2 (n % 2)
    show 4 + 9 + (n / 2 * 11 + (if n % 2 = 0 then 0 else gsz 2 (n % 2))) ≤ 600
    split <;> omega
  · have h := gsz_le 4 (n % 1)
    show 4 + 8 + (n / 1 * 8 + (if n % 1 = 0 then 0 else gsz 4 (n % 1))) ≤ 600
    split <;> omega
theorem cx_len {kd n : Nat} {t y : Nat → Nat} (hk : kd = 1 ∨ kd = 2 ∨ kd = 4) (hcv : ∀ j, j < n → cvN kd (t j) < gva kd) : (cxR kd t n y).1 = 4 + gwd kd + bfN kd n := by
  have h := pc_end (us := 0 + 4 + gwd kd) (y := ptC (ptC y 0 kd 4 4) (0 + 4) n (gwd kd) (gwd kd)) hk hcv
  show (pcS kd t n (0 + 4 + gwd kd) (ptC (ptC y 0 kd 4 4) (0 + 4) n (gwd kd) (gwd kd)) n).2.2.1 = _
  exact h.trans (by omega)
theorem gs_in1 {x : Nat} (h1 : 1 ≤ x) (h2 : x ≤ 3) : 10 * x ≤ 3 * gsz 1 x := by
  rcases (show x = 1 ∨ x = 2 ∨ x = 3 by omega) with q | q | q <;> subst q <;> decide
theorem gs_in2 {x : Nat} (h1 : 1 ≤ x) (h2 : x ≤ 2) : 10 * x ≤ 3 * gsz 2 x := by
  rcases (show x = 1 ∨ x = 2 by omega) with q | q <;> subst q <;> decide
theorem gs_in4 {x : Nat} (h1 : 1 ≤ x) (h2 : x ≤ 1) : 10 * x ≤ 3 * gsz 4 x := by
  have q : x = 1 := by omega
  subst q; decide
end SPEC_C9B
