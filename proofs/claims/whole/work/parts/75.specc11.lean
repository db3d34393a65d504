section SPEC_C11
theorem db_in : ∀ v, v < 4 → 9 ≤ dbT v ∧ dbT v ≤ 19 := by decide
theorem bmC_lt (f : Nat → Nat) : (bmC f 8).1 < 8 := by rw [bmC_bs f 8 (by decide)]; exact bsN_lt f 7
theorem pcS_lt {kd n : Nat} {t y : Nat → Nat} {us : Nat} (hk : kd = 1 ∨ kd = 2 ∨ kd = 4) (hcv : ∀ j, j < n → cvN kd (t j) < gva kd) (hy : lt256 26 y) (hm : us + bfN kd n ≤ 208) : ∀ k, k ≤ n → lt256 26 (pcS kd t n us y k).2.2.2 := by
  intro k
  induction k with
  | zero => intro _; exact hy
  | succ k ih =>
    intro hkn
    have i := ih (by omega)
    by_cases e : (pcS kd t n us y k).2.1 + 1 = gmo kd ∨ k = n - 1
    · rw [pcS_t e]
      exact ptC_lt i _ (Nat.le_trans ((pc_step hk hcv (show k < n by omega)).2.2 e) hm)
    · rw [pcS_f (fun z => e (Or.inl z)) (fun z => e (Or.inr z))]
      exact i
theorem cx_lt {kd n : Nat} {t y : Nat → Nat} (hk : kd = 1 ∨ kd = 2 ∨ kd = 4) (hcv : ∀ j, j < n → cvN kd (t j) < gva kd) (hy : lt256 26 y) (hm : 4 + gwd kd + bfN kd n ≤ 208) : lt256 26 (cxR kd t n y).2 := by
  have hw : gwd kd ≤ 10 := by unfold gwd; (repeat' split) <;> omega
  exact pcS_lt hk hcv (ptC_lt (ptC_lt hy 4 (by decide)) (gwd kd) (by omega)) (by omega) n (Nat.le_refl _)
theorem frL_lt {y : Nat → Nat} {f : Nat} (h : lt256 26 y) : ∀ i, lt256 26 (frL y f i) := by
  intro i
  induction i with
  | zero => exact h
  | succ i ih => rw [frL]; exact lt_up ih (by split <;> decide)
theorem fl0_lt (b : Nat → Nat) : lt256 26 (flL b 0 26) := fun j hj => by rw [flL_at 26 j hj]; decide
theorem ap_lt {y re ge : Nat → Nat} {dt : Nat} (hy : lt256 26 y) (h1 : 9 ≤ dt) (h2 : dt ≤ 26) : lt256 26 (va_cpy (dvI (va_cpy y (flL re 0 26) 0 0 dt) (gnI (va_up (flL ge 0 18) 0 1) (26 - dt)) (26 - dt) dt) y dt dt (26 - dt)) := by
  have hd : lt256 26 (dvI (va_cpy y (flL re 0 26) 0 0 dt) (gnI (va_up (flL ge 0 18) 0 1) (26 - dt)) (26 - dt) dt) := dvI_lt (t1_lt re hy) (gnI_lt (gs0_lt ge) (26 - dt) (by omega)) dt (by omega)
  intro j hj
  unfold va_cpy
  split
  · exact hd _ (by omega)
  · exact hy j hj
theorem lc4 : ∀ v, v < 32 → lcT (v / 8) < 4 := by decide
theorem pkQ_lt {b dx dy ro : Nat → Nat} {mk : Nat} : ∀ k, k ≤ 208 → ∀ j, j < 26 → pkL (flL b 0 26) dx dy ro mk k j < 2 ^ min (k - 8 * j) 8 := by
  intro k
  induction k with
  | zero => intro _ j hj; show flL b 0 26 j < _; rw [flL_at 26 j hj]; exact Nat.two_pow_pos _
  | succ k ih =>
    intro hk j hj
    have i := ih (by omega) j hj
    rw [pkL]
    unfold va_up
    by_cases e : j = k / 2 ^ 3
    · rw [if_pos e]
      have h1 : min (k + 1 - 8 * j) 8 = min (k - 8 * j) 8 + 1 := by omega
      have hb : ro (dx k) / 2 ^ (20 - dy k) % 2 ^^^ tnN mk (dx k) (dy k) ≤ 1 := by
        have h5 : ro (dx k) / 2 ^ (20 - dy k) % 2 < 2 ^ 1 := by omega
        have h6 : tnN mk (dx k) (dy k) < 2 ^ 1 := by have := tnN_le mk (dx k) (dy k); omega
        have := Nat.xor_lt_two_pow h5 h6
        omega
      rw [or_bit hb, h1, Nat.pow_succ, ← e]
      omega
    · rw [if_neg e]
      exact Nat.lt_of_lt_of_le i (Nat.pow_le_pow_right (by decide) (by omega))
theorem pkB_lt {b dx dy ro : Nat → Nat} {mk : Nat} : lt256 26 (pkL (flL b 0 26) dx dy ro mk 208) := by
  intro j hj
  show _ < 2 ^ 8
  exact Nat.lt_of_lt_of_le (pkQ_lt 208 (Nat.le_refl _) j hj) (Nat.pow_le_pow_right (by decide) (by omega))
end SPEC_C11
