section SPEC_C3
theorem lt_cpy {n : Nat} {f g : Nat → Nat} (hf : lt256 n f) : lt256 n (va_cpy f g 0 0 n) := by
  intro j hj
  unfold va_cpy
  rw [if_pos ⟨Nat.zero_le _, by omega⟩]
  exact hf _ (by omega)
theorem smL_lt {su bt : Nat → Nat} (hs : lt256 17 su) (hb : lt256 26 bt) : ∀ x, lt256 17 (smL su bt x) := by
  intro x
  induction x with
  | zero => exact hs
  | succ x ih => exact lt_up ih (hrn_lt hb (pw_lt x) 26 (by omega))
theorem msL_lt {lc su : Nat → Nat} {n : Nat} (hl : lt256 18 lc) : ∀ k, k ≤ 18 → msL lc su n k < 256 := by
  intro k
  induction k with
  | zero => intro _; show 0 < 256; omega
  | succ k ih => intro hk; exact xor_lt (ih (by omega)) (gm_lt _ (hl k (by omega)))
theorem asL_lt {lc fm : Nat → Nat} {f y : Nat} (hl : lt256 18 lc) (hf : f < 256) : ∀ k, k + y ≤ 18 → lt256 18 (asL lc fm f y k) := by
  intro k
  induction k with
  | zero => intro _; exact hl
  | succ k ih => intro hk; exact lt_up (ih (by omega)) (xor_lt (ih (by omega) _ (by omega)) (gm_lt _ hf))
/-- Berlekamp's and Massey's way, k steps: locator, former, spare, former miss, length, shift -/
def bmS (su lc fm sp : Nat → Nat) : Nat → (Nat → Nat) × (Nat → Nat) × (Nat → Nat) × Nat × Nat × Nat
  | 0 => (va_up (flL lc 0 18) 0 1, va_up (flL fm 0 18) 0 1, sp, 1, 0, 1)
  | k + 1 =>
    (asL (bmS su lc fm sp k).1 (bmS su lc fm sp k).2.1 (qtN (msL (bmS su lc fm sp k).1 su k (min (bmS su lc fm sp k).2.2.2.2.1 k + 1)) (bmS su lc fm sp k).2.2.2.1) (bmS su lc fm sp k).2.2.2.2.2 (18 - (bmS su lc fm sp k).2.2.2.2.2),
     if msL (bmS su lc fm sp k).1 su k (min (bmS su lc fm sp k).2.2.2.2.1 k + 1) ≠ 0 ∧ 2 * (bmS su lc fm sp k).2.2.2.2.1 ≤ k then va_cpy (va_cpy (bmS su lc fm sp k).1 (bmS su lc fm sp k).2.2.1 0 0 18) (bmS su lc fm sp k).2.1 0 0 18 else (bmS su lc fm sp k).2.1,
     va_cpy (bmS su lc fm sp k).1 (bmS su lc fm sp k).2.2.1 0 0 18,
     if msL (bmS su lc fm sp k).1 su k (min (bmS su lc fm sp k).2.2.2.2.1 k + 1) ≠ 0 ∧ 2 * (bmS su lc fm sp k).2.2.2.2.1 ≤ k then msL (bmS su lc fm sp k).1 su k (min (bmS su lc fm sp k).2.2.2.2.1 k + 1) else (bmS su lc fm sp k).2.2.2.1,
     if msL (bmS su lc fm sp k).1 su k (min (bmS su lc fm sp k).2.2.2.2.1 k + 1) ≠ 0 ∧ 2 * (bmS su lc fm sp k).2.2.2.2.1 ≤ k then k + 1 - (bmS su lc fm sp k).2.2.2.2.1 else (bmS su lc fm sp k).2.2.2.2.1,
     if msL (bmS su lc fm sp k).1 su k (min (bmS su lc fm sp k).2.2.2.2.1 k + 1) ≠ 0 ∧ 2 * (bmS su lc fm sp k).2.2.2.2.1 ≤ k then 1 else (bmS su lc fm sp k).2.2.2.2.2 + 1)
variable {su lc fm sp : Nat → Nat} {k : Nat}
theorem bm_C : (bmS su lc fm sp (k + 1)).1 = asL (bmS su lc fm sp k).1 (bmS su lc fm sp k).2.1 (qtN (msL (bmS su lc fm sp k).1 su k (min (bmS su lc fm sp k).2.2.2.2.1 k + 1)) (bmS su lc fm sp k).2.2.2.1) (bmS su lc fm sp k).2.2.2.2.2 (18 - (bmS su lc fm sp k).2.2.2.2.2) := rfl
theorem bm_P : (bmS su lc fm sp (k + 1)).2.2.1 = va_cpy (bmS su lc fm sp k).1 (bmS su lc fm sp k).2.2.1 0 0 18 := rfl
theorem bm_no (h : msL (bmS su lc fm sp k).1 su k (min (bmS su lc fm sp k).2.2.2.2.1 k + 1) = 0 ∨ k < 2 * (bmS su lc fm sp k).2.2.2.2.1) : ¬ (msL (bmS su lc fm sp k).1 su k (min (bmS su lc fm sp k).2.2.2.2.1 k + 1) ≠ 0 ∧ 2 * (bmS su lc fm sp k).2.2.2.2.1 ≤ k) := by
  rintro ⟨h1, h2⟩
  rcases h with h | h
  · exact h1 h
  · omega
theorem bm_B (h : msL (bmS su lc fm sp k).1 su k (min (bmS su lc fm sp k).2.2.2.2.1 k + 1) = 0 ∨ k < 2 * (bmS su lc fm sp k).2.2.2.2.1) : (bmS su lc fm sp (k + 1)).2.1 = (bmS su lc fm sp k).2.1 := if_neg (bm_no h)
theorem bm_b (h : msL (bmS su lc fm sp k).1 su k (min (bmS su lc fm sp k).2.2.2.2.1 k + 1) = 0 ∨ k < 2 * (bmS su lc fm sp k).2.2.2.2.1) : (bmS su lc fm sp (k + 1)).2.2.2.1 = (bmS su lc fm sp k).2.2.2.1 := if_neg (bm_no h)
theorem bm_L (h : msL (bmS su lc fm sp k).1 su k (min (bmS su lc fm sp k).2.2.2.2.1 k + 1) = 0 ∨ k < 2 * (bmS su lc fm sp k).2.2.2.2.1) : (bmS su lc fm sp (k + 1)).2.2.2.2.1 = (bmS su lc fm sp k).2.2.2.2.1 := if_neg (bm_no h)
theorem bm_s (h : msL (bmS su lc fm sp k).1 su k (min (bmS su lc fm sp k).2.2.2.2.1 k + 1) = 0 ∨ k < 2 * (bmS su lc fm sp k).2.2.2.2.1) : (bmS su lc fm sp (k + 1)).2.2.2.2.2 = (bmS su lc fm sp k).2.2.2.2.2 + 1 := if_neg (bm_no h)
theorem bm_Bg (h1 : msL (bmS su lc fm sp k).1 su k (min (bmS su lc fm sp k).2.2.2.2.1 k + 1) ≠ 0) (h2 : 2 * (bmS su lc fm sp k).2.2.2.2.1 ≤ k) : (bmS su lc fm sp (k + 1)).2.1 = va_cpy (va_cpy (bmS su lc fm sp k).1 (bmS su lc fm sp k).2.2.1 0 0 18) (bmS su lc fm sp k).2.1 0 0 18 := if_pos ⟨h1, h2⟩
theorem bm_bg (h1 : msL (bmS su lc fm sp k).1 su k (min (bmS su lc fm sp k).2.2.2.2.1 k + 1) ≠ 0) (h2 : 2 * (bmS su lc fm sp k).2.2.2.2.1 ≤ k) : (bmS su lc fm sp (k + 1)).2.2.2.1 = msL (bmS su lc fm sp k).1 su k (min (bmS su lc fm sp k).2.2.2.2.1 k + 1) := if_pos ⟨h1, h2⟩
theorem bm_Lg (h1 : msL (bmS su lc fm sp k).1 su k (min (bmS su lc fm sp k).2.2.2.2.1 k + 1) ≠ 0) (h2 : 2 * (bmS su lc fm sp k).2.2.2.2.1 ≤ k) : (bmS su lc fm sp (k + 1)).2.2.2.2.1 = k + 1 - (bmS su lc fm sp k).2.2.2.2.1 := if_pos ⟨h1, h2⟩
theorem bm_sg (h1 : msL (bmS su lc fm sp k).1 su k (min (bmS su lc fm sp k).2.2.2.2.1 k + 1) ≠ 0) (h2 : 2 * (bmS su lc fm sp k).2.2.2.2.1 ≤ k) : (bmS su lc fm sp (k + 1)).2.2.2.2.2 = 1 := if_pos ⟨h1, h2⟩
theorem bm_ok (lc fm sp : Nat → Nat) (hs : lt256 17 su) : ∀ k, k ≤ 17 → lt256 18 (bmS su lc fm sp k).1 ∧ lt256 18 (bmS su lc fm sp k).2.1 ∧ (bmS su lc fm sp k).2.2.2.1 < 256 ∧ (bmS su lc fm sp k).2.2.2.2.1 ≤ k ∧ (bmS su lc fm sp k).2.2.2.2.2 ≤ k + 1 := by
  intro k
  induction k with
  | zero => intro _; exact ⟨gs0_lt lc, gs0_lt fm, (show 1 < 256 by decide), Nat.le_refl 0, Nat.le_refl 1⟩
  | succ k ih =>
    intro hk
    obtain ⟨h1, h2, h3, h4, h5⟩ := ih (by omega)
    have hm := msL_lt (su := su) (n := k) h1 (min (bmS su lc fm sp k).2.2.2.2.1 k + 1) (by omega)
    have hC : lt256 18 (bmS su lc fm sp (k + 1)).1 := by
      rw [bm_C]
      exact asL_lt h1 (qtN_lt _ _ hm h3) _ (by omega)
    by_cases hg : msL (bmS su lc fm sp k).1 su k (min (bmS su lc fm sp k).2.2.2.2.1 k + 1) ≠ 0 ∧ 2 * (bmS su lc fm sp k).2.2.2.2.1 ≤ k
    · refine ⟨hC, ?_, ?_, ?_, ?_⟩
      · rw [bm_Bg hg.1 hg.2]; exact lt_cpy (lt_cpy h1)
      · rw [bm_bg hg.1 hg.2]; exact hm
      · rw [bm_Lg hg.1 hg.2]; omega
      · rw [bm_sg hg.1 hg.2]; omega
    · have hn : msL (bmS su lc fm sp k).1 su k (min (bmS su lc fm sp k).2.2.2.2.1 k + 1) = 0 ∨ k < 2 * (bmS su lc fm sp k).2.2.2.2.1 := by
        by_cases h : msL (bmS su lc fm sp k).1 su k (min (bmS su lc fm sp k).2.2.2.2.1 k + 1) = 0
        · exact Or.inl h
        · exact Or.inr (Nat.not_le.mp (fun q => hg ⟨h, q⟩))
      refine ⟨hC, ?_, ?_, ?_, ?_⟩
      · rw [bm_B hn]; exact h2
      · rw [bm_b hn]; exact h3
      · rw [bm_L hn]; omega
      · rw [bm_s hn]; omega
theorem feJ_lt {v : Nat → Nat} {i : Nat} (hv : lt256 17 v) (hl : lt256 18 lc) (hi : i < 17) : ∀ j, j ≤ i + 1 → lt256 17 (feJ v lc su i j) := by
  intro j
  induction j with
  | zero => intro _; exact hv
  | succ j ih => intro h; exact lt_up (ih (by omega)) (xor_lt (ih (by omega) i hi) (gm_lt _ (hl j (by omega))))
theorem feI_lt (vl : Nat → Nat) (hl : lt256 18 lc) (_ : lt256 17 su) : ∀ i, i ≤ 17 → lt256 17 (feI (flL vl 0 17) lc su i) := by
  intro i
  induction i with
  | zero => intro _ j hj; show flL vl 0 17 j < 256; rw [flL_at 17 j hj]; omega
  | succ i ih => intro h; exact feJ_lt (ih (by omega)) hl (by omega) (i + 1) (Nat.le_refl _)
theorem cwB_lt {bt vl : Nat → Nat} (hb : lt256 26 bt) (hl : lt256 18 lc) (hv : lt256 17 vl) : ∀ k, k ≤ 26 → lt256 26 (cwB bt lc vl k) := by
  intro k
  induction k with
  | zero => intro _; exact hb
  | succ k ih => intro h; exact lt_up (ih (by omega)) (xor_lt (ih (by omega) k (by omega)) (chg_lt hl hv _))
theorem cwC_le (lc vl : Nat → Nat) (k : Nat) : cwC lc vl k ≤ k := by
  induction k with
  | zero => exact Nat.le_refl 0
  | succ k ih => rw [cwC]; split <;> omega
end SPEC_C3
