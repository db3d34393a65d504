/-! The class's penalty is the reference's ugliness, of the same grid -/
section UGLY
/-- five alike from k on, six alike from k on -/
def w4 (f : Nat → Nat) (k : Nat) : Nat := if f k = f (k + 1) ∧ f (k + 1) = f (k + 2) ∧ f (k + 2) = f (k + 3) ∧ f (k + 3) = f (k + 4) then 1 else 0
def w5 (f : Nat → Nat) (k : Nat) : Nat := if f k = f (k + 1) ∧ f (k + 1) = f (k + 2) ∧ f (k + 2) = f (k + 3) ∧ f (k + 3) = f (k + 4) ∧ f (k + 4) = f (k + 5) then 1 else 0
def sm (f : Nat → Nat) : Nat → Nat
  | 0 => 0
  | n + 1 => sm f n + f n
theorem sm_congr {f g : Nat → Nat} : ∀ n, (∀ k, k < n → f k = g k) → sm f n = sm g n := by
  intro n
  induction n with
  | zero => intro _; rfl
  | succ n ih => intro h; rw [sm, sm, ih (fun k hk => h k (by omega)), h n (by omega)]
theorem sm_first (f : Nat → Nat) : ∀ n, sm f (n + 1) = f 0 + sm (fun k => f (k + 1)) n := by
  intro n
  induction n with
  | zero => show 0 + f 0 = f 0 + 0; omega
  | succ n ih => rw [sm, ih, sm]; omega
theorem sm_rev (f : Nat → Nat) : ∀ n, sm (fun k => f (n - 1 - k)) n = sm f n := by
  intro n
  induction n with
  | zero => rfl
  | succ n ih =>
    rw [sm_first, sm]
    have e : (fun k => f (n + 1 - 1 - (k + 1))) = fun k => f (n - 1 - k) := by
      funext k
      rw [show n + 1 - 1 - (k + 1) = n - 1 - k by omega]
    rw [e, ih, show n + 1 - 1 - 0 = n by omega]
    omega
theorem sm_add (f g : Nat → Nat) : ∀ n, sm (fun k => f k + g k) n = sm f n + sm g n := by
  intro n
  induction n with
  | zero => rfl
  | succ n ih => rw [sm, sm, sm, ih]; omega
theorem sm_mul (f : Nat → Nat) (d : Nat) : ∀ n, sm (fun k => d * f k) n = d * sm f n := by
  intro n
  induction n with
  | zero => rfl
  | succ n ih => rw [sm, sm, ih, Nat.mul_add]
theorem sm_split (f : Nat → Nat) (m : Nat) : ∀ n, sm f (m + n) = sm f m + sm (fun k => f (m + k)) n := by
  intro n
  induction n with
  | zero => rfl
  | succ n ih => rw [show m + (n + 1) = (m + n) + 1 by omega, sm, sm, ih]; omega
/-- what a run of n gives -/
def wr (n : Nat) : Nat := if 5 ≤ n then n - 2 else 0
theorem rn_inv (f : Nat → Nat) : ∀ k, k ≤ 20 → (rnL f k).1 + wr (rnL f k).2 + 2 * sm (w5 f) (k - 4) = 3 * sm (w4 f) (k - 3) ∧ 1 ≤ (rnL f k).2 ∧ (rnL f k).2 ≤ k + 1 ∧ (∀ j, k + 1 ≤ j + (rnL f k).2 → j < k → f (j + 1) = f j) ∧ ((rnL f k).2 < k + 1 → f (k + 1 - (rnL f k).2) ≠ f (k - (rnL f k).2)) := by
  intro k
  induction k with
  | zero => intro _; exact ⟨rfl, Nat.le_refl 1, Nat.le_refl 1, fun j _ h => absurd h (Nat.not_lt_zero j), fun h => absurd h (Nat.lt_irrefl 1)⟩
  | succ k ih =>
    intro hk
    obtain ⟨h1, h2, h3, h4, h5⟩ := ih (by omega)
    by_cases e : f (k + 1) = f k
    · have e1 : (rnL f (k + 1)).1 = (rnL f k).1 := rnL_1t (by omega) e
      have e2 : (rnL f (k + 1)).2 = (rnL f k).2 + 1 := rnL_2t (by omega) e
      rw [e1, e2]
      generalize (rnL f k).1 = s at h1 ⊢
      generalize (rnL f k).2 = r at h1 h2 h3 h4 h5 ⊢
      refine ⟨?_, by omega, by omega, fun j hj1 hj2 => ?_, fun hr => ?_⟩
      · by_cases r4 : r < 4
        · have hw : wr (r + 1) = 0 := if_neg (by omega)
          have hw0 : wr r = 0 := if_neg (by omega)
          by_cases k3 : k < 3
          · rw [show k + 1 - 3 = k - 3 by omega, show k + 1 - 4 = k - 4 by omega]; omega
          · have hbr := h5 (by omega)
            have hz4 : w4 f (k - 3) = 0 := by
              refine if_neg (fun q => hbr ?_)
              obtain ⟨q1, q2, q3, q4⟩ := q
              rw [show k - 3 + 1 = k - 2 by omega] at q1 q2
              rw [show k - 3 + 2 = k - 1 by omega] at q2 q3
              rw [show k - 3 + 3 = k by omega] at q3 q4
              rcases (show r = 1 ∨ r = 2 ∨ r = 3 by omega) with q | q | q
              · subst q; rw [show k + 1 - 1 = k by omega]; exact q3.symm
              · subst q; rw [show k + 1 - 2 = k - 1 by omega]; exact q2.symm
              · subst q; rw [show k + 1 - 3 = k - 2 by omega]; exact q1.symm
            rw [show k + 1 - 3 = (k - 3) + 1 by omega, sm, hz4]
            by_cases k4 : k < 4
            · rw [show k + 1 - 4 = k - 4 by omega]; omega
            · have hz5 : w5 f (k - 4) = 0 := by
                refine if_neg (fun q => hbr ?_)
                obtain ⟨q0, q1, q2, q3, q4⟩ := q
                rw [show k - 4 + 1 = k - 3 by omega] at q0 q1
                rw [show k - 4 + 2 = k - 2 by omega] at q1 q2
                rw [show k - 4 + 3 = k - 1 by omega] at q2 q3
                rw [show k - 4 + 4 = k by omega] at q3 q4
                rcases (show r = 1 ∨ r = 2 ∨ r = 3 by omega) with q | q | q
                · subst q; rw [show k + 1 - 1 = k by omega]; exact q3.symm
                · subst q; rw [show k + 1 - 2 = k - 1 by omega]; exact q2.symm
                · subst q; rw [show k + 1 - 3 = k - 2 by omega]; exact q1.symm
              rw [show k + 1 - 4 = (k - 4) + 1 by omega, sm, hz5]; omega
        · have a0 : f k = f (k - 1) := by have := h4 (k - 1) (by omega) (by omega); rwa [show k - 1 + 1 = k by omega] at this
          have a1 : f (k - 1) = f (k - 2) := by have := h4 (k - 2) (by omega) (by omega); rwa [show k - 2 + 1 = k - 1 by omega] at this
          have a2 : f (k - 2) = f (k - 3) := by have := h4 (k - 3) (by omega) (by omega); rwa [show k - 3 + 1 = k - 2 by omega] at this
          have ho4 : w4 f (k - 3) = 1 := by
            refine if_pos ?_
            rw [show k - 3 + 1 = k - 2 by omega, show k - 3 + 2 = k - 1 by omega, show k - 3 + 3 = k by omega, show k - 3 + 4 = k + 1 by omega]
            exact ⟨a2.symm, a1.symm, a0.symm, e.symm⟩
          rw [show k + 1 - 3 = (k - 3) + 1 by omega, sm, ho4]
          have hw1 : wr (r + 1) = r + 1 - 2 := if_pos (by omega)
          by_cases r5 : r = 4
          · have hw0 : wr r = 0 := if_neg (by omega)
            by_cases k4 : k < 4
            · rw [show k + 1 - 4 = k - 4 by omega]; omega
            · have hz5 : w5 f (k - 4) = 0 := by
                refine if_neg (fun q => h5 (by omega) ?_)
                rw [r5, show k + 1 - 4 = k - 4 + 1 by omega]
                exact q.1.symm
              rw [show k + 1 - 4 = (k - 4) + 1 by omega, sm, hz5]; omega
          · have hw0 : wr r = r - 2 := if_pos (by omega)
            have a3 : f (k - 3) = f (k - 4) := by have := h4 (k - 4) (by omega) (by omega); rwa [show k - 4 + 1 = k - 3 by omega] at this
            have ho5 : w5 f (k - 4) = 1 := by
              refine if_pos ?_
              rw [show k - 4 + 1 = k - 3 by omega, show k - 4 + 2 = k - 2 by omega, show k - 4 + 3 = k - 1 by omega, show k - 4 + 4 = k by omega, show k - 4 + 5 = k + 1 by omega]
              exact ⟨a3.symm, a2.symm, a1.symm, a0.symm, e.symm⟩
            rw [show k + 1 - 4 = (k - 4) + 1 by omega, sm, ho5]; omega
      · by_cases e9 : j = k
        · rw [e9]; exact e
        · exact h4 j (by omega) (by omega)
      · have := h5 (by omega)
        rw [show k + 1 + 1 - (r + 1) = k + 1 - r by omega, show k + 1 - (r + 1) = k - r by omega]
        exact this
    · have e2 : (rnL f (k + 1)).2 = 1 := rnL_2g e
      have e1 : (rnL f (k + 1)).1 = (rnL f k).1 + wr (rnL f k).2 := by
        by_cases g : 5 ≤ (rnL f k).2
        · rw [rnL_1i e g]; unfold wr; rw [if_pos g]
        · rw [rnL_1h e (by omega)]; unfold wr; rw [if_neg g]
      rw [e1, e2]
      refine ⟨?_, Nat.le_refl 1, by omega, fun j hj1 hj2 => by omega, fun hr => ?_⟩
      · have hw : wr 1 = 0 := rfl
        have hz4 : 3 ≤ k → w4 f (k - 3) = 0 := fun q => by
          refine if_neg (fun z => e ?_)
          have := z.2.2.2
          rw [show k - 3 + 3 = k by omega, show k - 3 + 4 = k + 1 by omega] at this
          exact this.symm
        have hz5 : 4 ≤ k → w5 f (k - 4) = 0 := fun q => by
          refine if_neg (fun z => e ?_)
          have := z.2.2.2.2
          rw [show k - 4 + 4 = k by omega, show k - 4 + 5 = k + 1 by omega] at this
          exact this.symm
        have s4 : sm (w4 f) (k + 1 - 3) = sm (w4 f) (k - 3) := by
          by_cases q : 3 ≤ k
          · rw [show k + 1 - 3 = (k - 3) + 1 by omega, sm, hz4 q]; rfl
          · rw [show k + 1 - 3 = k - 3 by omega]
        have s5 : sm (w5 f) (k + 1 - 4) = sm (w5 f) (k - 4) := by
          by_cases q : 4 ≤ k
          · rw [show k + 1 - 4 = (k - 4) + 1 by omega, sm, hz5 q]; rfl
          · rw [show k + 1 - 4 = k - 4 by omega]
        rw [s4, s5]; omega
      · rw [show k + 1 + 1 - 1 = k + 1 by omega, show k + 1 - 1 = k by omega]; exact e
/-- a line's runs, by what stands five and six in a row -/
theorem rn_end (f : Nat → Nat) : (rnL f 21).1 + 2 * sm (w5 f) 16 = 3 * sm (w4 f) 17 := by
  have h := (rn_inv f 20 (Nat.le_refl _)).1
  have e : (rnL f 21).1 = (rnL f 20).1 + wr (rnL f 20).2 := by
    by_cases g : 5 ≤ (rnL f 20).2
    · rw [rnL_1g (by decide) g]; unfold wr; rw [if_pos g]
    · rw [rnL_1f (by decide) (by omega)]; unfold wr; rw [if_neg g]
  rw [e]; exact h
theorem rn_rev {f g : Nat → Nat} (h : ∀ i, i < 21 → g i = f (20 - i)) : (rnL g 21).1 = (rnL f 21).1 := by
  have h1 := rn_end f
  have h2 := rn_end g
  have e4 : sm (w4 g) 17 = sm (w4 f) 17 := by
    rw [← sm_rev (w4 f) 17]
    refine sm_congr 17 (fun k hk => ?_)
    show w4 g k = w4 f (17 - 1 - k)
    unfold w4
    rw [h k (by omega), h (k + 1) (by omega), h (k + 2) (by omega), h (k + 3) (by omega), h (k + 4) (by omega),
      show 17 - 1 - k + 4 = 20 - k by omega, show 17 - 1 - k + 3 = 20 - (k + 1) by omega, show 17 - 1 - k + 2 = 20 - (k + 2) by omega, show 17 - 1 - k + 1 = 20 - (k + 3) by omega, show 17 - 1 - k = 20 - (k + 4) by omega]
    have : (f (20 - k) = f (20 - (k + 1)) ∧ f (20 - (k + 1)) = f (20 - (k + 2)) ∧ f (20 - (k + 2)) = f (20 - (k + 3)) ∧ f (20 - (k + 3)) = f (20 - (k + 4))) ↔ (f (20 - (k + 4)) = f (20 - (k + 3)) ∧ f (20 - (k + 3)) = f (20 - (k + 2)) ∧ f (20 - (k + 2)) = f (20 - (k + 1)) ∧ f (20 - (k + 1)) = f (20 - k)) := by
      constructor <;> (rintro ⟨a, b, c, d⟩; exact ⟨d.symm, c.symm, b.symm, a.symm⟩)
    by_cases q : f (20 - k) = f (20 - (k + 1)) ∧ f (20 - (k + 1)) = f (20 - (k + 2)) ∧ f (20 - (k + 2)) = f (20 - (k + 3)) ∧ f (20 - (k + 3)) = f (20 - (k + 4))
    · rw [if_pos q, if_pos (this.mp q)]
    · rw [if_neg q, if_neg (fun z => q (this.mpr z))]
  have e5 : sm (w5 g) 16 = sm (w5 f) 16 := by
    rw [← sm_rev (w5 f) 16]
    refine sm_congr 16 (fun k hk => ?_)
    show w5 g k = w5 f (16 - 1 - k)
    unfold w5
    rw [h k (by omega), h (k + 1) (by omega), h (k + 2) (by omega), h (k + 3) (by omega), h (k + 4) (by omega), h (k + 5) (by omega),
      show 16 - 1 - k + 5 = 20 - k by omega, show 16 - 1 - k + 4 = 20 - (k + 1) by omega, show 16 - 1 - k + 3 = 20 - (k + 2) by omega, show 16 - 1 - k + 2 = 20 - (k + 3) by omega, show 16 - 1 - k + 1 = 20 - (k + 4) by omega, show 16 - 1 - k = 20 - (k + 5) by omega]
    have : (f (20 - k) = f (20 - (k + 1)) ∧ f (20 - (k + 1)) = f (20 - (k + 2)) ∧ f (20 - (k + 2)) = f (20 - (k + 3)) ∧ f (20 - (k + 3)) = f (20 - (k + 4)) ∧ f (20 - (k + 4)) = f (20 - (k + 5))) ↔ (f (20 - (k + 5)) = f (20 - (k + 4)) ∧ f (20 - (k + 4)) = f (20 - (k + 3)) ∧ f (20 - (k + 3)) = f (20 - (k + 2)) ∧ f (20 - (k + 2)) = f (20 - (k + 1)) ∧ f (20 - (k + 1)) = f (20 - k)) := by
      constructor <;> (rintro ⟨a, b, c, d, e⟩; exact ⟨e.symm, d.symm, c.symm, b.symm, a.symm⟩)
    by_cases q : f (20 - k) = f (20 - (k + 1)) ∧ f (20 - (k + 1)) = f (20 - (k + 2)) ∧ f (20 - (k + 2)) = f (20 - (k + 3)) ∧ f (20 - (k + 3)) = f (20 - (k + 4)) ∧ f (20 - (k + 4)) = f (20 - (k + 5))
    · rw [if_pos q, if_pos (this.mp q)]
    · rw [if_neg q, if_neg (fun z => q (this.mpr z))]
  omega
theorem pr_rn (x : Nat) : ∀ k, prL x k = rnL (fun i => x / 2 ^ i % 2) k := by
  intro k
  induction k with
  | zero => rfl
  | succ k ih => rw [prL, rnL, ih]
/-- a line as a number, its first place the highest -/
theorem pr_line {x : Nat} {f : Nat → Nat} (h : ∀ i, i < 21 → f i = x / 2 ^ (20 - i) % 2) : (prL x 21).1 = (rnL f 21).1 := by
  rw [pr_rn]
  refine (rn_rev (f := fun i => x / 2 ^ i % 2) (g := f) (fun i hi => h i hi)).symm
theorem half_mod (y j : Nat) : y % 2 ^ (j + 1) = 2 * (y / 2 % 2 ^ j) + y % 2 := by
  rw [Nat.pow_succ, Nat.mul_comm (2 ^ j) 2, Nat.mod_mul]
  omega
theorem mv_line {x : Nat} {f : Nat → Nat} (h : ∀ i, i < 21 → f i = x / 2 ^ (20 - i) % 2) (k : Nat) : ∀ j, k + j ≤ 21 → mvL f k j = x / 2 ^ (21 - k - j) % 2 ^ j := by
  intro j
  induction j with
  | zero => intro _; show 0 = _ % 1; omega
  | succ j ih =>
    intro hj
    rw [mvL, ih (by omega), h (k + j) (by omega), half_mod, show 20 - (k + j) = 21 - k - (j + 1) by omega]
    congr 2
    rw [show 21 - k - j = (21 - k - (j + 1)) + 1 by omega, Nat.pow_succ, Nat.div_div_eq_div_mul]
theorem pe_line {x : Nat} {f : Nat → Nat} (h : ∀ i, i < 21 → f i = x / 2 ^ (20 - i) % 2) : peL x 11 = mkL f 11 := by
  have a1 : ∀ n, peL x n = sm (fun k => if x / 2 ^ k % 2048 = 1488 ∨ x / 2 ^ k % 2048 = 93 then 40 else 0) n := by
    intro n
    induction n with
    | zero => rfl
    | succ n ih => rw [peL, sm, ih]
  have a2 : ∀ n, mkL f n = sm (fun k => if mvL f k 11 = 1488 ∨ mvL f k 11 = 93 then 40 else 0) n := by
    intro n
    induction n with
    | zero => rfl
    | succ n ih => rw [mkL, sm, ih]
  rw [a1, a2, ← sm_rev _ 11]
  refine sm_congr 11 (fun k hk => ?_)
  show (if x / 2 ^ (11 - 1 - k) % 2048 = 1488 ∨ x / 2 ^ (11 - 1 - k) % 2048 = 93 then 40 else 0) = _
  rw [mv_line h k 11 (by omega), show 21 - k - 11 = 11 - 1 - k by omega]
end UGLY
