section UGLY2
/-- the class's rows and the reference's grid hold the same modules -/
def grR (ro gr : Nat → Nat) : Prop := (∀ r, r < 21 → ro r < 2 ^ 21) ∧ ∀ r c, r < 21 → c < 21 → gr (21 * r + c) = ro r / 2 ^ (20 - c) % 2
theorem sm_grid (f : Nat → Nat) (m : Nat) : ∀ n, sm f (m * n) = sm (fun r => sm (fun c => f (m * r + c)) m) n := by
  intro n
  induction n with
  | zero => rfl
  | succ n ih => rw [Nat.mul_succ, sm_split, ih, sm]
theorem dk_sm (d : Nat → Nat) : ∀ n, dkL d n = sm d n := by
  intro n
  induction n with
  | zero => rfl
  | succ n ih => rw [dkL, sm, ih]
theorem row_sum {ro gr : Nat → Nat} (h : grR ro gr) {r : Nat} (hr : r < 21) : sm (fun c => gr (21 * r + c)) 21 = bcN (ro r) := by
  have hx := h.1 r hr
  rw [bcN_pc (Nat.lt_of_lt_of_le hx (by decide)), show 32 = 21 + 11 from rfl, pcn_cut hx]
  unfold pcn
  rw [← sm_rev (fun i => ro r / 2 ^ i % 2) 21]
  exact sm_congr 21 (fun c hc => h.2 r c hr hc)
theorem dark_eq {ro gr : Nat → Nat} (h : grR ro gr) : dkL gr 441 = pbL ro 21 := by
  have e : ∀ n, n ≤ 21 → pbL ro n = sm (fun r => sm (fun c => gr (21 * r + c)) 21) n := by
    intro n
    induction n with
    | zero => intro _; rfl
    | succ n ih => intro hn; rw [pbL, sm, ih (by omega), row_sum h (by omega)]
  rw [dk_sm, show 441 = 21 * 21 from rfl, sm_grid, e 21 (Nat.le_refl _)]
theorem sqA_bit {ro : Nat → Nat} {r i : Nat} (hx : ro r < 2 ^ 21) (hy : ro (r + 1) < 2 ^ 21) (hi : i < 20) : sqA ro r / 2 ^ i % 2 = if ro r / 2 ^ i % 2 = ro r / 2 ^ (i + 1) % 2 ∧ ro r / 2 ^ i % 2 = ro (r + 1) / 2 ^ i % 2 ∧ ro r / 2 ^ (i + 1) % 2 = ro (r + 1) / 2 ^ (i + 1) % 2 then 1 else 0 := by
  unfold sqA
  generalize ro r = x at hx ⊢
  generalize ro (r + 1) = y at hy ⊢
  have hm : ∀ j, j < 32 → (4294967295 : Nat).testBit j = true := by decide
  have hp : ∀ j, j < 20 → (1048575 : Nat).testBit j = true := by decide
  have hz : (x ^^^ y) ^^^ 4294967295 < 2 ^ 32 := Nat.xor_lt_two_pow (Nat.xor_lt_two_pow (Nat.lt_of_lt_of_le hx (by decide)) (Nat.lt_of_lt_of_le hy (by decide))) (by decide)
  have e1 : ((x ^^^ y) ^^^ 4294967295) / 2 + 2147483648 = 2 ^ 31 * 1 + ((x ^^^ y) ^^^ 4294967295) / 2 := by omega
  have e2 : (((x ^^^ y) ^^^ 4294967295) / 2).testBit i = ((x ^^^ y) ^^^ 4294967295).testBit (1 + i) := by
    have := Nat.testBit_div_two_pow (i := i) (n := 1) ((x ^^^ y) ^^^ 4294967295)
    rw [show (2 : Nat) ^ 1 = 2 from rfl] at this
    rw [this, Nat.add_comm]
  rw [e1, ← Nat.toNat_testBit, Nat.testBit_and, Nat.testBit_and, Nat.testBit_and, Nat.testBit_two_pow_mul_add 1 (show ((x ^^^ y) ^^^ 4294967295) / 2 < 2 ^ 31 by omega) i, if_pos (by omega), e2, hp i hi, Nat.testBit_xor, Nat.testBit_xor, Nat.testBit_xor, Nat.testBit_xor, Nat.testBit_xor, Nat.testBit_xor, Nat.testBit_div_two_pow, hm i (by omega), hm (1 + i) (by omega)]
  rw [← Nat.toNat_testBit, ← Nat.toNat_testBit, ← Nat.toNat_testBit, ← Nat.toNat_testBit, Nat.add_comm 1 i]
  cases x.testBit i <;> cases x.testBit (i + 1) <;> cases y.testBit i <;> cases y.testBit (i + 1) <;> rfl
/-- a square of four alike with k at its corner -/
def s4c (d : Nat → Nat) (k : Nat) : Nat := if k % 21 < 20 ∧ k / 21 < 20 ∧ d k = d (k + 1) ∧ d k = d (k + 21) ∧ d k = d (k + 22) then 1 else 0
theorem sq_sm (d : Nat → Nat) : ∀ n, sqL d n = ulL d 42 + 3 * sm (s4c d) n := by
  intro n
  induction n with
  | zero => rfl
  | succ n ih =>
    rw [sqL, sm, ih]
    unfold s4c
    split <;> omega
theorem row_sq {ro gr : Nat → Nat} (h : grR ro gr) {r : Nat} (hr : r < 20) : sm (fun c => s4c gr (21 * r + c)) 21 = bcN (sqA ro r) := by
  have hx := h.1 r (by omega)
  have hy := h.1 (r + 1) (by omega)
  have hs : sqA ro r < 2 ^ 20 := Nat.lt_of_le_of_lt Nat.and_le_right (by decide)
  rw [bcN_pc (Nat.lt_of_lt_of_le hs (by decide)), show 32 = 20 + 12 from rfl, pcn_cut hs, show 21 = 20 + 1 from rfl, sm]
  have h0 : s4c gr ((20 + 1) * r + 20) = 0 := if_neg (by omega)
  rw [h0, Nat.add_zero]
  unfold pcn
  rw [← sm_rev (fun i => sqA ro r / 2 ^ i % 2) 20]
  refine sm_congr 20 (fun c hc => ?_)
  show s4c gr (21 * r + c) = sqA ro r / 2 ^ (20 - 1 - c) % 2
  rw [sqA_bit hx hy (by omega)]
  have g1 := h.2 r c (by omega) (by omega)
  have g2 := h.2 r (c + 1) (by omega) (by omega)
  have g3 := h.2 (r + 1) c (by omega) (by omega)
  have g4 := h.2 (r + 1) (c + 1) (by omega) (by omega)
  rw [show 20 - (c + 1) = 20 - 1 - c by omega] at g2 g4
  rw [show 20 - c = 20 - 1 - c + 1 by omega] at g1 g3
  unfold s4c
  rw [show 21 * r + c + 1 = 21 * r + (c + 1) by omega, show 21 * r + c + 21 = 21 * (r + 1) + c by omega, show 21 * r + c + 22 = 21 * (r + 1) + (c + 1) by omega, g1, g2, g3, g4]
  have hq1 : (21 * r + c) % 21 < 20 := by omega
  have hq2 : (21 * r + c) / 21 < 20 := by omega
  generalize ro r / 2 ^ (20 - 1 - c + 1) % 2 = a
  generalize ro r / 2 ^ (20 - 1 - c) % 2 = b
  generalize ro (r + 1) / 2 ^ (20 - 1 - c + 1) % 2 = d
  generalize ro (r + 1) / 2 ^ (20 - 1 - c) % 2 = e
  by_cases q : a = b ∧ a = d ∧ a = e
  · rw [if_pos ⟨hq1, hq2, q⟩, if_pos (by omega)]
  · rw [if_neg (fun z => q z.2.2), if_neg (by omega)]
theorem sq_eq {ro gr : Nat → Nat} (h : grR ro gr) : sm (s4c gr) 441 = pqL ro 20 := by
  have e : ∀ n, n ≤ 20 → pqL ro n = sm (fun r => sm (fun c => s4c gr (21 * r + c)) 21) n := by
    intro n
    induction n with
    | zero => intro _; rfl
    | succ n ih => intro hn; rw [pqL, sm, ih (by omega), row_sq h (by omega)]
  rw [show 441 = 21 * 21 from rfl, sm_grid, e 20 (Nat.le_refl _), show 21 = 20 + 1 from rfl, sm]
  have h0 : sm (fun c => s4c gr ((20 + 1) * 20 + c)) (20 + 1) = 0 := by
    have : ∀ n, n ≤ 21 → sm (fun c => s4c gr ((20 + 1) * 20 + c)) n = 0 := by
      intro n
      induction n with
      | zero => intro _; rfl
      | succ n ih =>
        intro hn
        rw [sm, ih (by omega), Nat.zero_add]
        have hq : ¬ ((20 + 1) * 20 + n) / 21 < 20 := by omega
        exact if_neg (fun z => hq z.2.1)
    exact this 21 (Nat.le_refl _)
  rw [h0, Nat.add_zero]
theorem clN_bit {ro : Nat → Nat} {d : Nat} : ∀ n k, k < n → clN ro d n / 2 ^ (n - 1 - k) % 2 = ro k / 2 ^ (20 - d) % 2 := by
  intro n
  induction n with
  | zero => intro k h; omega
  | succ n ih =>
    intro k hk
    rw [clN]
    generalize hb : ro n / 2 ^ (20 - d) % 2 = b
    have hb2 : b < 2 ^ 1 := by omega
    have e : clN ro d n * 2 ^ 1 ||| b = 2 ^ 1 * clN ro d n + b := by
      rw [Nat.mul_comm, Nat.two_pow_add_eq_or_of_lt hb2]
    rw [e]
    by_cases q : k = n
    · subst q
      rw [hb, show k + 1 - 1 - k = 0 by omega]
      omega
    · rw [show n + 1 - 1 - k = 1 + (n - 1 - k) by omega, bit_hi hb2]
      exact ih k (by omega)
/-- the penalty is the ugliness -/
theorem ugly_eq {ro gr : Nat → Nat} (h : grR ro gr) : peN ro 21 = ugN gr := by
  have hrow : ∀ u, u < 21 → (prL (ro u) 21).1 + peL (ro u) 11 = (rnL (ilN gr u) 21).1 + mkL (ilN gr u) 11 := by
    intro u hu
    have hl : ∀ i, i < 21 → ilN gr u i = ro u / 2 ^ (20 - i) % 2 := fun i hi => by rw [ilN_t hu]; exact h.2 u i hu hi
    rw [pr_line hl, pe_line hl]
  have hcol : ∀ u, u < 21 → (prL (clN ro u 21) 21).1 + peL (clN ro u 21) 11 = (rnL (ilN gr (21 + u)) 21).1 + mkL (ilN gr (21 + u)) 11 := by
    intro u hu
    have hl : ∀ i, i < 21 → ilN gr (21 + u) i = clN ro u 21 / 2 ^ (20 - i) % 2 := fun i hi => by
      rw [ilN_f (by omega), show 21 * i + (21 + u) - 21 = 21 * i + u by omega, h.2 i u hi hu]
      exact (clN_bit 21 i hi).symm
    rw [pr_line hl, pe_line hl]
  have hu : ∀ n, ulL gr n = sm (fun u => (rnL (ilN gr u) 21).1 + mkL (ilN gr u) 11) n := by
    intro n
    induction n with
    | zero => rfl
    | succ n ih => rw [ulL, sm, ih]
  have hp : ∀ n, n ≤ 21 → peN ro n = 3 * pqL ro 20 + 10 * (adN (20 * pbL ro 21) / 441) + (sm (fun u => (rnL (ilN gr u) 21).1 + mkL (ilN gr u) 11) n + sm (fun u => (rnL (ilN gr (21 + u)) 21).1 + mkL (ilN gr (21 + u)) 11) n) := by
    intro n
    induction n with
    | zero => intro _; rfl
    | succ n ih => intro hn; rw [peN, ih (by omega), hrow n (by omega), hcol n (by omega), sm, sm]; omega
  rw [hp 21 (Nat.le_refl _)]
  unfold ugN
  rw [sq_sm, hu, show 42 = 21 + 21 from rfl, sm_split, sq_eq h, dark_eq h]
  show _ + 10 * (adN (20 * pbL ro 21) / 441) + _ = _ + 10 * (adN (20 * pbL ro 21) / 441)
  omega
end UGLY2
