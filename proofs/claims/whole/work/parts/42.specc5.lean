section SPEC_C5
theorem fxI_le (i j : Nat) : fxI i j ≤ 1 := by unfold fxI; split <;> omega
/-- an eye drawn: row i's first j, and the first i rows -/
def deJ (ro : Nat → Nat) (tp lf i : Nat) : Nat → Nat → Nat
  | 0 => ro
  | j + 1 => if fxI i j = 0 then deJ ro tp lf i j else va_up (deJ ro tp lf i j) (tp + i) (deJ ro tp lf i j (tp + i) ^^^ 2 ^ (20 - (lf + j)))
def deI (ro : Nat → Nat) (tp lf : Nat) : Nat → Nat → Nat
  | 0 => ro
  | i + 1 => deJ (deI ro tp lf i) tp lf i 7
theorem deJ_f {ro : Nat → Nat} {tp lf i j : Nat} (h : fxI i j = 0) : deJ ro tp lf i (j + 1) = deJ ro tp lf i j := by rw [deJ, if_pos h]
theorem deJ_t {ro : Nat → Nat} {tp lf i j : Nat} (h : fxI i j ≠ 0) : deJ ro tp lf i (j + 1) = va_up (deJ ro tp lf i j) (tp + i) (deJ ro tp lf i j (tp + i) ^^^ 2 ^ (20 - (lf + j))) := by rw [deJ, if_neg h]
/-- dots between the eyes -/
def ddL (ro : Nat → Nat) : Nat → Nat → Nat
  | 0 => ro
  | k + 1 => va_up (va_up (ddL ro k) 6 (ddL ro k 6 ^^^ 2 ^ (20 - (8 + 2 * k)))) (8 + 2 * k) (va_up (ddL ro k) 6 (ddL ro k 6 ^^^ 2 ^ (20 - (8 + 2 * k))) (8 + 2 * k) ^^^ 2 ^ (20 - 6))
/-- the order of the data modules -/
def fuK (q : Nat) : Nat := if q < 7 then 20 - 2 * q else 19 - 2 * q
def fuR (q i : Nat) : Nat := if q % 2 = 0 then 20 - i / 2 else i / 2
theorem fuK_in {q : Nat} (h : q < 10) : 1 ≤ fuK q ∧ fuK q ≤ 20 := by unfold fuK; split <;> omega
theorem fuR_in (q : Nat) {i : Nat} (h : i < 42) : fuR q i < 21 := by unfold fuR; split <;> omega
def fuJ (st : Nat × (Nat → Nat) × (Nat → Nat)) (q : Nat) : Nat → Nat × (Nat → Nat) × (Nat → Nat)
  | 0 => st
  | i + 1 => if isDt (fuR q i) (fuK q - i % 2) ∧ (fuJ st q i).1 < 208 then ((fuJ st q i).1 + 1, va_up (fuJ st q i).2.1 (fuJ st q i).1 (fuR q i), va_up (fuJ st q i).2.2 (fuJ st q i).1 (fuK q - i % 2)) else fuJ st q i
def fuI (rx cx : Nat → Nat) : Nat → Nat × (Nat → Nat) × (Nat → Nat)
  | 0 => (0, rx, cx)
  | q + 1 => fuJ (fuI rx cx q) q 42
theorem fu_t {st : Nat × (Nat → Nat) × (Nat → Nat)} {q i : Nat} (h1 : isDt (fuR q i) (fuK q - i % 2)) (h2 : (fuJ st q i).1 < 208) : (fuJ st q (i + 1)).1 = (fuJ st q i).1 + 1 ∧ (fuJ st q (i + 1)).2.1 = va_up (fuJ st q i).2.1 (fuJ st q i).1 (fuR q i) ∧ (fuJ st q (i + 1)).2.2 = va_up (fuJ st q i).2.2 (fuJ st q i).1 (fuK q - i % 2) := by
  rw [fuJ, if_pos ⟨h1, h2⟩]
  exact ⟨rfl, rfl, rfl⟩
theorem fu_f {st : Nat × (Nat → Nat) × (Nat → Nat)} {q i : Nat} (h : ¬ isDt (fuR q i) (fuK q - i % 2) ∨ 208 ≤ (fuJ st q i).1) : (fuJ st q (i + 1)).1 = (fuJ st q i).1 ∧ (fuJ st q (i + 1)).2.1 = (fuJ st q i).2.1 ∧ (fuJ st q (i + 1)).2.2 = (fuJ st q i).2.2 := by
  rw [fuJ, if_neg (fun z => h.elim (fun y => y z.1) (fun y => by omega))]
  exact ⟨rfl, rfl, rfl⟩
theorem fuJ_le (st : Nat × (Nat → Nat) × (Nat → Nat)) (q : Nat) : ∀ i, st.1 ≤ 208 → (fuJ st q i).1 ≤ 208 := by
  intro i h
  induction i with
  | zero => exact h
  | succ i ih =>
    by_cases hc : isDt (fuR q i) (fuK q - i % 2) ∧ (fuJ st q i).1 < 208
    · rw [(fu_t hc.1 hc.2).1]; omega
    · rw [fuJ, if_neg hc]; exact ih
theorem fuI_le (rx cx : Nat → Nat) : ∀ q, (fuI rx cx q).1 ≤ 208 := by
  intro q
  induction q with
  | zero => exact Nat.zero_le _
  | succ q ih => exact fuJ_le _ q 42 ih
/-- data modules taken up -/
def pkL (b dx dy ro : Nat → Nat) (mk : Nat) : Nat → Nat → Nat
  | 0 => b
  | k + 1 => va_up (pkL b dx dy ro mk k) (k / 2 ^ 3) (pkL b dx dy ro mk k (k / 2 ^ 3) * 2 ^ 1 ||| (ro (dx k) / 2 ^ (20 - dy k) % 2 ^^^ tnN mk (dx k) (dy k)))
end SPEC_C5
