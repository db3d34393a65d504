section SPEC_H9
theorem ix72 {x q c : Nat} (hx : x ≤ 8) (hq : q < x) (hc : c < x + 1) : (x + 1) * q + c < 72 := by
  have h1 : (x + 1) * q ≤ (x + 1) * (x - 1) := Nat.mul_le_mul_left _ (by omega)
  rcases (show x = 1 ∨ x = 2 ∨ x = 3 ∨ x = 4 ∨ x = 5 ∨ x = 6 ∨ x = 7 ∨ x = 8 by omega) with h | h | h | h | h | h | h | h <;> subst h <;> omega
/-- the first row from q on whose place in column c isn't 0; x where there is none; n is enough -/
def pvW (s : Nat → Nat) (x c : Nat) : Nat → Nat → Nat
  | 0, q => q
  | n + 1, q => if q < x ∧ s ((x + 1) * q + c) = 0 then pvW s x c n (q + 1) else q
theorem pvW_z {s : Nat → Nat} {x c n q : Nat} (h : x ≤ q ∨ s ((x + 1) * q + c) ≠ 0) : pvW s x c n q = q := by
  cases n with
  | zero => rfl
  | succ n =>
    rw [pvW, if_neg]
    rintro ⟨h1, h2⟩
    rcases h with h | h
    · omega
    · exact h h2
theorem pvW_s {s : Nat → Nat} {x c n q : Nat} (h : q < x) (h2 : s ((x + 1) * q + c) = 0) : pvW s x c (n + 1) q = pvW s x c n (q + 1) := by rw [pvW, if_pos ⟨h, h2⟩]
theorem pvW_le {s : Nat → Nat} {x c : Nat} : ∀ n q, q ≤ x → q ≤ pvW s x c n q ∧ pvW s x c n q ≤ x := by
  intro n
  induction n with
  | zero => intro q h; exact ⟨Nat.le_refl q, h⟩
  | succ n ih =>
    intro q h
    by_cases hq : q < x ∧ s ((x + 1) * q + c) = 0
    · rw [pvW_s hq.1 hq.2]
      have := ih (q + 1) (by omega)
      omega
    · rw [pvW, if_neg hq]; omega
theorem pvW_ne' {s : Nat → Nat} {x c : Nat} : ∀ n q, x - q ≤ n → q ≤ x → pvW s x c n q < x → s ((x + 1) * pvW s x c n q + c) ≠ 0 := by
  intro n
  induction n with
  | zero => intro q h1 h2 h3; have : pvW s x c 0 q = q := rfl; omega
  | succ n ih =>
    intro q h1 h2 h3
    by_cases hq : q < x ∧ s ((x + 1) * q + c) = 0
    · rw [pvW_s hq.1 hq.2] at h3 ⊢
      exact ih (q + 1) (by omega) (by omega) h3
    · rw [pvW, if_neg hq] at h3 ⊢
      exact fun z => hq ⟨h3, z⟩
theorem pvW_ne {s : Nat → Nat} {x c : Nat} (h : pvW s x c (x - c) c < x) (hc : c ≤ x) : s ((x + 1) * pvW s x c (x - c) c + c) ≠ 0 := pvW_ne' _ _ (Nat.le_refl _) hc h
/-- a row made to begin with 1, and changed for row c -/
def slJ (s : Nat → Nat) (x p c sc : Nat) : Nat → Nat → Nat
  | 0 => s
  | k + 1 => va_up (va_up (slJ s x p c sc k) ((x + 1) * p + k) (slJ s x p c sc k ((x + 1) * c + k))) ((x + 1) * c + k) (gm (slJ s x p c sc k ((x + 1) * p + k)) sc)
/-- row c times f added to row r -/
def slK (s : Nat → Nat) (x r c f : Nat) : Nat → Nat → Nat
  | 0 => s
  | k + 1 => va_up (slK s x r c f k) ((x + 1) * r + k) (slK s x r c f k ((x + 1) * r + k) ^^^ gm f (slK s x r c f k ((x + 1) * c + k)))
def slR (s : Nat → Nat) (x c : Nat) : Nat → Nat → Nat
  | 0 => s
  | r + 1 => slK (slR s x c r) x r c (if r = c then 0 else slR s x c r ((x + 1) * r + c)) (x + 1)
theorem slR_t {s : Nat → Nat} {x c r : Nat} (h : r = c) : slR s x c (r + 1) = slK (slR s x c r) x r c 0 (x + 1) := by rw [slR, if_pos h]
theorem slR_f {s : Nat → Nat} {x c r : Nat} (h : r ≠ c) : slR s x c (r + 1) = slK (slR s x c r) x r c (slR s x c r ((x + 1) * r + c)) (x + 1) := by rw [slR, if_neg h]
/-- the first c columns done -/
def slI (s : Nat → Nat) (x : Nat) : Nat → Nat → Nat
  | 0 => s
  | c + 1 => slR (slJ (slI s x c) x (pvW (slI s x c) x c (x - c) c) c (ivN (slI s x c ((x + 1) * pvW (slI s x c) x c (x - c) c + c))) (x + 1)) x c x
def soL (so s : Nat → Nat) (x : Nat) : Nat → Nat → Nat
  | 0 => so
  | k + 1 => va_up (soL so s x k) k (s ((x + 1) * k + x))
theorem slJ_lt {s : Nat → Nat} {x p c sc : Nat} (hx : x ≤ 8) (hp : p < x) (hc : c < x) (hs : lt256 72 s) (_ : sc < 256) : ∀ k, k ≤ x + 1 → lt256 72 (slJ s x p c sc k) := by
  intro k
  induction k with
  | zero => intro _; exact hs
  | succ k ih =>
    intro h
    have i := ih (by omega)
    exact lt_up (lt_up i (i _ (ix72 hx hc (by omega)))) (gm_lt _ (i _ (ix72 hx hp (by omega))))
theorem slK_lt {s : Nat → Nat} {x r c f : Nat} (hx : x ≤ 8) (hr : r < x) (hf : f < 256) (hs : lt256 72 s) : ∀ k, k ≤ x + 1 → lt256 72 (slK s x r c f k) := by
  intro k
  induction k with
  | zero => intro _; exact hs
  | succ k ih =>
    intro h
    have i := ih (by omega)
    exact lt_up i (xor_lt (i _ (ix72 hx hr (by omega))) (gm_lt _ hf))
theorem slR_lt {s : Nat → Nat} {x c : Nat} (hx : x ≤ 8) (hc : c < x) (hs : lt256 72 s) : ∀ r, r ≤ x → lt256 72 (slR s x c r) := by
  intro r
  induction r with
  | zero => intro _; exact hs
  | succ r ih =>
    intro h
    have i := ih (by omega)
    refine slK_lt hx (by omega) ?_ i (x + 1) (Nat.le_refl _)
    split
    · omega
    · exact i _ (ix72 hx (by omega) (by omega))
theorem slI_lt {s : Nat → Nat} {x : Nat} (hx : x ≤ 8) (hs : lt256 72 s) : ∀ c, c ≤ x → (∀ d, d < c → pvW (slI s x d) x d (x - d) d < x) → lt256 72 (slI s x c) := by
  intro c
  induction c with
  | zero => intro _ _; exact hs
  | succ c ih =>
    intro h hpv
    exact slR_lt hx (by omega) (slJ_lt hx (hpv c (by omega)) (by omega) (ih (by omega) (fun d hd => hpv d (by omega))) (ivN_lt _) (x + 1) (Nat.le_refl _)) x (Nat.le_refl _)
end SPEC_H9
