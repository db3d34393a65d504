section SPEC_C1
theorem nx_nmul (a b : Nat) : -(nI a) * nI b = -(nI (a * b)) := by rw [Int32.neg_mul, pk_mul]
theorem fm_ge2 : ∀ a, a < 1000 → 0 ≤ -(nI a) ^^^ nI 255 → -(nI (a % 255)) = nI ((255 - a % 255) % 255) := by decide +kernel
/-- the first k places filled -/
def flL (c : Nat → Nat) (v : Nat) : Nat → Nat → Nat
  | 0 => c
  | k + 1 => va_up (flL c v k) k v
theorem flL_at {c : Nat → Nat} {v : Nat} : ∀ (k j : Nat), j < k → flL c v k j = v := by
  intro k
  induction k with
  | zero => intro j h; omega
  | succ k ih =>
    intro j h
    by_cases hj : j = k
    · subst hj; exact if_pos rfl
    · exact (show flL c v (k + 1) j = flL c v k j from if_neg hj).trans (ih j (by omega))
/-- the class's tables: powers and logarithms -/
def fldOK (po lo : Nat → Nat) : Prop := (∀ j, j < 255 → po j = pw j) ∧ ∀ a, a < 256 → a ≠ 0 → lo a = lg a
theorem fld_lt {po lo : Nat → Nat} {a : Nat} (h : fldOK po lo) (ha : a < 256) (h0 : a ≠ 0) : lo a < 255 := by
  rw [h.2 a ha h0]
  exact (lg_pw a ha h0).2
theorem fld_pr {po lo : Nat → Nat} {a b : Nat} (h : fldOK po lo) (ha : a < 256) (hb : b < 256) (h0 : a ≠ 0) (h1 : b ≠ 0) : po ((lo a + lo b) % 255) = gm a b := by
  rw [h.1 _ (Nat.mod_lt _ (by decide)), pw_mod, ← gm_pp, h.2 a ha h0, h.2 b hb h1, (lg_pw a ha h0).1, (lg_pw b hb h1).1]
/-- a quotient; 0 where one of them is 0 -/
def qtN (a b : Nat) : Nat := if a = 0 ∨ b = 0 then 0 else gm a (ivN b)
theorem qtN_a {a b : Nat} (h : a = 0) : qtN a b = 0 := if_pos (Or.inl h)
theorem qtN_b {a b : Nat} (h : b = 0) : qtN a b = 0 := if_pos (Or.inr h)
theorem fld_qt {po lo : Nat → Nat} {a b : Nat} (h : fldOK po lo) (ha : a < 256) (hb : b < 256) (h0 : a ≠ 0) (h1 : b ≠ 0) : po ((lo a + 255 - lo b) % 255) = qtN a b := by
  have hl := (lg_pw b hb h1).2
  unfold qtN ivN
  rw [if_neg (fun q => q.elim h0 h1), h.1 _ (Nat.mod_lt _ (by decide)), pw_mod, h.2 a ha h0, h.2 b hb h1]
  have e : gm (pw (lg a)) (pw (255 - lg b)) = pw (lg a + (255 - lg b)) := gm_pp _ _
  rw [(lg_pw a ha h0).1] at e
  rw [e, show lg a + 255 - lg b = lg a + (255 - lg b) by omega]
theorem fld_pw {po lo : Nat → Nat} (h : fldOK po lo) (x : Nat) : po (x % 255) = pw x := by rw [h.1 _ (Nat.mod_lt _ (by decide)), pw_mod]
/-- 2 to the - x -/
def pwm (x : Nat) : Nat := pw ((255 - x % 255) % 255)
theorem fld_pwm {po lo : Nat → Nat} (h : fldOK po lo) (x : Nat) : po ((255 - x % 255) % 255) = pwm x := h.1 _ (Nat.mod_lt _ (by decide))
theorem pwm_lt (x : Nat) : pwm x < 256 := pw_lt _
/-- a column as a number: its first k rows -/
def clN (ro : Nat → Nat) (d : Nat) : Nat → Nat
  | 0 => 0
  | k + 1 => clN ro d k * 2 ^ 1 ||| ro k / 2 ^ (20 - d) % 2
end SPEC_C1
