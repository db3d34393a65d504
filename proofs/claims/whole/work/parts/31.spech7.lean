section SPEC_H7
/-- of a kind: most characters of a group, values of a character, bits of a group of n -/
def gmo (kd : Nat) : Nat := if kd = 1 then 3 else if kd = 2 then 2 else 1
def gva (kd : Nat) : Nat := if kd = 1 then 10 else if kd = 2 then 45 else 256
def gsz (kd n : Nat) : Nat := if kd = 4 then 8 else if kd = 2 then (if n = 2 then 11 else 6) else if n = 3 then 10 else if n = 2 then 7 else 4
/-- the characters of a part: good, place, found, what is read; n is enough -/
def chW (tr : Nat → Nat) (kd dt : Nat) : Nat → Nat → Nat → Nat → (Nat → Nat) → Nat × Nat × Nat × (Nat → Nat)
  | 0, _, p, f, r => (1, p, f, r)
  | n + 1, l, p, f, r => if l = 0 then (1, p, f, r) else if 8 * dt < p + gsz kd (min l (gmo kd)) then (0, p, f, r) else
      if gpV (nxL tr p (gsz kd (min l (gmo kd)))) (gva kd) (min l (gmo kd)) = 0 then chW tr kd dt n (l - min l (gmo kd)) (p + gsz kd (min l (gmo kd))) (f + min l (gmo kd)) (gpR r f (min l (gmo kd)) (gva kd) (nxL tr p (gsz kd (min l (gmo kd)))) (min l (gmo kd)))
      else (0, p + gsz kd (min l (gmo kd)), f + min l (gmo kd), gpR r f (min l (gmo kd)) (gva kd) (nxL tr p (gsz kd (min l (gmo kd)))) (min l (gmo kd)))
variable {tr : Nat → Nat} {kd dt n l p f x z : Nat} {r : Nat → Nat}
theorem chW_z (h : l = 0) : chW tr kd dt n l p f r = (1, p, f, r) := by
  cases n with
  | zero => rfl
  | succ n => rw [chW, if_pos h]
theorem chW_no (h : l ≠ 0) (hx : min l (gmo kd) = x) (hz : gsz kd x = z) (hr : 8 * dt < p + z) : chW tr kd dt (n + 1) l p f r = (0, p, f, r) := by
  subst hx; subst hz
  rw [chW, if_neg h, if_pos hr]
theorem chW_bad (h : l ≠ 0) (hx : min l (gmo kd) = x) (hz : gsz kd x = z) (hr : p + z ≤ 8 * dt) (hg : ¬ gpV (nxL tr p z) (gva kd) x = 0) : chW tr kd dt (n + 1) l p f r = (0, p + z, f + x, gpR r f x (gva kd) (nxL tr p z) x) := by
  subst hx; subst hz
  rw [chW, if_neg h, if_neg (by omega), if_neg hg]
theorem chW_s (h : l ≠ 0) (hx : min l (gmo kd) = x) (hz : gsz kd x = z) (hr : p + z ≤ 8 * dt) (hg : gpV (nxL tr p z) (gva kd) x = 0) : chW tr kd dt (n + 1) l p f r = chW tr kd dt n (l - x) (p + z) (f + x) (gpR r f x (gva kd) (nxL tr p z) x) := by
  subst hx; subst hz
  rw [chW, if_neg h, if_neg (by omega), if_pos hg]
theorem chW_le (tr : Nat → Nat) (kd dt : Nat) : ∀ n l p f r, (chW tr kd dt n l p f r).1 ≤ 1 := by
  intro n
  induction n with
  | zero => intro l p f r; exact Nat.le_refl 1
  | succ n ih =>
    intro l p f r
    rw [chW]
    split
    · exact Nat.le_refl 1
    · split
      · exact Nat.zero_le 1
      · split
        · exact ih _ _ _ _
        · exact Nat.zero_le 1
theorem chW_fit (tr : Nat → Nat) (kd dt n l p f : Nat) (r : Nat → Nat) : narrow .boolean (.int (nI (chW tr kd dt n l p f r).1)) = .int (nI (chW tr kd dt n l p f r).1) := by
  rcases (show (chW tr kd dt n l p f r).1 = 0 ∨ (chW tr kd dt n l p f r).1 = 1 by have := chW_le tr kd dt n l p f r; omega) with h | h <;> rw [h] <;> decide
end SPEC_H7
