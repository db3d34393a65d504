section SPEC_H8
def wdN (k : Nat) : Nat := if k = 1 then 10 else if k = 2 then 9 else 8
/-- the parts of a text: good, place, found, what is read; n is enough -/
def rtW (tr : Nat → Nat) (dt : Nat) : Nat → Nat → Nat → (Nat → Nat) → Nat × Nat × Nat × (Nat → Nat)
  | 0, p, f, r => (1, p, f, r)
  | n + 1, p, f, r => if 8 * dt - p < 4 then (1, p, f, r) else if nxL tr p 4 = 0 then (1, p + 4, f, r) else
      if ¬ (nxL tr p 4 = 1 ∨ nxL tr p 4 = 2 ∨ nxL tr p 4 = 4) then (0, p + 4, f, r) else
      if 8 * dt < p + 4 + wdN (nxL tr p 4) then (0, p + 4, f, r) else
      if (chW tr (nxL tr p 4) dt (nxL tr (p + 4) (wdN (nxL tr p 4))) (nxL tr (p + 4) (wdN (nxL tr p 4))) (p + 4 + wdN (nxL tr p 4)) f r).1 = 0 then chW tr (nxL tr p 4) dt (nxL tr (p + 4) (wdN (nxL tr p 4))) (nxL tr (p + 4) (wdN (nxL tr p 4))) (p + 4 + wdN (nxL tr p 4)) f r
      else rtW tr dt n (chW tr (nxL tr p 4) dt (nxL tr (p + 4) (wdN (nxL tr p 4))) (nxL tr (p + 4) (wdN (nxL tr p 4))) (p + 4 + wdN (nxL tr p 4)) f r).2.1 (chW tr (nxL tr p 4) dt (nxL tr (p + 4) (wdN (nxL tr p 4))) (nxL tr (p + 4) (wdN (nxL tr p 4))) (p + 4 + wdN (nxL tr p 4)) f r).2.2.1 (chW tr (nxL tr p 4) dt (nxL tr (p + 4) (wdN (nxL tr p 4))) (nxL tr (p + 4) (wdN (nxL tr p 4))) (p + 4 + wdN (nxL tr p 4)) f r).2.2.2
variable {tr : Nat → Nat} {dt n p f k wd : Nat} {r : Nat → Nat}
theorem rtW_e (h : 8 * dt - p < 4) : rtW tr dt n p f r = (1, p, f, r) := by
  cases n with
  | zero => rfl
  | succ n => rw [rtW, if_pos h]
theorem rtW_z (h : ¬ 8 * dt - p < 4) (hk : nxL tr p 4 = 0) : rtW tr dt (n + 1) p f r = (1, p + 4, f, r) := by rw [rtW, if_neg h, if_pos hk]
theorem rtW_k (h : ¬ 8 * dt - p < 4) (hk : nxL tr p 4 ≠ 0 ∧ nxL tr p 4 ≠ 1 ∧ nxL tr p 4 ≠ 2 ∧ nxL tr p 4 ≠ 4) : rtW tr dt (n + 1) p f r = (0, p + 4, f, r) := by
  rw [rtW, if_neg h, if_neg hk.1, if_pos (by omega)]
theorem rtW_n (h : ¬ 8 * dt - p < 4) (hk : nxL tr p 4 = 1 ∨ nxL tr p 4 = 2 ∨ nxL tr p 4 = 4) (hw : wdN (nxL tr p 4) = wd) (hr : 8 * dt < p + 4 + wd) : rtW tr dt (n + 1) p f r = (0, p + 4, f, r) := by
  rw [rtW, if_neg h, if_neg (by omega), if_neg (fun q => q hk), if_pos (by rw [hw]; exact hr)]
theorem rtW_b (h : ¬ 8 * dt - p < 4) (hk : nxL tr p 4 = k) (hk2 : k = 1 ∨ k = 2 ∨ k = 4) (hw : wdN k = wd) (hr : p + 4 + wd ≤ 8 * dt) (hb : (chW tr k dt (nxL tr (p + 4) wd) (nxL tr (p + 4) wd) (p + 4 + wd) f r).1 = 0) :
    rtW tr dt (n + 1) p f r = (0, (chW tr k dt (nxL tr (p + 4) wd) (nxL tr (p + 4) wd) (p + 4 + wd) f r).2.1, (chW tr k dt (nxL tr (p + 4) wd) (nxL tr (p + 4) wd) (p + 4 + wd) f r).2.2.1, (chW tr k dt (nxL tr (p + 4) wd) (nxL tr (p + 4) wd) (p + 4 + wd) f r).2.2.2) := by
  subst hw
  rw [rtW, if_neg h, if_neg (by omega), if_neg (fun q => q (by omega)), hk, if_neg (by omega), if_pos hb]
  generalize hq : chW tr k dt (nxL tr (p + 4) (wdN k)) (nxL tr (p + 4) (wdN k)) (p + 4 + wdN k) f r = q at hb ⊢
  obtain ⟨q1, q2, q3, q4⟩ := q
  simp only at hb
  rw [hb]
theorem rtW_s (h : ¬ 8 * dt - p < 4) (hk : nxL tr p 4 = k) (hk2 : k = 1 ∨ k = 2 ∨ k = 4) (hw : wdN k = wd) (hr : p + 4 + wd ≤ 8 * dt) (hb : (chW tr k dt (nxL tr (p + 4) wd) (nxL tr (p + 4) wd) (p + 4 + wd) f r).1 ≠ 0) :
    rtW tr dt (n + 1) p f r = rtW tr dt n (chW tr k dt (nxL tr (p + 4) wd) (nxL tr (p + 4) wd) (p + 4 + wd) f r).2.1 (chW tr k dt (nxL tr (p + 4) wd) (nxL tr (p + 4) wd) (p + 4 + wd) f r).2.2.1 (chW tr k dt (nxL tr (p + 4) wd) (nxL tr (p + 4) wd) (p + 4 + wd) f r).2.2.2 := by
  subst hw
  rw [rtW, if_neg h, if_neg (by omega), if_neg (fun q => q (by omega)), hk, if_neg (by omega), if_neg hb]
theorem chW_inv (tr : Nat → Nat) (kd dt : Nat) (hdt : dt ≤ 19) (hk : kd = 1 ∨ kd = 2 ∨ kd = 4) : ∀ n l p f r, 10 * f ≤ 3 * p → p ≤ 8 * dt → (chW tr kd dt n l p f r).2.1 ≤ 8 * dt ∧ 10 * (chW tr kd dt n l p f r).2.2.1 ≤ 3 * (chW tr kd dt n l p f r).2.1 ∧ p ≤ (chW tr kd dt n l p f r).2.1 := by
  have hs : ∀ x, x ≤ gmo kd → 10 * x ≤ 3 * gsz kd x := by
    intro x hx
    rcases hk with h | h | h
    · subst h
      have hx : x ≤ 3 := hx
      rcases (show x = 0 ∨ x = 1 ∨ x = 2 ∨ x = 3 by omega) with h | h | h | h <;> subst h <;> decide
    · subst h
      have hx : x ≤ 2 := hx
      rcases (show x = 0 ∨ x = 1 ∨ x = 2 by omega) with h | h | h <;> subst h <;> decide
    · subst h
      have hx : x ≤ 1 := hx
      rcases (show x = 0 ∨ x = 1 by omega) with h | h <;> subst h <;> decide
  intro n
  induction n with
  | zero => intro l p f r h1 h2; exact ⟨h2, h1, Nat.le_refl p⟩
  | succ n ih =>
    intro l p f r h1 h2
    have hx := hs (min l (gmo kd)) (by omega)
    rw [chW]
    split
    · exact ⟨h2, h1, Nat.le_refl p⟩
    · split
      · exact ⟨h2, h1, Nat.le_refl p⟩
      · split
        · obtain ⟨a1, a2, a3⟩ := ih (l - min l (gmo kd)) (p + gsz kd (min l (gmo kd))) (f + min l (gmo kd)) (gpR r f (min l (gmo kd)) (gva kd) (nxL tr p (gsz kd (min l (gmo kd)))) (min l (gmo kd))) (by omega) (by omega)
          exact ⟨a1, a2, by omega⟩
        · exact ⟨by show p + gsz kd _ ≤ _; omega, by show 10 * (f + _) ≤ 3 * (p + _); omega, by show p ≤ p + _; omega⟩
theorem rtW_le (tr : Nat → Nat) (dt : Nat) : ∀ n p f r, (rtW tr dt n p f r).1 ≤ 1 := by
  intro n
  induction n with
  | zero => intro p f r; exact Nat.le_refl 1
  | succ n ih =>
    intro p f r
    rw [rtW]
    split
    · exact Nat.le_refl 1
    · split
      · exact Nat.le_refl 1
      · split
        · exact Nat.zero_le 1
        · split
          · exact Nat.zero_le 1
          · split
            · exact chW_le _ _ _ _ _ _ _ _
            · exact ih _ _ _
theorem rtW_fit (tr : Nat → Nat) (dt n p f : Nat) (r : Nat → Nat) : narrow .boolean (.int (nI (rtW tr dt n p f r).1)) = .int (nI (rtW tr dt n p f r).1) := by
  rcases (show (rtW tr dt n p f r).1 = 0 ∨ (rtW tr dt n p f r).1 = 1 by have := rtW_le tr dt n p f r; omega) with h | h <;> rw [h] <;> decide
end SPEC_H8
