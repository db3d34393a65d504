section SPEC_H12
/-- the value of a plain character, as a number -/
def pnN (c : Nat) : Nat := (plI c).toNatClampNeg
theorem plI_lt (c : Nat) : plI c = -1 ∨ (plI c = nI (pnN c) ∧ pnN c < 45) := by
  have key : ∀ v : Nat, v < 45 → plI c = nI v → plI c = -1 ∨ (plI c = nI (pnN c) ∧ pnN c < 45) := by
    intro v hv e
    refine Or.inr ?_
    have h1 : pnN c = v := by
      unfold pnN
      rw [e]
      exact nI_clamp (Nat.lt_trans hv (by decide))
    rw [h1]
    exact ⟨e, hv⟩
  by_cases h1 : 48 ≤ c ∧ c ≤ 57
  · exact key _ (by omega) (plI_a h1.1 h1.2)
  · by_cases h2 : 65 ≤ c ∧ c ≤ 90
    · exact key _ (by omega) (plI_b h2.1 h2.2)
    · have e : plI c = if c = 32 then nI 36 else if c = 36 then nI 37 else if c = 37 then nI 38 else if c = 42 then nI 39 else if c = 43 then nI 40 else
          if c = 45 then nI 41 else if c = 46 then nI 42 else if c = 47 then nI 43 else if c = 58 then nI 44 else -1 := by
        unfold plI
        rw [if_neg h1, if_neg h2]
      by_cases q : c = 32
      · rw [if_pos q] at e; exact key _ (by decide) e
      rw [if_neg q] at e
      by_cases q : c = 36
      · rw [if_pos q] at e; exact key _ (by decide) e
      rw [if_neg q] at e
      by_cases q : c = 37
      · rw [if_pos q] at e; exact key _ (by decide) e
      rw [if_neg q] at e
      by_cases q : c = 42
      · rw [if_pos q] at e; exact key _ (by decide) e
      rw [if_neg q] at e
      by_cases q : c = 43
      · rw [if_pos q] at e; exact key _ (by decide) e
      rw [if_neg q] at e
      by_cases q : c = 45
      · rw [if_pos q] at e; exact key _ (by decide) e
      rw [if_neg q] at e
      by_cases q : c = 46
      · rw [if_pos q] at e; exact key _ (by decide) e
      rw [if_neg q] at e
      by_cases q : c = 47
      · rw [if_pos q] at e; exact key _ (by decide) e
      rw [if_neg q] at e
      by_cases q : c = 58
      · rw [if_pos q] at e; exact key _ (by decide) e
      rw [if_neg q] at e
      exact Or.inl e
/-- a character's value in its kind; the bits of the count -/
def cvN (kd c : Nat) : Nat := if kd = 1 then c - 48 else if kd = 2 then pnN c else c
def gwd (kd : Nat) : Nat := if kd = 1 then 10 else if kd = 2 then 9 else 8
/-- the value of a group of j characters from k on -/
def gvL (kd : Nat) (t : Nat → Nat) (k : Nat) : Nat → Nat
  | 0 => 0
  | j + 1 => gva kd * gvL kd t k j + cvN kd (t (k + j))
theorem gvL_1 {t : Nat → Nat} {k : Nat} : ∀ j, (∀ i, i < j → 48 ≤ t (k + i) ∧ t (k + i) ≤ 57) → gvL 1 t k j < 10 ^ j := by
  intro j
  induction j with
  | zero => intro _; show 0 < 1; omega
  | succ j ih =>
    intro h
    have h1 := ih (fun i hi => h i (by omega))
    have h2 := h j (by omega)
    show 10 * gvL 1 t k j + (t (k + j) - 48) < 10 ^ (j + 1)
    rw [Nat.pow_succ]
    omega
/-- what is put of the text from its place k on: how many bits then, and which; n is enough -/
def ptW (t : Nat → Nat) (ty kd : Nat) : Nat → Nat → Nat → (Nat → Nat) → Nat × (Nat → Nat)
  | 0, _, m, b => (m, b)
  | n + 1, k, m, b => if k < ty then ptW t ty kd n (k + min (ty - k) (gmo kd)) (m + gsz kd (min (ty - k) (gmo kd))) (ptL b m (gvL kd t k (min (ty - k) (gmo kd))) (gsz kd (min (ty - k) (gmo kd))) (gsz kd (min (ty - k) (gmo kd)))) else (m, b)
theorem ptW_z {t : Nat → Nat} {ty kd n k m : Nat} {b : Nat → Nat} (h : ty ≤ k) : ptW t ty kd n k m b = (m, b) := by
  cases n with
  | zero => rfl
  | succ n => rw [ptW, if_neg (by omega)]
theorem ptW_s {t : Nat → Nat} {ty kd n k m x z v y : Nat} {b : Nat → Nat} (h : k < ty) (hx : min (ty - k) (gmo kd) = x) (hz : gsz kd x = z) (hv : gvL kd t k x = v) (hy : y = k + x ∨ (ty ≤ k + x ∧ ty ≤ y)) : ptW t ty kd (n + 1) k m b = ptW t ty kd n y (m + z) (ptL b m v z z) := by
  subst hx; subst hz; subst hv
  rw [ptW, if_pos h]
  rcases hy with e | ⟨e1, e2⟩
  · rw [e]
  · rw [ptW_z e1, ptW_z e2]
/-- all that putText puts -/
def pxR (kd : Nat) (t : Nat → Nat) (ty : Nat) (b : Nat → Nat) : Nat × (Nat → Nat) := ptW t ty kd ty 0 (0 + 4 + gwd kd) (ptL (ptL b 0 kd 4 4) (0 + 4) ty (gwd kd) (gwd kd))
theorem ptL_le {b : Nat → Nat} {m v n : Nat} (hb : ∀ j, j < 208 → b j ≤ 1) : ∀ i, ∀ j, j < 208 → ptL b m v n i j ≤ 1 := by
  intro i
  induction i with
  | zero => exact hb
  | succ i ih =>
    intro j hj
    rw [ptL]
    split
    · unfold va_up
      split
      · have := Nat.mod_lt (v / 2 ^ (n - (i + 1))) (show 0 < 2 by decide); omega
      · exact ih j hj
    · exact ih j hj
theorem gsz_le (kd x : Nat) : gsz kd x ≤ 11 := by unfold gsz; (repeat' split) <;> omega
theorem gmo_in (kd : Nat) : 1 ≤ gmo kd ∧ gmo kd ≤ 3 := by unfold gmo; (repeat' split) <;> omega
theorem ptW_in {t : Nat → Nat} {ty kd : Nat} : ∀ n k m b, (∀ j, j < 208 → b j ≤ 1) → (∀ j, j < 208 → (ptW t ty kd n k m b).2 j ≤ 1) ∧ m ≤ (ptW t ty kd n k m b).1 ∧ (ptW t ty kd n k m b).1 ≤ m + 11 * (ty - k) := by
  intro n
  induction n with
  | zero => intro k m b hb; exact ⟨hb, Nat.le_refl _, Nat.le_add_right _ _⟩
  | succ n ih =>
    intro k m b hb
    rw [ptW]
    split
    · have h1 := gmo_in kd
      have h2 := gsz_le kd (min (ty - k) (gmo kd))
      have h3 := ih (k + min (ty - k) (gmo kd)) (m + gsz kd (min (ty - k) (gmo kd))) (ptL b m (gvL kd t k (min (ty - k) (gmo kd))) (gsz kd (min (ty - k) (gmo kd))) (gsz kd (min (ty - k) (gmo kd)))) (ptL_le hb _)
      exact ⟨h3.1, by omega, by omega⟩
    · exact ⟨hb, Nat.le_refl _, Nat.le_add_right _ _⟩
theorem pxR_in {kd ty : Nat} {t b : Nat → Nat} (hty : ty ≤ 45) (hb : ∀ j, j < 208 → b j ≤ 1) : (∀ j, j < 208 → (pxR kd t ty b).2 j ≤ 1) ∧ (pxR kd t ty b).1 ≤ 600 := by
  have h1 : gwd kd ≤ 10 := by unfold gwd; (repeat' split) <;> omega
  have h2 := ptW_in (t := t) (ty := ty) (kd := kd) ty 0 (0 + 4 + gwd kd) (ptL (ptL b 0 kd 4 4) (0 + 4) ty (gwd kd) (gwd kd)) (ptL_le (ptL_le hb _) _)
  exact ⟨h2.1, by have := h2.2.2; unfold pxR; omega⟩
/-- the kind found says what all characters are -/
theorem kdL_in (t : Nat → Nat) : ∀ k, (kdL t k = 1 ∨ kdL t k = 2 ∨ kdL t k = 4) ∧ (kdL t k = 1 → ∀ j, j < k → 0 ≤ plI (t j) ∧ plI (t j) ≤ nI 9) ∧ (kdL t k = 2 → ∀ j, j < k → 0 ≤ plI (t j)) := by
  intro k
  induction k with
  | zero => exact ⟨Or.inl rfl, fun _ j h => absurd h (Nat.not_lt_zero _), fun _ j h => absurd h (Nat.not_lt_zero _)⟩
  | succ k ih =>
    by_cases h1 : 0 ≤ plI (t k)
    · by_cases h2 : plI (t k) ≤ nI 9
      · rw [kdL_d h1 h2]
        refine ⟨ih.1, fun e => lt_s (ih.2.1 e) ⟨h1, h2⟩, fun e => lt_s (ih.2.2 e) h1⟩
      · by_cases h3 : kdL t k = 1
        · rw [kdL_b h1 h2 h3]
          refine ⟨Or.inr (Or.inl rfl), fun e => absurd e (by decide), fun _ => lt_s (fun j hj => (ih.2.1 h3 j hj).1) h1⟩
        · rw [kdL_c h1 h2 h3]
          exact ⟨ih.1, fun e => absurd e h3, fun e => lt_s (ih.2.2 e) h1⟩
    · rw [kdL_a h1]
      exact ⟨Or.inr (Or.inr rfl), fun e => absurd e (by decide), fun e => absurd e (by decide)⟩
theorem plI_dg {c : Nat} (h1 : 0 ≤ plI c) (h2 : plI c ≤ nI 9) : 48 ≤ c ∧ c ≤ 57 := by
  rcases Classical.em (48 ≤ c ∧ c ≤ 57) with h | h
  · exact h
  exfalso
  by_cases h3 : 65 ≤ c ∧ c ≤ 90
  · rw [plI_b h3.1 h3.2, nI_leI (by omega) (by decide)] at h2
    omega
  · have e : plI c = if c = 32 then nI 36 else if c = 36 then nI 37 else if c = 37 then nI 38 else if c = 42 then nI 39 else if c = 43 then nI 40 else
        if c = 45 then nI 41 else if c = 46 then nI 42 else if c = 47 then nI 43 else if c = 58 then nI 44 else -1 := by
      unfold plI
      rw [if_neg h, if_neg h3]
    rw [e] at h1 h2
    clear e
    revert h1 h2
    (repeat' split) <;> decide
theorem plI_n {c : Nat} (h : 0 ≤ plI c) : plI c = nI (pnN c) ∧ pnN c < 45 := by
  rcases plI_lt c with e | e
  · rw [e] at h; exact absurd h (by decide)
  · exact e
end SPEC_H12
