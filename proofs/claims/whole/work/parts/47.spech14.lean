section SPEC_H14
/-- the first d below n with f d not below x; n where there is none -/
def fzN (f : Nat → Nat) (x : Nat) : Nat → Nat
  | 0 => 0
  | n + 1 => if fzN f x n < n then fzN f x n else if f n < x then n + 1 else n
theorem fzN_le (f : Nat → Nat) (x : Nat) : ∀ n, fzN f x n ≤ n := by
  intro n
  induction n with
  | zero => exact Nat.le_refl 0
  | succ n ih =>
    rw [fzN]
    (repeat' split) <;> omega
theorem fzN_lt (f : Nat → Nat) (x : Nat) : ∀ n d, d < fzN f x n → f d < x := by
  intro n
  induction n with
  | zero => intro d h; exact absurd h (Nat.not_lt_zero d)
  | succ n ih =>
    intro d h
    have hle := fzN_le f x n
    rw [fzN] at h
    by_cases h1 : fzN f x n < n
    · rw [if_pos h1] at h; exact ih d h
    · rw [if_neg h1] at h
      by_cases h2 : f n < x
      · rw [if_pos h2] at h
        by_cases h3 : d = n
        · rw [h3]; exact h2
        · exact ih d (by omega)
      · rw [if_neg h2] at h; exact ih d (by omega)
theorem fzN_at (f : Nat → Nat) (x : Nat) : ∀ n, fzN f x n < n → ¬ f (fzN f x n) < x := by
  intro n
  induction n with
  | zero => intro h; exact absurd h (Nat.not_lt_zero _)
  | succ n ih =>
    intro h
    rw [fzN] at h ⊢
    by_cases h1 : fzN f x n < n
    · rw [if_pos h1]; exact ih h1
    · rw [if_neg h1] at h ⊢
      by_cases h2 : f n < x
      · rw [if_pos h2] at h; omega
      · rw [if_neg h2]; exact h2
variable (bt tr sy sl yd sp : Nat → Nat) (x y : Nat)
def mnA : Nat := fzN (fun d => pvW (slI (hkI sy yd x x) x d) x d (x - d) d) x x
def mnS : Nat → Nat := soL sl (slI (hkI sy yd x x) x x) x x
def mnP : Nat → Nat := spA sp (mnS sy sl yd x) x 26
def mnV : Nat → Nat := vdI (slI (hkI sy yd x x) x x) (mnP sy sl yd sp x) yd x x
def mnB : Nat := fzN (fun d => pvW (slI (mnV sy sl yd sp x) x d) x d (x - d) d) x x
def mnO : Nat → Nat := soL (mnS sy sl yd x) (slI (mnV sy sl yd sp x) x x) x x
/-- one try of mend: answer, tried, system, solution, spot -/
def mnR : Nat × (Nat → Nat) × (Nat → Nat) × (Nat → Nat) × (Nat → Nat) :=
  if x = 0 then (irL (cpL tr bt 26) y, cpL tr bt 26, sy, sl, sp)
  else if mnA sy yd x < x then (0, cpL tr bt 26, slI (hkI sy yd x x) x (mnA sy yd x), sl, sp)
  else if ¬ spC (mnS sy sl yd x) x 26 = x then (0, cpL tr bt 26, slI (hkI sy yd x x) x x, mnS sy sl yd x, mnP sy sl yd sp x)
  else if mnB sy sl yd sp x < x then (0, cpL tr bt 26, slI (mnV sy sl yd sp x) x (mnB sy sl yd sp x), mnS sy sl yd x, mnP sy sl yd sp x)
  else (irL (mdL (cpL tr bt 26) (mnP sy sl yd sp x) (mnO sy sl yd sp x) x) y, mdL (cpL tr bt 26) (mnP sy sl yd sp x) (mnO sy sl yd sp x) x, slI (mnV sy sl yd sp x) x x, mnO sy sl yd sp x, mnP sy sl yd sp x)
variable {bt tr sy sl yd sp x y}
theorem mnR_0 : mnR bt tr sy sl yd sp 0 y = (irL (cpL tr bt 26) y, cpL tr bt 26, sy, sl, sp) := if_pos rfl
theorem mnR_a (h0 : 0 < x) (h1 : mnA sy yd x < x) : mnR bt tr sy sl yd sp x y = (0, cpL tr bt 26, slI (hkI sy yd x x) x (mnA sy yd x), sl, sp) := by
  rw [mnR, if_neg (by omega), if_pos h1]
theorem mnR_b (h0 : 0 < x) (h1 : ¬ mnA sy yd x < x) (h2 : ¬ spC (mnS sy sl yd x) x 26 = x) : mnR bt tr sy sl yd sp x y = (0, cpL tr bt 26, slI (hkI sy yd x x) x x, mnS sy sl yd x, mnP sy sl yd sp x) := by
  rw [mnR, if_neg (by omega), if_neg h1, if_pos h2]
theorem mnR_c (h0 : 0 < x) (h1 : ¬ mnA sy yd x < x) (h2 : spC (mnS sy sl yd x) x 26 = x) (h3 : mnB sy sl yd sp x < x) : mnR bt tr sy sl yd sp x y = (0, cpL tr bt 26, slI (mnV sy sl yd sp x) x (mnB sy sl yd sp x), mnS sy sl yd x, mnP sy sl yd sp x) := by
  rw [mnR, if_neg (by omega), if_neg h1, if_neg (fun z => z h2), if_pos h3]
theorem mnR_d (h0 : 0 < x) (h1 : ¬ mnA sy yd x < x) (h2 : spC (mnS sy sl yd x) x 26 = x) (h3 : ¬ mnB sy sl yd sp x < x) : mnR bt tr sy sl yd sp x y = (irL (mdL (cpL tr bt 26) (mnP sy sl yd sp x) (mnO sy sl yd sp x) x) y, mdL (cpL tr bt 26) (mnP sy sl yd sp x) (mnO sy sl yd sp x) x, slI (mnV sy sl yd sp x) x x, mnO sy sl yd sp x, mnP sy sl yd sp x) := by
  rw [mnR, if_neg (by omega), if_neg h1, if_neg (fun z => z h2), if_neg h3]
/-- the pivots, out of the first that is wanting -/
theorem mnA_p (d : Nat) (h : d < mnA sy yd x) : pvW (slI (hkI sy yd x x) x d) x d (x - d) d < x := fzN_lt (fun d => pvW (slI (hkI sy yd x x) x d) x d (x - d) d) x x d h
theorem mnA_n (h : mnA sy yd x < x) : pvW (slI (hkI sy yd x x) x (mnA sy yd x)) x (mnA sy yd x) (x - mnA sy yd x) (mnA sy yd x) = x := by
  have h1 := fzN_at _ _ _ h
  have h2 := (pvW_le (s := slI (hkI sy yd x x) x (mnA sy yd x)) (x := x) (c := mnA sy yd x) (x - mnA sy yd x) (mnA sy yd x) (by omega)).2
  exact Nat.le_antisymm h2 (Nat.not_lt.mp h1)
theorem mnA_f (h : ¬ mnA sy yd x < x) (d : Nat) (hd : d < x) : pvW (slI (hkI sy yd x x) x d) x d (x - d) d < x := mnA_p d (by omega)
theorem mnB_p (d : Nat) (h : d < mnB sy sl yd sp x) : pvW (slI (mnV sy sl yd sp x) x d) x d (x - d) d < x := fzN_lt (fun d => pvW (slI (mnV sy sl yd sp x) x d) x d (x - d) d) x x d h
theorem mnB_n (h : mnB sy sl yd sp x < x) : pvW (slI (mnV sy sl yd sp x) x (mnB sy sl yd sp x)) x (mnB sy sl yd sp x) (x - mnB sy sl yd sp x) (mnB sy sl yd sp x) = x := by
  have h1 := fzN_at _ _ _ h
  have h2 := (pvW_le (s := slI (mnV sy sl yd sp x) x (mnB sy sl yd sp x)) (x := x) (c := mnB sy sl yd sp x) (x - mnB sy sl yd sp x) (mnB sy sl yd sp x) (by omega)).2
  exact Nat.le_antisymm h2 (Nat.not_lt.mp h1)
theorem mnB_f (h : ¬ mnB sy sl yd sp x < x) (d : Nat) (hd : d < x) : pvW (slI (mnV sy sl yd sp x) x d) x d (x - d) d < x := mnB_p d (by omega)
theorem mnH_lt (hx : x ≤ 8) (hs : lt256 72 sy) (hy : lt256 17 yd) (d : Nat) (hd : d ≤ mnA sy yd x) : lt256 72 (slI (hkI sy yd x x) x d) :=
  slI_lt hx (hkI_lt hx hs hy x (Nat.le_refl _)) d (Nat.le_trans hd (fzN_le _ _ _)) (fun d9 h9 => mnA_p d9 (by omega))
theorem mnH_x (hx : x ≤ 8) (hs : lt256 72 sy) (hy : lt256 17 yd) (h : ¬ mnA sy yd x < x) : lt256 72 (slI (hkI sy yd x x) x x) := mnH_lt hx hs hy x (by omega)
theorem mnS_lt (hx : x ≤ 8) (hs : lt256 72 sy) (hy : lt256 17 yd) (h : ¬ mnA sy yd x < x) : lt256 x (mnS sy sl yd x) := soL_lt hx (mnH_x hx hs hy h)
theorem mnV_lt (hx : x ≤ 8) (hs : lt256 72 sy) (hy : lt256 17 yd) (h : ¬ mnA sy yd x < x) : lt256 72 (mnV sy sl yd sp x) := vdI_lt hx (mnH_x hx hs hy h) hy x (Nat.le_refl _)
theorem mnW_lt (hx : x ≤ 8) (hs : lt256 72 sy) (hy : lt256 17 yd) (h : ¬ mnA sy yd x < x) (d : Nat) (hd : d ≤ mnB sy sl yd sp x) : lt256 72 (slI (mnV sy sl yd sp x) x d) :=
  slI_lt hx (mnV_lt hx hs hy h) d (Nat.le_trans hd (fzN_le _ _ _)) (fun d9 h9 => mnB_p d9 (by omega))
theorem mnO_lt (hx : x ≤ 8) (hs : lt256 72 sy) (hy : lt256 17 yd) (h : ¬ mnA sy yd x < x) (h3 : ¬ mnB sy sl yd sp x < x) : lt256 x (mnO sy sl yd sp x) := soL_lt hx (mnW_lt hx hs hy h x (by omega))
theorem mnR_in (hx : x ≤ 8) (hb : lt256 26 bt) (hs : lt256 72 sy) (hy : lt256 17 yd) : (mnR bt tr sy sl yd sp x y).1 ≤ 1 ∧ lt256 26 (mnR bt tr sy sl yd sp x y).2.1 ∧ lt256 72 (mnR bt tr sy sl yd sp x y).2.2.1 := by
  rcases Nat.eq_zero_or_pos x with h0 | h0
  · subst h0; rw [mnR_0]; exact ⟨irL_le _ _, cp_lt tr hb, hs⟩
  · by_cases h1 : mnA sy yd x < x
    · rw [mnR_a h0 h1]; exact ⟨Nat.zero_le 1, cp_lt tr hb, mnH_lt hx hs hy _ (Nat.le_refl _)⟩
    · by_cases h2 : spC (mnS sy sl yd x) x 26 = x
      · by_cases h3 : mnB sy sl yd sp x < x
        · rw [mnR_c h0 h1 h2 h3]; exact ⟨Nat.zero_le 1, cp_lt tr hb, mnW_lt hx hs hy h1 _ (Nat.le_refl _)⟩
        · rw [mnR_d h0 h1 h2 h3]; exact ⟨irL_le _ _, mdL_lt (cp_lt tr hb) (mnO_lt hx hs hy h1 h3) x (Nat.le_refl _), mnW_lt hx hs hy h1 _ (by omega)⟩
      · rw [mnR_b h0 h1 h2]; exact ⟨Nat.zero_le 1, cp_lt tr hb, mnH_x hx hs hy h1⟩
theorem mnR_fit (hx : x ≤ 8) (hb : lt256 26 bt) (hs : lt256 72 sy) (hy : lt256 17 yd) : narrow .boolean (.int (nI (mnR bt tr sy sl yd sp x y).1)) = .int (nI (mnR bt tr sy sl yd sp x y).1) := by
  rcases (show (mnR bt tr sy sl yd sp x y).1 = 0 ∨ (mnR bt tr sy sl yd sp x y).1 = 1 by have := (mnR_in (tr := tr) (sl := sl) (sp := sp) (y := y) hx hb hs hy).1; omega) with h | h <;> rw [h] <;> decide
/-- the tries, from w wrong ones on: how many were wrong, tried, system, solution, spot -/
def mnW (bt yd : Nat → Nat) (y : Nat) : Nat → Nat → (Nat → Nat) → (Nat → Nat) → (Nat → Nat) → (Nat → Nat) → Nat × (Nat → Nat) × (Nat → Nat) × (Nat → Nat) × (Nat → Nat)
  | 0, w, tr, sy, sl, sp => (w, tr, sy, sl, sp)
  | n + 1, w, tr, sy, sl, sp => if y / 2 < w then (w, tr, sy, sl, sp) else if (mnR bt tr sy sl yd sp w y).1 = 0 then
      mnW bt yd y n (w + 1) (mnR bt tr sy sl yd sp w y).2.1 (mnR bt tr sy sl yd sp w y).2.2.1 (mnR bt tr sy sl yd sp w y).2.2.2.1 (mnR bt tr sy sl yd sp w y).2.2.2.2
      else (w, (mnR bt tr sy sl yd sp w y).2)
theorem mnW_z {n w : Nat} (h : y / 2 < w) : mnW bt yd y n w tr sy sl sp = (w, tr, sy, sl, sp) := by
  cases n with
  | zero => rfl
  | succ n => rw [mnW, if_pos h]
theorem mnW_e {n w : Nat} (h : w ≤ y / 2) (h2 : (mnR bt tr sy sl yd sp w y).1 ≠ 0) : mnW bt yd y (n + 1) w tr sy sl sp = (w, (mnR bt tr sy sl yd sp w y).2) := by
  rw [mnW, if_neg (by omega), if_neg h2]
theorem mnW_s {n w : Nat} (h : w ≤ y / 2) (h2 : (mnR bt tr sy sl yd sp w y).1 = 0) : mnW bt yd y (n + 1) w tr sy sl sp = mnW bt yd y n (w + 1) (mnR bt tr sy sl yd sp w y).2.1 (mnR bt tr sy sl yd sp w y).2.2.1 (mnR bt tr sy sl yd sp w y).2.2.2.1 (mnR bt tr sy sl yd sp w y).2.2.2.2 := by
  rw [mnW, if_neg (by omega), if_pos h2]
theorem mnW_in {bt yd : Nat → Nat} {y : Nat} (hy0 : y ≤ 17) (hb : lt256 26 bt) (hy : lt256 17 yd) : ∀ n w tr sy sl sp, lt256 26 tr → lt256 72 sy → lt256 26 (mnW bt yd y n w tr sy sl sp).2.1 ∧ lt256 72 (mnW bt yd y n w tr sy sl sp).2.2.1 ∧ (mnW bt yd y n w tr sy sl sp).1 ≤ max w (y / 2 + 1) := by
  intro n
  induction n with
  | zero => intro w tr sy sl sp h1 h2; exact ⟨h1, h2, Nat.le_max_left _ _⟩
  | succ n ih =>
    intro w tr sy sl sp h1 h2
    by_cases h : y / 2 < w
    · rw [mnW_z h]; exact ⟨h1, h2, Nat.le_max_left _ _⟩
    · have hi := mnR_in (tr := tr) (sl := sl) (sp := sp) (x := w) (y := y) (by omega) hb h2 hy
      by_cases h3 : (mnR bt tr sy sl yd sp w y).1 = 0
      · rw [mnW_s (by omega) h3]
        have := ih (w + 1) _ _ (mnR bt tr sy sl yd sp w y).2.2.2.1 (mnR bt tr sy sl yd sp w y).2.2.2.2 hi.2.1 hi.2.2
        exact ⟨this.1, this.2.1, Nat.le_trans this.2.2 (by omega)⟩
      · rw [mnW_e (by omega) h3]; exact ⟨hi.2.1, hi.2.2, Nat.le_max_left _ _⟩
/-- the sums at the first k powers -/
def snL (yd t : Nat → Nat) : Nat → Nat → Nat
  | 0 => yd
  | k + 1 => va_up (snL yd t k) k (hrn t (pw k) 26)
theorem snL_lt {yd t : Nat → Nat} (hy : lt256 17 yd) (ht : lt256 26 t) : ∀ k, lt256 17 (snL yd t k) := by
  intro k
  induction k with
  | zero => exact hy
  | succ k ih => exact lt_up ih (hrn_lt ht (pw_lt k) 26 (by omega))
theorem rtW_inv (tr : Nat → Nat) (dt : Nat) (hdt : dt ≤ 19) : ∀ n p f r, 10 * f ≤ 3 * p → p ≤ 8 * dt → (rtW tr dt n p f r).2.1 ≤ 8 * dt ∧ 10 * (rtW tr dt n p f r).2.2.1 ≤ 3 * (rtW tr dt n p f r).2.1 := by
  intro n
  induction n with
  | zero => intro p f r h1 h2; exact ⟨h2, h1⟩
  | succ n ih =>
    intro p f r h1 h2
    rw [rtW]
    split
    · exact ⟨h2, h1⟩
    · split
      · exact ⟨by show p + 4 ≤ _; omega, by show 10 * f ≤ 3 * (p + 4); omega⟩
      · split
        · exact ⟨by show p + 4 ≤ _; omega, by show 10 * f ≤ 3 * (p + 4); omega⟩
        · rename_i hk
          have hk2 : nxL tr p 4 = 1 ∨ nxL tr p 4 = 2 ∨ nxL tr p 4 = 4 := Classical.not_not.mp hk
          split
          · exact ⟨by show p + 4 ≤ _; omega, by show 10 * f ≤ 3 * (p + 4); omega⟩
          · have hc := chW_inv tr (nxL tr p 4) dt hdt hk2 (nxL tr (p + 4) (wdN (nxL tr p 4))) (nxL tr (p + 4) (wdN (nxL tr p 4))) (p + 4 + wdN (nxL tr p 4)) f r (by omega) (by omega)
            split
            · exact ⟨hc.1, hc.2.1⟩
            · exact ih _ _ _ hc.2.1 hc.1
theorem zrL_at {b : Nat → Nat} : ∀ k j, j < k → zrL b k j = 0 := by
  intro k
  induction k with
  | zero => intro j h; omega
  | succ k ih =>
    intro j h
    by_cases e : j = k
    · exact if_pos e
    · exact (show zrL b (k + 1) j = zrL b k j from if_neg e).trans (ih j (by omega))
/-- the bytes picked up are bytes -/
theorem tkL_lt {b g da : Nat → Nat} {mk : Nat} (hg : ∀ j, j < 441 → g j ≤ 1) (hd : ∀ j, j < 208 → da j < 441) : ∀ k, k ≤ 208 → ∀ j, j < 26 → tkL (zrL b 26) g da mk k j < 2 ^ min (k - 8 * j) 8 := by
  intro k
  induction k with
  | zero =>
    intro _ j hj
    show zrL b 26 j < _
    rw [zrL_at 26 j hj]
    exact Nat.two_pow_pos _
  | succ k ih =>
    intro hk j hj
    have i := ih (by omega) j hj
    rw [tkL]
    unfold va_up
    by_cases e : j = k / 8
    · rw [if_pos e]
      have h1 : min (k + 1 - 8 * j) 8 = min (k - 8 * j) 8 + 1 := by omega
      have hb : (if tnN mk (da k / 21) (da k % 21) = 0 then g (da k) else 1 - g (da k)) ≤ 1 := by
        have := hg (da k) (hd k (by omega))
        split <;> omega
      rw [h1, Nat.pow_succ, ← e]
      omega
    · rw [if_neg e]
      exact Nat.lt_of_lt_of_le i (Nat.pow_le_pow_right (by decide) (by omega))
theorem tkB_lt {b g da : Nat → Nat} {mk : Nat} (hg : ∀ j, j < 441 → g j ≤ 1) (hd : ∀ j, j < 208 → da j < 441) : lt256 26 (tkL (zrL b 26) g da mk 208) := by
  intro j hj
  show _ < 2 ^ 8
  exact Nat.lt_of_lt_of_le (tkL_lt hg hd 208 (Nat.le_refl _) j hj) (Nat.pow_le_pow_right (by decide) (by omega))
/-- the copy that has a form -/
def rfN (g fo : Nat → Nat) : Nat := if foL g fo 0 32 < 32 then foL g fo 0 32 else foL g fo 1 32
def rgN (g fo : Nat → Nat) : Nat := if foL g fo 0 32 < 32 then 1 else 0
theorem foL_in (g fo : Nat → Nat) (c : Nat) : ∀ k, foL g fo c k < k ∨ foL g fo c k = 4294967295 := by
  intro k
  induction k with
  | zero => exact Or.inr rfl
  | succ k ih =>
    rw [foL]
    split
    · exact Or.inl (Nat.lt_succ_self k)
    · rcases ih with h | h
      · exact Or.inl (by omega)
      · exact Or.inr h
theorem foL_no {g fo : Nat → Nat} {c : Nat} (h : ¬ foL g fo c 32 < 32) : foL g fo c 32 = 4294967295 := (foL_in g fo c 32).resolve_left h
/-- an equation that is kept out of sight -/
def EqN (a b : Nat) : Prop := a = b
end SPEC_H14
