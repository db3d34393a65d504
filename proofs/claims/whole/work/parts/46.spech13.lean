section SPEC_H13
theorem nx_ltm1 {a : Nat} (h : a < 2 ^ 31) : ¬ nI a < -1 := fun q => nI_pos h (Int32.lt_trans q (by decide))
theorem ckN_in (v : Nat) : 7 ≤ ckN v ∧ ckN v ≤ 17 := by unfold ckN; (repeat' split) <;> omega
/-- zeros up to a whole byte -/
def pzW : Nat → Nat → (Nat → Nat) → Nat × (Nat → Nat)
  | 0, m, b => (m, b)
  | n + 1, m, b => if m % 8 = 0 then (m, b) else pzW n (m + 1) (ptL b m 0 1 1)
theorem pzW_z {n m : Nat} {b : Nat → Nat} (h : m % 8 = 0) : pzW n m b = (m, b) := by
  cases n with
  | zero => rfl
  | succ n => rw [pzW, if_pos h]
theorem pzW_s {n m : Nat} {b : Nat → Nat} (h : m % 8 ≠ 0) : pzW (n + 1) m b = pzW n (m + 1) (ptL b m 0 1 1) := by rw [pzW, if_neg h]
/-- the fillers -/
def pfW (dt : Nat) : Nat → Nat → Nat → (Nat → Nat) → Nat × (Nat → Nat)
  | 0, _, m, b => (m, b)
  | n + 1, k, m, b => if m < 8 * dt then pfW dt n (k + 1) (m + 8) (ptL b m (if k % 2 = 0 then 236 else 17) 8 8) else (m, b)
theorem pfW_z {dt n k m : Nat} {b : Nat → Nat} (h : 8 * dt ≤ m) : pfW dt n k m b = (m, b) := by
  cases n with
  | zero => rfl
  | succ n => rw [pfW, if_neg (by omega)]
theorem pfW_s {dt n k m v : Nat} {b : Nat → Nat} (h : m < 8 * dt) (hv : (if k % 2 = 0 then 236 else 17) = v) : pfW dt (n + 1) k m b = pfW dt n (k + 1) (m + 8) (ptL b m v 8 8) := by
  subst hv
  rw [pfW, if_pos h]
theorem pzW_in : ∀ n m b, (∀ j, j < 208 → b j ≤ 1) → (∀ j, j < 208 → (pzW n m b).2 j ≤ 1) ∧ ((8 - m % 8) % 8 ≤ n → (pzW n m b).1 = m + (8 - m % 8) % 8) := by
  intro n
  induction n with
  | zero => intro m b hb; exact ⟨hb, fun h => by show m = _; omega⟩
  | succ n ih =>
    intro m b hb
    by_cases h : m % 8 = 0
    · rw [pzW_z h]; exact ⟨hb, fun h => by show m = _; omega⟩
    · rw [pzW_s h]
      have h2 := ih (m + 1) (ptL b m 0 1 1) (ptL_le hb _)
      exact ⟨h2.1, fun q => by rw [h2.2 (by omega)]; omega⟩
theorem pfW_in {dt : Nat} : ∀ n k m b, (∀ j, j < 208 → b j ≤ 1) → (∀ j, j < 208 → (pfW dt n k m b).2 j ≤ 1) := by
  intro n
  induction n with
  | zero => intro k m b hb; exact hb
  | succ n ih =>
    intro k m b hb
    rw [pfW]
    split
    · exact ih _ _ _ (ptL_le hb _)
    · exact hb
/-- end, zeros and fillers behind the first m bits -/
def flR (dt m : Nat) (b : Nat → Nat) : Nat × (Nat → Nat) :=
  pfW dt 27 0 (pzW 8 (m + min (8 * dt - m) 4) (ptL b m 0 (min (8 * dt - m) 4) (min (8 * dt - m) 4))).1 (pzW 8 (m + min (8 * dt - m) 4) (ptL b m 0 (min (8 * dt - m) 4) (min (8 * dt - m) 4))).2
theorem flR_le {dt m : Nat} {b : Nat → Nat} (hb : ∀ j, j < 208 → b j ≤ 1) : ∀ j, j < 208 → (flR dt m b).2 j ≤ 1 := pfW_in _ _ _ _ (pzW_in _ _ _ (ptL_le hb _)).1
/-- bits into bytes -/
def pkJ (b s : Nat → Nat) (k : Nat) : Nat → Nat → Nat
  | 0 => b
  | j + 1 => va_up (pkJ b s k j) k (2 * pkJ b s k j k + s (8 * k + j))
def pkI (b s : Nat → Nat) : Nat → Nat → Nat
  | 0 => b
  | k + 1 => pkJ (va_up (pkI b s k) k 0) s k 8
theorem pkJ_in {b s : Nat → Nat} {k : Nat} (hb : lt256 26 b) (h0 : b k = 0) (hs : ∀ j, j < 208 → s j ≤ 1) (hk : k < 26) : ∀ j, j ≤ 8 → lt256 26 (pkJ b s k j) ∧ pkJ b s k j k < 2 ^ j := by
  intro j
  induction j with
  | zero => intro _; exact ⟨hb, by show b k < 1; omega⟩
  | succ j ih =>
    intro hj
    have h1 := ih (by omega)
    have h2 := hs (8 * k + j) (by omega)
    have h3 : 2 ^ (j + 1) ≤ 2 ^ 8 := Nat.pow_le_pow_right (by decide) hj
    have h4 : 2 * pkJ b s k j k + s (8 * k + j) < 2 ^ (j + 1) := by rw [Nat.pow_succ]; omega
    refine ⟨lt_up h1.1 (Nat.lt_of_lt_of_le h4 h3), ?_⟩
    show va_up (pkJ b s k j) k (2 * pkJ b s k j k + s (8 * k + j)) k < 2 ^ (j + 1)
    rw [va_up_self]
    exact h4
theorem pkI_lt {b s : Nat → Nat} (hb : lt256 26 b) (hs : ∀ j, j < 208 → s j ≤ 1) : ∀ k, k ≤ 26 → lt256 26 (pkI b s k) := by
  intro k
  induction k with
  | zero => intro _; exact hb
  | succ k ih => intro hk; exact (pkJ_in (lt_up (ih (by omega)) (by decide)) (va_up_self _ _ _) hs (by omega) 8 (by omega)).1
/-- tried and bytes behind the check of the bits s -/
def wbT (bt tr sy s : Nat → Nat) (ck : Nat) : Nat → Nat := dvI (ckA tr (pkI bt s (26 - ck)) ck 26) (gnI (ckS sy 18) ck) ck (26 - ck)
def wbB (bt tr sy s : Nat → Nat) (ck : Nat) : Nat → Nat := cbL (pkI bt s (26 - ck)) (wbT bt tr sy s ck) (26 - ck) ck
theorem cbL_lt {b t : Nat → Nat} {n : Nat} (hb : lt256 26 b) (ht : lt256 26 t) : ∀ q, n + q ≤ 26 → lt256 26 (cbL b t n q) := by
  intro q
  induction q with
  | zero => intro _; exact hb
  | succ q ih => intro h; exact lt_up (ih (by omega)) (ht _ (by omega))
theorem wbB_lt {bt tr sy s : Nat → Nat} {ck : Nat} (hc : ck ≤ 17) (hb : lt256 26 bt) (hs : ∀ j, j < 208 → s j ≤ 1) : lt256 26 (wbB bt tr sy s ck) := by
  have h1 := pkI_lt hb hs (26 - ck) (by omega)
  exact cbL_lt h1 (dvI_lt (ckA_lt tr h1) (gnI_lt (ckS_lt sy) ck hc) (26 - ck) (by omega)) ck (by omega)
/-- a drawing -/
def drN (so fo da bt : Nat → Nat) (lv mk : Nat) (d : Nat → Nat) : Nat → Nat := dwC (dwB (dwA d so 441) fo (fmN lv mk) 30) da bt mk 208
theorem fxI_le1 (i j : Nat) : fxI i j ≤ 1 := by unfold fxI; split <;> omega
theorem fxA_le1 (r d : Nat) : fxA r d ≤ 1 := by
  unfold fxA; (repeat' split) <;> first | omega | exact fxI_le1 _ _
theorem up_le1 {n : Nat} {f : Nat → Nat} {k v : Nat} (h : ∀ j, j < n → f j ≤ 1) (hv : v ≤ 1) : ∀ j, j < n → va_up f k v j ≤ 1 := by
  intro j hj
  unfold va_up
  split
  · exact hv
  · exact h j hj
theorem dwA_le (d so : Nat → Nat) : ∀ k j, j < k → dwA d so k j ≤ 1 := by
  intro k
  induction k with
  | zero => intro j h; omega
  | succ k ih =>
    refine fun j h => ?_
    show va_up (dwA d so k) k (if so k = 1 then fxA (k / 21) (k % 21) else 0) j ≤ 1
    have := fxA_le1 (k / 21) (k % 21)
    unfold va_up
    split
    · split <;> omega
    · exact ih j (by omega)
theorem dwB_le {d fo : Nat → Nat} {f : Nat} (h : ∀ j, j < 441 → d j ≤ 1) : ∀ k, ∀ j, j < 441 → dwB d fo f k j ≤ 1 := by
  intro k
  induction k with
  | zero => exact h
  | succ k ih => exact up_le1 ih (by have := Nat.mod_lt (f / 2 ^ (14 - k % 15)) (show 0 < 2 by decide); omega)
theorem dwC_le {d da bt : Nat → Nat} {mk : Nat} (h : ∀ j, j < 441 → d j ≤ 1) : ∀ k, ∀ j, j < 441 → dwC d da bt mk k j ≤ 1 := by
  intro k
  induction k with
  | zero => exact h
  | succ k ih => exact up_le1 ih (by have := Nat.mod_lt (bt (k / 8) / 2 ^ (7 - k % 8)) (show 0 < 2 by decide); split <;> omega)
theorem drN_le (so fo da bt : Nat → Nat) (lv mk : Nat) (d : Nat → Nat) : ∀ j, j < 441 → drN so fo da bt lv mk d j ≤ 1 := dwC_le (dwB_le (dwA_le d so 441) 30) 208
/-- drawings one behind another -/
def drI (so fo da bt : Nat → Nat) (lv : Nat) (d : Nat → Nat) : Nat → Nat → Nat
  | 0 => d
  | k + 1 => drN so fo da bt lv k (drI so fo da bt lv d k)
def ugF (so fo da bt : Nat → Nat) (lv : Nat) (d : Nat → Nat) (k : Nat) : Nat := ugN (drI so fo da bt lv d (k + 1))
/-- the best so far, and how ugly it is, as the reference keeps them -/
def bmR (f : Nat → Nat) : Nat → Int32 × Int32
  | 0 => (-1, -1)
  | k + 1 => if (bmR f k).2 < 0 ∨ ¬ (bmR f k).2 ≤ nI (f k) then (nI k, nI (f k)) else bmR f k
theorem bmR_a {f : Nat → Nat} {k : Nat} (h : (bmR f k).2 < 0) : bmR f (k + 1) = (nI k, nI (f k)) := by rw [bmR, if_pos (Or.inl h)]
theorem bmR_b {f : Nat → Nat} {k : Nat} (h : ¬ (bmR f k).2 ≤ nI (f k)) : bmR f (k + 1) = (nI k, nI (f k)) := by rw [bmR, if_pos (Or.inr h)]
theorem bmR_c {f : Nat → Nat} {k : Nat} (h1 : ¬ (bmR f k).2 < 0) (h : (bmR f k).2 ≤ nI (f k)) : bmR f (k + 1) = bmR f k := by rw [bmR, if_neg (fun q => q.elim h1 (fun z => z h))]
/-- the first that is least -/
def bsN (f : Nat → Nat) : Nat → Nat
  | 0 => 0
  | k + 1 => if k = 0 ∨ f k < f (bsN f k) then k else bsN f k
theorem bsN_lt (f : Nat → Nat) : ∀ k, bsN f (k + 1) < k + 1 := by
  intro k
  induction k with
  | zero => rw [bsN, if_pos (Or.inl rfl)]; omega
  | succ k ih => rw [bsN]; split <;> omega
theorem bmR_bs {f : Nat → Nat} (hf : ∀ k, f k < 2 ^ 31) : ∀ k, bmR f (k + 1) = (nI (bsN f (k + 1)), nI (f (bsN f (k + 1)))) := by
  intro k
  induction k with
  | zero => rw [bmR_a (f := f) (k := 0) (show ((-1 : Int32)) < 0 by decide), bsN, if_pos (Or.inl rfl)]
  | succ k ih =>
    by_cases h : f (k + 1) < f (bsN f (k + 1))
    · rw [bmR_b (by rw [ih, nI_leI (hf _) (hf _)]; omega), bsN, if_pos (Or.inr h)]
    · rw [bmR_c (by rw [ih]; exact nI_pos (hf _)) (by rw [ih, nI_leI (hf _) (hf _)]; omega), ih]
      rw [show bsN f (k + 1 + 1) = bsN f (k + 1) from by rw [bsN, if_neg (fun q => q.elim (by omega) h)]]
theorem rnL_1le (f : Nat → Nat) : ∀ k, (rnL f k).1 ≤ 100 * k ∧ k ≤ 21 → k ≤ 21 → (rnL f k).1 ≤ 100 * k := fun _ h _ => h.1
theorem rnL_b (f : Nat → Nat) : ∀ k, k ≤ 21 → (rnL f k).1 ≤ 100 * k := by
  intro k
  induction k with
  | zero => intro _; exact Nat.le_refl 0
  | succ k ih =>
    intro hk
    have h1 := ih (by omega)
    have h2 := rnL_le f k
    rw [rnL]
    split
    · show (rnL f k).1 ≤ _; omega
    · show (rnL f k).1 + _ ≤ _
      split <;> omega
theorem mkL_b (f : Nat → Nat) : ∀ k, mkL f k ≤ 40 * k := by
  intro k
  induction k with
  | zero => exact Nat.le_refl 0
  | succ k ih => rw [mkL]; split <;> omega
theorem ulL_b (d : Nat → Nat) : ∀ k, ulL d k ≤ 2600 * k := by
  intro k
  induction k with
  | zero => exact Nat.le_refl 0
  | succ k ih =>
    have h1 := rnL_b (ilN d k) 21 (by omega)
    have h2 := mkL_b (ilN d k) 11
    show ulL d k + ((rnL (ilN d k) 21).1 + mkL (ilN d k) 11) ≤ _
    omega
theorem sqL_b (d : Nat → Nat) : ∀ k, sqL d k ≤ 2600 * 42 + 3 * k := by
  intro k
  induction k with
  | zero => exact ulL_b d 42
  | succ k ih => rw [sqL]; split <;> omega
theorem ugN_b {d : Nat → Nat} (h : ∀ j, j < 441 → d j ≤ 1) : ugN d < 2 ^ 31 := by
  have h1 := sqL_b d 441
  have h2 := dkL_le h 441 (by omega)
  unfold ugN
  split <;> omega
theorem ugF_b (so fo da bt : Nat → Nat) (lv : Nat) (d : Nat → Nat) (k : Nat) : ugF so fo da bt lv d k < 2 ^ 31 := ugN_b (drN_le _ _ _ _ _ _ _)
end SPEC_H13
