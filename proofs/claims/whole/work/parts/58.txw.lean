/-! What the class writes into bytes is what the reference writes as bits -/
section TXW
/-- bytes that hold the first m of the bits b, and 0 behind them -/
def BR (by' : Nat → Nat) (m : Nat) (b : Nat → Nat) : Prop := lt256 26 by' ∧ ∀ j, j < 208 → by' (j / 8) / 2 ^ (7 - j % 8) % 2 = if j < m then b j else 0
/-- the class's put -/
def ptC (y : Nat → Nat) (m v n : Nat) : Nat → Nat → Nat
  | 0 => y
  | i + 1 => va_up (ptC y m v n i) ((m + i) / 2 ^ 3) (ptC y m v n i ((m + i) / 2 ^ 3) ||| v / 2 ^ (n - (i + 1)) % 2 * 2 ^ (7 - (m + i) % 8))
theorem or_one {x w i j : Nat} (hw : w ≤ 1) : (x ||| w * 2 ^ i) / 2 ^ j % 2 = if j = i ∧ w = 1 then 1 else x / 2 ^ j % 2 := by
  rw [← Nat.toNat_testBit, ← Nat.toNat_testBit, Nat.testBit_or]
  rcases (show w = 0 ∨ w = 1 by omega) with q | q
  · subst q
    rw [Nat.zero_mul, Nat.zero_testBit, Bool.or_false, if_neg (by omega)]
  · subst q
    rw [Nat.one_mul, Nat.testBit_two_pow]
    by_cases e : j = i
    · rw [if_pos ⟨e, rfl⟩, e]
      simp
    · rw [if_neg (fun z => e z.1)]
      have : decide (i = j) = false := decide_eq_false (fun z => e z.symm)
      rw [this, Bool.or_false]
theorem BR_one {y b : Nat → Nat} {m w : Nat} (h : BR y m b) (hm : m < 208) (hw : w ≤ 1) : BR (va_up y (m / 2 ^ 3) (y (m / 2 ^ 3) ||| w * 2 ^ (7 - m % 8))) (m + 1) (va_up b m w) := by
  have e8 : m / 2 ^ 3 = m / 8 := by omega
  rw [e8]
  refine ⟨lt_up h.1 ?_, fun j hj => ?_⟩
  · refine Nat.or_lt_two_pow (n := 8) (h.1 _ (by omega)) ?_
    have : 2 ^ (7 - m % 8) ≤ 2 ^ 7 := Nat.pow_le_pow_right (by decide) (by omega)
    have h2 : w * 2 ^ (7 - m % 8) ≤ 1 * 2 ^ (7 - m % 8) := Nat.mul_le_mul_right _ hw
    omega
  · have hj2 := h.2 j hj
    unfold va_up
    by_cases e : j / 8 = m / 8
    · rw [if_pos e, or_one hw, ← e]
      by_cases e2 : j = m
      · subst e2
        rw [if_pos rfl, if_pos (Nat.lt_succ_self j)]
        by_cases e3 : w = 1
        · rw [if_pos ⟨rfl, e3⟩, e3]
        · rw [if_neg (fun z => e3 z.2), hj2, if_neg (Nat.lt_irrefl j)]
          omega
      · rw [if_neg (fun z => by have := z.1; omega), if_neg e2, hj2]
        by_cases e4 : j < m
        · rw [if_pos e4, if_pos (by omega)]
        · rw [if_neg e4, if_neg (by omega)]
    · have hjm : j ≠ m := fun z => e (by rw [z])
      rw [if_neg e, hj2]
      by_cases e4 : j < m
      · rw [if_pos e4, if_pos (show j < m + 1 by omega), if_neg hjm]
      · rw [if_neg e4, if_neg (show ¬ j < m + 1 by omega)]
theorem BR_put {y b : Nat → Nat} {m v n : Nat} (h : BR y m b) : ∀ i, m + i ≤ 208 → BR (ptC y m v n i) (m + i) (ptL b m v n i) := by
  intro i
  induction i with
  | zero => intro _; exact h
  | succ i ih =>
    intro hi
    rw [ptC, ptL_t (by omega)]
    exact BR_one (ih (by omega)) (by omega) (by omega)
/-- zeros change nothing -/
theorem BR_zero {y b : Nat → Nat} {m n : Nat} (h : BR y m b) : ∀ i, m + i ≤ 208 → BR y (m + i) (ptL b m 0 n i) := by
  intro i
  induction i with
  | zero => intro _; exact h
  | succ i ih =>
    intro hi
    have i1 := ih (by omega)
    rw [ptL_t (by omega)]
    refine ⟨h.1, fun j hj => ?_⟩
    have i2 := i1.2 j hj
    unfold va_up
    rw [i2]
    by_cases e : j = m + i
    · rw [if_neg (by omega), if_pos (by omega), if_pos e, Nat.zero_div]
    · rw [if_neg e]
      by_cases e4 : j < m + i
      · rw [if_pos e4, if_pos (by omega)]
      · rw [if_neg e4, if_neg (by omega)]
theorem BR_pz {y : Nat → Nat} : ∀ n m b, BR y m b → m + n ≤ 208 → BR y (pzW n m b).1 (pzW n m b).2 := by
  intro n
  induction n with
  | zero => intro m b h _; exact h
  | succ n ih =>
    intro m b h hm
    by_cases e : m % 8 = 0
    · rw [pzW_z e]; exact h
    · rw [pzW_s e]
      exact ih (m + 1) _ (BR_zero h 1 (by omega)) (by omega)
/-- a whole byte -/
theorem BR_byte {y b : Nat → Nat} {m v : Nat} (h : BR y m b) (hm : m + 8 ≤ 208) (h8 : m % 8 = 0) (hv : v < 256) : BR (va_up y (m / 8) v) (m + 8) (ptL b m v 8 8) := by
  have hp : ∀ i, i ≤ 8 → ∀ j, ptL b m v 8 i j = if m ≤ j ∧ j < m + i then v / 2 ^ (7 - (j - m)) % 2 else b j := by
    intro i
    induction i with
    | zero => intro _ j; rw [if_neg (by omega)]; rfl
    | succ i ih =>
      intro hi j
      rw [ptL_t (by omega)]
      unfold va_up
      by_cases e : j = m + i
      · rw [if_pos e, if_pos (by omega), show j - m = i by omega, show 8 - (i + 1) = 7 - i by omega]
      · rw [if_neg e, ih (by omega) j]
        by_cases e1 : m ≤ j ∧ j < m + i
        · rw [if_pos e1, if_pos (by omega)]
        · rw [if_neg e1, if_neg (by omega)]
  refine ⟨lt_up h.1 hv, fun j hj => ?_⟩
  rw [hp 8 (Nat.le_refl _) j]
  have hj2 := h.2 j hj
  unfold va_up
  by_cases e : j / 8 = m / 8
  · rw [if_pos e, if_pos (by omega), if_pos (by omega), show j % 8 = j - m by omega]
  · rw [if_neg e, hj2]
    by_cases e4 : j < m
    · rw [if_pos e4, if_pos (by omega), if_neg (by omega)]
    · rw [if_neg e4, if_neg (by omega)]
/-- the class's fillers from byte f on -/
def frL (y : Nat → Nat) (f : Nat) : Nat → Nat → Nat
  | 0 => y
  | i + 1 => va_up (frL y f i) (f + i) (if i % 2 = 0 then 236 else 17)
theorem BR_fill {dt : Nat} (hdt : dt ≤ 26) : ∀ n i y m b, BR (frL y (m / 8) i) (m + 8 * i) b → m % 8 = 0 → m + 8 * i ≤ 8 * dt → dt - (m / 8 + i) ≤ n → (pfW dt n i (m + 8 * i) b).1 = 8 * dt ∧ BR (frL y (m / 8) (dt - m / 8)) (8 * dt) (pfW dt n i (m + 8 * i) b).2 := by
  intro n
  induction n with
  | zero =>
    intro i y m b h h8 hm hn
    have e : m + 8 * i = 8 * dt := by omega
    have e2 : i = dt - m / 8 := by omega
    rw [← e2, ← e]
    exact ⟨rfl, h⟩
  | succ n ih =>
    intro i y m b h h8 hm hn
    by_cases e : m + 8 * i < 8 * dt
    · rw [pfW, if_pos e, show m + 8 * i + 8 = m + 8 * (i + 1) by omega]
      refine ih (i + 1) y m _ ?_ h8 (by omega) (by omega)
      rw [frL, show m + 8 * (i + 1) = m + 8 * i + 8 by omega]
      have := BR_byte (v := if i % 2 = 0 then 236 else 17) h (by omega) (by omega) (by split <;> decide)
      rw [show (m + 8 * i) / 8 = m / 8 + i by omega] at this
      exact this
    · rw [pfW_z (by omega)]
      have e1 : m + 8 * i = 8 * dt := by omega
      have e2 : i = dt - m / 8 := by omega
      rw [← e2, ← e1]
      exact ⟨rfl, h⟩
/-- end, zeros and fillers -/
theorem BR_end {dt m : Nat} {y b : Nat → Nat} (hdt : dt ≤ 25) (h : BR y m b) (hm : m ≤ 8 * dt) : BR (frL y ((min (m + 4) (8 * dt) + 7) / 8) (dt - (min (m + 4) (8 * dt) + 7) / 8)) (8 * dt) (flR dt m b).2 := by
  have h1 := BR_zero (n := min (8 * dt - m) 4) h (min (8 * dt - m) 4) (by omega)
  have h2 := BR_pz 8 _ _ h1 (by omega)
  have hlen : (pzW 8 (m + min (8 * dt - m) 4) (ptL b m 0 (min (8 * dt - m) 4) (min (8 * dt - m) 4))).1 = m + min (8 * dt - m) 4 + (8 - (m + min (8 * dt - m) 4) % 8) % 8 := by
    have hz : ∀ n m b, (8 - m % 8) % 8 ≤ n → (pzW n m b).1 = m + (8 - m % 8) % 8 := by
      intro n
      induction n with
      | zero => intro m b h; show m = _; omega
      | succ n ih =>
        intro m b h
        by_cases e : m % 8 = 0
        · rw [pzW_z e]; show m = _; omega
        · rw [pzW_s e, ih _ _ (by omega)]; omega
    exact hz 8 _ _ (by omega)
  unfold flR
  generalize pzW 8 (m + min (8 * dt - m) 4) (ptL b m 0 (min (8 * dt - m) 4) (min (8 * dt - m) 4)) = z at h2 hlen ⊢
  have e : (min (m + 4) (8 * dt) + 7) / 8 = z.1 / 8 := by omega
  rw [e]
  exact (BR_fill (by omega) 27 0 y z.1 z.2 h2 (by omega) (by omega) (by omega)).2
/-- bits packed into bytes -/
theorem byte_ext {x y : Nat} (hx : x < 256) (hy : y < 256) (h : ∀ i, i < 8 → x / 2 ^ (7 - i) % 2 = y / 2 ^ (7 - i) % 2) : x = y := by
  apply Nat.eq_of_testBit_eq
  intro i
  by_cases e : i < 8
  · have := h (7 - i) (by omega)
    rw [show 7 - (7 - i) = i by omega, ← Nat.toNat_testBit, ← Nat.toNat_testBit] at this
    cases hx1 : x.testBit i <;> cases hy1 : y.testBit i <;> rw [hx1, hy1] at this <;> simp_all
  · rw [Nat.testBit_lt_two_pow (Nat.lt_of_lt_of_le hx (Nat.pow_le_pow_right (n := 2) (i := 8) (by decide) (by omega))), Nat.testBit_lt_two_pow (Nat.lt_of_lt_of_le hy (Nat.pow_le_pow_right (n := 2) (i := 8) (by decide) (by omega)))]
theorem pkJ_at {b s : Nat → Nat} {k : Nat} (h0 : b k = 0) (hs : ∀ j, j < 8 → s (8 * k + j) ≤ 1) : ∀ n, n ≤ 8 → (pkJ b s k n k < 2 ^ n ∧ ∀ i, i < n → pkJ b s k n k / 2 ^ (n - 1 - i) % 2 = s (8 * k + i)) ∧ ∀ j, j ≠ k → pkJ b s k n j = b j := by
  intro n
  induction n with
  | zero => intro _; exact ⟨⟨by show b k < 1; omega, fun i h => absurd h (Nat.not_lt_zero i)⟩, fun j _ => rfl⟩
  | succ n ih =>
    intro hn
    obtain ⟨⟨i1, i2⟩, i3⟩ := ih (by omega)
    have hb := hs n (by omega)
    refine ⟨?_, fun j hj => ?_⟩
    · rw [show pkJ b s k (n + 1) k = 2 * pkJ b s k n k + s (8 * k + n) from if_pos rfl]
      refine ⟨by rw [Nat.pow_succ]; omega, fun i hi => ?_⟩
      by_cases e : i = n
      · subst e
        rw [show i + 1 - 1 - i = 0 by omega]
        omega
      · rw [show n + 1 - 1 - i = 1 + (n - 1 - i) by omega, show 2 * pkJ b s k n k = 2 ^ 1 * pkJ b s k n k from rfl, bit_hi (by omega)]
        exact i2 i (by omega)
    · rw [show pkJ b s k (n + 1) j = pkJ b s k n j from if_neg hj]
      exact i3 j hj
theorem pkI_at {b s : Nat → Nat} (hs : ∀ j, j < 208 → s j ≤ 1) : ∀ n, n ≤ 26 → ∀ k, k < n → pkI b s n k < 256 ∧ ∀ i, i < 8 → pkI b s n k / 2 ^ (7 - i) % 2 = s (8 * k + i) := by
  intro n
  induction n with
  | zero => intro _ k h; omega
  | succ n ih =>
    intro hn k hk
    have hj := pkJ_at (b := va_up (pkI b s n) n 0) (s := s) (k := n) (if_pos rfl) (fun j hj => hs _ (by omega)) 8 (Nat.le_refl _)
    rw [pkI]
    by_cases e : k = n
    · subst e
      exact ⟨hj.1.1, fun i hi => hj.1.2 i hi⟩
    · rw [hj.2 k e, show va_up (pkI b s n) n 0 k = pkI b s n k from if_neg e]
      exact ih (by omega) k (by omega)
/-- the data bytes are the same -/
theorem BR_bytes {y b bt : Nat → Nat} {dt : Nat} (hdt : dt ≤ 26) (h : BR y (8 * dt) b) (hs : ∀ j, j < 208 → b j ≤ 1) : ∀ k, k < dt → y k = pkI bt b dt k := by
  intro k hk
  obtain ⟨p1, p2⟩ := pkI_at (b := bt) hs dt hdt k hk
  refine byte_ext (h.1 k (by omega)) p1 (fun i hi => ?_)
  have := h.2 (8 * k + i) (by omega)
  rw [show (8 * k + i) / 8 = k by omega, show (8 * k + i) % 8 = i by omega, if_pos (by omega)] at this
  rw [this, p2 i hi]
/-- the class's putCharacters: group, its size, bits used, bytes -/
def pcS (kd : Nat) (t : Nat → Nat) (ty m : Nat) (y : Nat → Nat) : Nat → Nat × Nat × Nat × (Nat → Nat)
  | 0 => (0, 0, m, y)
  | i + 1 => if (pcS kd t ty m y i).2.1 + 1 = gmo kd ∨ i = ty - 1 then
      (0, 0, (pcS kd t ty m y i).2.2.1 + gsz kd ((pcS kd t ty m y i).2.1 + 1), ptC (pcS kd t ty m y i).2.2.2 (pcS kd t ty m y i).2.2.1 ((pcS kd t ty m y i).1 * gva kd + cvN kd (t i)) (gsz kd ((pcS kd t ty m y i).2.1 + 1)) (gsz kd ((pcS kd t ty m y i).2.1 + 1)))
      else ((pcS kd t ty m y i).1 * gva kd + cvN kd (t i), (pcS kd t ty m y i).2.1 + 1, (pcS kd t ty m y i).2.2)
theorem pcS_grow {kd ty m k m' : Nat} {t y y' : Nat → Nat} (h : pcS kd t ty m y k = (0, 0, m', y')) : ∀ j, j < min (ty - k) (gmo kd) → pcS kd t ty m y (k + j) = (gvL kd t k j, j, m', y') := by
  intro j
  induction j with
  | zero => intro _; exact h
  | succ j ih =>
    intro hj
    have i := ih (by omega)
    rw [show k + (j + 1) = (k + j) + 1 by omega, pcS, i, if_neg (by show ¬ (j + 1 = gmo kd ∨ k + j = ty - 1); omega)]
    show ((gvL kd t k j) * gva kd + cvN kd (t (k + j)), j + 1, m', y') = _
    rw [gvL, Nat.mul_comm]
theorem pcS_group {kd ty m k m' : Nat} {t y y' : Nat → Nat} (hk : k < ty) (h : pcS kd t ty m y k = (0, 0, m', y')) : pcS kd t ty m y (k + min (ty - k) (gmo kd)) = (0, 0, m' + gsz kd (min (ty - k) (gmo kd)), ptC y' m' (gvL kd t k (min (ty - k) (gmo kd))) (gsz kd (min (ty - k) (gmo kd))) (gsz kd (min (ty - k) (gmo kd)))) := by
  have hg := gmo_in kd
  obtain ⟨j, hj⟩ : ∃ j, min (ty - k) (gmo kd) = j + 1 := ⟨min (ty - k) (gmo kd) - 1, by omega⟩
  have i := pcS_grow h j (by omega)
  rw [hj, show k + (j + 1) = (k + j) + 1 by omega, pcS, i, if_pos (by show j + 1 = gmo kd ∨ k + j = ty - 1; omega)]
  show (0, 0, m' + gsz kd (j + 1), ptC y' m' (gvL kd t k j * gva kd + cvN kd (t (k + j))) (gsz kd (j + 1)) (gsz kd (j + 1))) = _
  rw [gvL, Nat.mul_comm (gvL kd t k j)]
/-- how many bits the characters take -/
def bfN (kd n : Nat) : Nat := n / gmo kd * gsz kd (gmo kd) + (if n % gmo kd = 0 then 0 else gsz kd (n % gmo kd))
theorem bfN_step {kd n : Nat} (h : 0 < n) : bfN kd n = gsz kd (min n (gmo kd)) + bfN kd (n - min n (gmo kd)) := by
  have hg := gmo_in kd
  unfold bfN
  by_cases e : gmo kd ≤ n
  · rw [Nat.min_eq_right e]
    have h1 : n / gmo kd = (n - gmo kd) / gmo kd + 1 := by
      have := Nat.sub_mul_div n (gmo kd) 1
      rw [Nat.mul_one] at this
      have h2 : 1 ≤ n / gmo kd := (Nat.one_le_div_iff (by omega)).mpr e
      omega
    have h2 : (n - gmo kd) % gmo kd = n % gmo kd := by
      have := (Nat.mod_eq_sub_mod e)
      exact this.symm
    rw [h1, h2, Nat.add_mul]
    omega
  · have h1 : n / gmo kd = 0 := Nat.div_eq_of_lt (by omega)
    have h2 : n % gmo kd = n := Nat.mod_eq_of_lt (by omega)
    rw [Nat.min_eq_left (by omega), h1, h2, if_neg (by omega), Nat.sub_self, Nat.zero_div, Nat.zero_mod, if_pos rfl]
    omega
theorem ptW_len {t : Nat → Nat} {ty kd : Nat} : ∀ n k m b, ty - k ≤ n → (ptW t ty kd n k m b).1 = m + bfN kd (ty - k) := by
  intro n
  induction n with
  | zero =>
    intro k m b h
    rw [show ty - k = 0 by omega]
    show m = m + bfN kd 0
    unfold bfN
    rw [Nat.zero_div, Nat.zero_mod, if_pos rfl]
    omega
  | succ n ih =>
    intro k m b h
    by_cases e : k < ty
    · have hg := gmo_in kd
      rw [ptW, if_pos e, ih _ _ _ (by omega), bfN_step (show 0 < ty - k by omega), show ty - (k + min (ty - k) (gmo kd)) = ty - k - min (ty - k) (gmo kd) by omega]
      omega
    · rw [ptW_z (by omega), show ty - k = 0 by omega]
      show m = m + bfN kd 0
      unfold bfN
      rw [Nat.zero_div, Nat.zero_mod, if_pos rfl]
      omega
theorem BR_chars {kd ty m0 : Nat} {t y0 : Nat → Nat} : ∀ n k m b y, ty - k ≤ n → k ≤ ty → pcS kd t ty m0 y0 k = (0, 0, m, y) → BR y m b → (ptW t ty kd n k m b).1 ≤ 208 → (pcS kd t ty m0 y0 ty).2.2.1 = (ptW t ty kd n k m b).1 ∧ BR (pcS kd t ty m0 y0 ty).2.2.2 (ptW t ty kd n k m b).1 (ptW t ty kd n k m b).2 := by
  intro n
  induction n with
  | zero =>
    intro k m b y h1 h2 h3 h4 _
    have : k = ty := by omega
    subst this
    rw [h3]
    exact ⟨rfl, h4⟩
  | succ n ih =>
    intro k m b y h1 h2 h3 h4 h5
    by_cases e : k < ty
    · have hg := gmo_in kd
      have hl := ptW_len (t := t) (kd := kd) (n + 1) k m b h1
      rw [ptW, if_pos e] at h5 ⊢
      have hl2 := ptW_len (t := t) (ty := ty) (kd := kd) n (k + min (ty - k) (gmo kd)) (m + gsz kd (min (ty - k) (gmo kd))) (ptL b m (gvL kd t k (min (ty - k) (gmo kd))) (gsz kd (min (ty - k) (gmo kd))) (gsz kd (min (ty - k) (gmo kd)))) (by omega)
      exact ih _ _ _ _ (by omega) (by omega) (pcS_group e h3) (BR_put h4 _ (by omega)) h5
    · have : k = ty := by omega
      subst this
      rw [ptW_z (Nat.le_refl _), h3]
      exact ⟨rfl, h4⟩
/-- all that the class puts of the text, before the end -/
def cxR (kd : Nat) (t : Nat → Nat) (ty : Nat) (y : Nat → Nat) : Nat × (Nat → Nat) := (pcS kd t ty (0 + 4 + gwd kd) (ptC (ptC y 0 kd 4 4) (0 + 4) ty (gwd kd) (gwd kd)) ty).2.2
theorem pxR_len {kd ty : Nat} {t b : Nat → Nat} : (pxR kd t ty b).1 = 4 + gwd kd + bfN kd ty := by
  unfold pxR
  rw [ptW_len ty 0 _ _ (by omega)]
  show 0 + 4 + gwd kd + bfN kd ty = _
  omega
theorem BR_text {kd ty : Nat} {t b y : Nat → Nat} (hy : ∀ j, j < 26 → y j = 0) (h : (pxR kd t ty b).1 ≤ 208) : (cxR kd t ty y).1 = (pxR kd t ty b).1 ∧ BR (cxR kd t ty y).2 (pxR kd t ty b).1 (pxR kd t ty b).2 := by
  have hl := pxR_len (kd := kd) (ty := ty) (t := t) (b := b)
  have h0 : BR y 0 b := ⟨fun j hj => by rw [hy j hj]; decide, fun j hj => by rw [hy _ (by omega), Nat.zero_div, if_neg (Nat.not_lt_zero j)]⟩
  have h1 := BR_put (v := kd) (n := 4) h0 4 (by omega)
  have h2 := BR_put (v := ty) (n := gwd kd) h1 (gwd kd) (by omega)
  exact BR_chars ty 0 (0 + 4 + gwd kd) _ _ (by omega) (Nat.zero_le _) rfl h2 h
end TXW
