/-! Modules turned over, taken up, forms read: class and reference alike -/
section LAY
theorem flip_bit {x i j : Nat} : (x ^^^ 2 ^ i) / 2 ^ j % 2 = if j = i then 1 - x / 2 ^ j % 2 else x / 2 ^ j % 2 := by
  rw [← Nat.toNat_testBit, ← Nat.toNat_testBit, Nat.testBit_xor, Nat.testBit_two_pow]
  by_cases e : j = i
  · subst e
    rw [if_pos rfl]
    cases x.testBit j <;> simp
  · rw [if_neg e]
    have : decide (i = j) = false := decide_eq_false (fun z => e z.symm)
    rw [this]
    cases x.testBit j <;> rfl
/-- a module turned over -/
theorem grR_flip {ro gr : Nat → Nat} {r c : Nat} (h : grR ro gr) (hr : r < 21) (hc : c < 21) : grR (va_up ro r (ro r ^^^ 2 ^ (20 - c))) (va_up gr (21 * r + c) (1 - gr (21 * r + c))) := by
  refine ⟨fun r' hr' => ?_, fun r' c' hr' hc' => ?_⟩
  · unfold va_up
    split
    · exact Nat.xor_lt_two_pow (h.1 r hr) (Nat.pow_lt_pow_right (by decide) (by omega))
    · exact h.1 r' hr'
  · unfold va_up
    by_cases e : r' = r
    · subst e
      rw [if_pos rfl, flip_bit]
      by_cases e2 : c' = c
      · subst e2
        rw [if_pos rfl, if_pos rfl, h.2 r' c' hr hc]
      · rw [if_neg (by omega), if_neg (by omega), h.2 r' c' hr' hc']
    · rw [if_neg e, if_neg (by omega), h.2 r' c' hr' hc']
theorem grR_le {ro gr : Nat → Nat} (h : grR ro gr) : ∀ j, j < 441 → gr j ≤ 1 := by
  intro j hj
  have := h.2 (j / 21) (j % 21) (by omega) (by omega)
  rw [show 21 * (j / 21) + j % 21 = j by omega] at this
  omega
/-- only the first 441 places count -/
theorem grR_congr {ro gr g2 : Nat → Nat} (h : grR ro gr) (he : ∀ j, j < 441 → gr j = g2 j) : grR ro g2 := ⟨h.1, fun r c hr hc => by rw [← he _ (by omega)]; exact h.2 r c hr hc⟩
theorem grR_congrL {ro r2 gr : Nat → Nat} (h : grR ro gr) (he : ∀ j, j < 21 → ro j = r2 j) : grR r2 gr := ⟨fun r hr => by rw [← he r hr]; exact h.1 r hr, fun r c hr hc => by rw [← he r hr]; exact h.2 r c hr hc⟩
/-- a row as a number -/
theorem row_eq {ro gr : Nat → Nat} (h : grR ro gr) {r : Nat} (hr : r < 21) : rwL gr r 21 = ro r := by
  have e : ∀ n, n ≤ 21 → rwL gr r n = ro r / 2 ^ (21 - n) := by
    intro n
    induction n with
    | zero => intro _; exact (Nat.div_eq_of_lt (h.1 r hr)).symm
    | succ n ih =>
      intro hn
      rw [rwL, ih (by omega), h.2 r n hr (by omega), show 21 - n = (20 - n) + 1 by omega, show 21 - (n + 1) = 20 - n by omega, Nat.pow_succ, ← Nat.div_div_eq_div_mul]
      omega
  rw [e 21 (Nat.le_refl _)]
  exact Nat.div_one _
theorem or_bit {a b : Nat} (hb : b ≤ 1) : a * 2 ^ 1 ||| b = 2 * a + b := by
  rw [Nat.mul_comm, ← Nat.two_pow_add_eq_or_of_lt (show b < 2 ^ 1 by omega)]
/-- what pickUp takes up is what takeBytes takes -/
theorem pick_eq {ro gr dx dy da b b' : Nat → Nat} {mk : Nat} (h : grR ro gr) (hx : ∀ j, j < 208 → dx j < 21) (hy : ∀ j, j < 208 → dy j < 21) (hd : ∀ j, j < 208 → da j = 21 * dx j + dy j) : ∀ j, j < 26 → pkL (flL b 0 26) dx dy ro mk 208 j = tkL (zrL b' 26) gr da mk 208 j := by
  have e : ∀ n, n ≤ 208 → ∀ j, j < 26 → pkL (flL b 0 26) dx dy ro mk n j = tkL (zrL b' 26) gr da mk n j := by
    intro n
    induction n with
    | zero => intro _ j hj; show flL b 0 26 j = zrL b' 26 j; rw [flL_at 26 j hj, zrL_at 26 j hj]
    | succ n ih =>
      intro hn j hj
      have i := ih (by omega)
      have h1 := hx n (by omega)
      have h2 := hy n (by omega)
      have h3 := hd n (by omega)
      have hg := h.2 (dx n) (dy n) h1 h2
      have ht := tnN_le mk (dx n) (dy n)
      rw [pkL, tkL, h3, show (21 * dx n + dy n) / 21 = dx n by omega, show (21 * dx n + dy n) % 21 = dy n by omega, hg]
      unfold va_up
      rw [show n / 2 ^ 3 = n / 8 by omega]
      by_cases e1 : j = n / 8
      · rw [if_pos e1, if_pos e1, i (n / 8) (by omega)]
        have hb : ro (dx n) / 2 ^ (20 - dy n) % 2 < 2 := Nat.mod_lt _ (by decide)
        generalize ro (dx n) / 2 ^ (20 - dy n) % 2 = v at hb ⊢
        generalize tnN mk (dx n) (dy n) = t at ht ⊢
        have hv : v ^^^ t = if t = 0 then v else 1 - v := by
          rcases (show v = 0 ∨ v = 1 by omega) with q | q <;> rcases (show t = 0 ∨ t = 1 by omega) with q2 | q2 <;> subst q <;> subst q2 <;> rfl
        rw [hv, or_bit (by split <;> omega)]
      · rw [if_neg e1, if_neg e1]
        exact i j hj
  exact e 208 (Nat.le_refl _)
/-- a copy of the form, as the class reads it -/
def fcL (ro rx cx : Nat → Nat) : Nat → Nat
  | 0 => 0
  | k + 1 => fcL ro rx cx k * 2 ^ 1 ||| ro (rx k) / 2 ^ (20 - cx k) % 2
theorem fcL_lt (ro rx cx : Nat → Nat) : ∀ k, fcL ro rx cx k < 2 ^ k := by
  intro k
  induction k with
  | zero => exact Nat.one_pos
  | succ k ih =>
    rw [fcL, or_bit (by omega), Nat.pow_succ]
    omega
theorem fcL_bit (ro rx cx : Nat → Nat) : ∀ n k, k < n → fcL ro rx cx n / 2 ^ (n - 1 - k) % 2 = ro (rx k) / 2 ^ (20 - cx k) % 2 := by
  intro n
  induction n with
  | zero => intro k h; omega
  | succ n ih =>
    intro k hk
    rw [fcL, or_bit (by omega)]
    by_cases q : k = n
    · subst q
      rw [show k + 1 - 1 - k = 0 by omega]
      omega
    · rw [show n + 1 - 1 - k = 1 + (n - 1 - k) by omega, show 2 * fcL ro rx cx n = 2 ^ 1 * fcL ro rx cx n from rfl, bit_hi (by omega)]
      exact ih k (by omega)
/-- bits in which a and b differ -/
theorem xor_sum (a b n : Nat) : pcn (a ^^^ b) n = sm (fun i => if a / 2 ^ i % 2 = b / 2 ^ i % 2 then 0 else 1) n := by
  unfold pcn
  refine sm_congr n (fun i _ => ?_)
  rw [← Nat.toNat_testBit, ← Nat.toNat_testBit, ← Nat.toNat_testBit, Nat.testBit_xor]
  cases a.testBit i <;> cases b.testBit i <;> rfl
theorem xor_tri (a b d n : Nat) : pcn (a ^^^ b) n ≤ pcn (a ^^^ d) n + pcn (b ^^^ d) n := by
  rw [xor_sum, xor_sum, xor_sum]
  induction n with
  | zero => exact Nat.le_refl 0
  | succ n ih =>
    rw [sm, sm, sm]
    (repeat' split) <;> omega
theorem fm_far : ∀ n, n < 32 → ∀ m, m < 32 → n ≠ m → 7 ≤ pcn (fmW n ^^^ fmW m) 15 := by decide +kernel
theorem fm_uniq {n m x : Nat} (hn : n < 32) (hm : m < 32) (h1 : pcn (fmW n ^^^ x) 15 ≤ 3) (h2 : pcn (fmW m ^^^ x) 15 ≤ 3) : n = m := by
  refine Classical.byContradiction (fun hne => ?_)
  have := fm_far n hn m hm hne
  have := xor_tri (fmW n) (fmW m) x 15
  omega
/-- the reference's number of a form, and the class's -/
def swF (k : Nat) : Nat := 8 * (k / 8 ^^^ 1) + k % 8
theorem swF_in : ∀ k, k < 32 → swF k < 32 ∧ swF (swF k) = k ∧ fmN (k / 8) (k % 8) = fmW (swF k) := by decide +kernel
/-- the first form near enough; 4294967295 where none is -/
def nrL (x : Nat) : Nat → Nat
  | 0 => 4294967295
  | k + 1 => if nrL x k < 32 then nrL x k else if bcN (fmW k ^^^ x) ≤ 3 then k else 4294967295
theorem fmW_lt : ∀ k, k < 32 → fmW k < 32768 := by decide +kernel
theorem near_pc {k x : Nat} (hk : k < 32) (hx : x < 32768) : bcN (fmW k ^^^ x) = pcn (fmW k ^^^ x) 15 := by
  have hl : fmW k ^^^ x < 2 ^ 15 := Nat.xor_lt_two_pow (fmW_lt k hk) hx
  rw [bcN_pc (Nat.lt_of_lt_of_le hl (by decide)), show 32 = 15 + 17 from rfl, pcn_cut hl]
theorem nrL_in (x : Nat) : ∀ k, k ≤ 32 → (nrL x k < k ∧ bcN (fmW (nrL x k) ^^^ x) ≤ 3) ∨ (nrL x k = 4294967295 ∧ ∀ j, j < k → ¬ bcN (fmW j ^^^ x) ≤ 3) := by
  intro k
  induction k with
  | zero => intro _; exact Or.inr ⟨rfl, fun j h => absurd h (Nat.not_lt_zero j)⟩
  | succ k ih =>
    intro hk
    rw [nrL]
    rcases ih (by omega) with ⟨h1, h2⟩ | ⟨h1, h2⟩
    · rw [if_pos (by omega)]; exact Or.inl ⟨by omega, h2⟩
    · rw [if_neg (by omega)]
      by_cases q : bcN (fmW k ^^^ x) ≤ 3
      · rw [if_pos q]; exact Or.inl ⟨by omega, q⟩
      · rw [if_neg q]
        refine Or.inr ⟨rfl, fun j hj => ?_⟩
        by_cases e : j = k
        · rw [e]; exact q
        · exact h2 j (by omega)
theorem wg_pc {ro gr fo rx cx : Nat → Nat} {c f : Nat} (h : grR ro gr) (hx : ∀ j, j < 15 → rx j < 21) (hy : ∀ j, j < 15 → cx j < 21) (hf : ∀ j, j < 15 → fo (15 * c + j) = 21 * rx j + cx j) : wgL gr fo c f 15 = pcn (f ^^^ fcL ro rx cx 15) 15 := by
  have e : ∀ n, wgL gr fo c f n = sm (fun j => if gr (fo (15 * c + j)) = f / 2 ^ (14 - j) % 2 then 0 else 1) n := by
    intro n
    induction n with
    | zero => rfl
    | succ n ih => rw [wgL, sm, ih]
  rw [e, xor_sum, ← sm_rev (fun i => if f / 2 ^ i % 2 = fcL ro rx cx 15 / 2 ^ i % 2 then 0 else 1) 15]
  refine sm_congr 15 (fun j hj => ?_)
  show _ = if f / 2 ^ (15 - 1 - j) % 2 = fcL ro rx cx 15 / 2 ^ (15 - 1 - j) % 2 then 0 else 1
  rw [fcL_bit ro rx cx 15 j hj, hf j hj, h.2 _ _ (hx j hj) (hy j hj), show 15 - 1 - j = 14 - j by omega]
  generalize ro (rx j) / 2 ^ (20 - cx j) % 2 = a
  generalize f / 2 ^ (14 - j) % 2 = b
  by_cases q : a = b
  · rw [if_pos q, if_pos q.symm]
  · rw [if_neg q, if_neg (fun z => q z.symm)]
/-- both read the same form -/
theorem form_eq {ro gr fo rx cx : Nat → Nat} {c : Nat} (h : grR ro gr) (hx : ∀ j, j < 15 → rx j < 21) (hy : ∀ j, j < 15 → cx j < 21) (hf : ∀ j, j < 15 → fo (15 * c + j) = 21 * rx j + cx j) :
    (nrL (fcL ro rx cx 15) 32 < 32 ∧ foL gr fo c 32 < 32 ∧ nrL (fcL ro rx cx 15) 32 = swF (foL gr fo c 32)) ∨ (nrL (fcL ro rx cx 15) 32 = 4294967295 ∧ foL gr fo c 32 = 4294967295) := by
  have hcp := fcL_lt ro rx cx 15
  have hfo : ∀ k, k ≤ 32 → (foL gr fo c k < k ∧ pcn (fmW (swF (foL gr fo c k)) ^^^ fcL ro rx cx 15) 15 ≤ 3) ∨ (foL gr fo c k = 4294967295 ∧ ∀ j, j < k → ¬ pcn (fmW (swF j) ^^^ fcL ro rx cx 15) 15 ≤ 3) := by
    intro k
    induction k with
    | zero => intro _; exact Or.inr ⟨rfl, fun j h => absurd h (Nat.not_lt_zero j)⟩
    | succ k ih =>
      intro hk
      have e : wgL gr fo c (fmN (k / 8) (k % 8)) 15 = pcn (fmW (swF k) ^^^ fcL ro rx cx 15) 15 := by
        rw [wg_pc h hx hy hf, (swF_in k (by omega)).2.2]
      by_cases q : wgL gr fo c (fmN (k / 8) (k % 8)) 15 ≤ 3
      · rw [foL_t q]; exact Or.inl ⟨by omega, by rw [← e]; exact q⟩
      · rw [foL_f (by omega)]
        rcases ih (by omega) with ⟨h1, h2⟩ | ⟨h1, h2⟩
        · exact Or.inl ⟨by omega, h2⟩
        · refine Or.inr ⟨h1, fun j hj => ?_⟩
          by_cases e2 : j = k
          · rw [e2, ← e]; exact q
          · exact h2 j (by omega)
  rcases nrL_in (fcL ro rx cx 15) 32 (Nat.le_refl _) with ⟨a1, a2⟩ | ⟨a1, a2⟩
  · rw [near_pc a1 hcp] at a2
    rcases hfo 32 (Nat.le_refl _) with ⟨b1, b2⟩ | ⟨b1, b2⟩
    · exact Or.inl ⟨a1, b1, fm_uniq a1 (swF_in _ b1).1 a2 b2⟩
    · have := b2 (swF (nrL (fcL ro rx cx 15) 32)) (swF_in _ a1).1
      rw [(swF_in _ a1).2.1] at this
      exact absurd a2 this
  · rcases hfo 32 (Nat.le_refl _) with ⟨b1, b2⟩ | ⟨b1, b2⟩
    · have := a2 (swF (foL gr fo c 32)) (swF_in _ b1).1
      rw [near_pc (swF_in _ b1).1 hcp] at this
      exact absurd b2 this
    · exact Or.inr ⟨a1, b1⟩
end LAY
