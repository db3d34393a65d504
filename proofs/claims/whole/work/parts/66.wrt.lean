/-! What is written: check bytes, the best mask: class and reference alike -/
section WRT
theorem gnJ_congr {s s' : Nat → Nat} (h : ∀ j, j < 18 → s j = s' j) (i : Nat) : ∀ n, i < 17 → ∀ j, j < 18 → gnJ s i n j = gnJ s' i n j := by
  intro n hi
  induction n with
  | zero => exact h
  | succ n ih =>
    intro j hj
    rw [gnJ, gnJ]
    unfold va_up
    rw [ih (i + 1 - n) (by omega), ih (i + 1 - n - 1) (by omega), ih j hj]
theorem gnI_congr {s s' : Nat → Nat} (h : ∀ j, j < 18 → s j = s' j) : ∀ i, i ≤ 17 → ∀ j, j < 18 → gnI s i j = gnI s' i j := by
  intro i
  induction i with
  | zero => intro _; exact h
  | succ i ih => intro hi; exact gnJ_congr (ih (by omega)) i (i + 1) (by omega)
theorem dvJ_congr {t t' s s' : Nat → Nat} (h : ∀ j, j < 26 → t j = t' j) (hs : ∀ j, j < 18 → s j = s' j) {k f : Nat} : ∀ n, n ≤ 18 → k + n ≤ 26 → ∀ j, j < 26 → dvJ t s k f n j = dvJ t' s' k f n j := by
  intro n
  induction n with
  | zero => intro _ _; exact h
  | succ n ih =>
    intro hn hk j hj
    rw [dvJ, dvJ]
    unfold va_up
    rw [ih (by omega) (by omega) (k + n) (by omega), ih (by omega) (by omega) j hj, hs n (by omega)]
theorem dvI_congr {t t' s s' : Nat → Nat} (h : ∀ j, j < 26 → t j = t' j) (hs : ∀ j, j < 18 → s j = s' j) {x : Nat} (hx : x ≤ 17) : ∀ k, k + x ≤ 26 → ∀ j, j < 26 → dvI t s x k j = dvI t' s' x k j := by
  intro k
  induction k with
  | zero => intro _; exact h
  | succ k ih =>
    intro hk j hj
    rw [dvI, dvI, ih (by omega) k (by omega)]
    exact dvJ_congr (ih (by omega)) hs (x + 1) (by omega) (by omega) j hj
theorem cbL_at {b t : Nat → Nat} {n : Nat} : ∀ q j, cbL b t n q j = if n ≤ j ∧ j < n + q then t j else b j := by
  intro q
  induction q with
  | zero => intro j; rw [if_neg (by omega)]; rfl
  | succ q ih =>
    intro j
    rw [cbL]
    unfold va_up
    by_cases e : j = n + q
    · rw [if_pos e, if_pos (by omega), e]
    · rw [if_neg e, ih j]
      by_cases e1 : n ≤ j ∧ j < n + q
      · rw [if_pos e1, if_pos (by omega)]
      · rw [if_neg e1, if_neg (by omega)]
/-- the check bytes that the class appends are the reference's -/
theorem append_eq {y re ge bt tr sy s : Nat → Nat} {ck : Nat} (hck : 7 ≤ ck ∧ ck ≤ 17) (hy : ∀ k, k < 26 - ck → y k = pkI bt s (26 - ck) k) :
    ∀ j, j < 26 → va_cpy (dvI (va_cpy y (flL re 0 26) 0 0 (26 - ck)) (gnI (va_up (flL ge 0 18) 0 1) (26 - (26 - ck))) (26 - (26 - ck)) (26 - ck)) y (26 - ck) (26 - ck) (26 - (26 - ck)) j = wbB bt tr sy s ck j := by
  intro j hj
  have e26 : 26 - (26 - ck) = ck := by omega
  rw [e26]
  unfold wbB wbT
  rw [cbL_at]
  have hg : ∀ j, j < 18 → gnI (va_up (flL ge 0 18) 0 1) ck j = gnI (ckS sy 18) ck j := gnI_congr (fun j hj => by
    rw [ckS_at 18 j hj]
    unfold va_up
    by_cases e : j = 0
    · rw [if_pos e, if_pos e]
    · rw [if_neg e, if_neg e, flL_at 18 j hj]) ck hck.2
  have ht : ∀ j, j < 26 → va_cpy y (flL re 0 26) 0 0 (26 - ck) j = ckA tr (pkI bt s (26 - ck)) ck 26 j := fun j hj => by
    rw [ckA_at 26 j hj]
    unfold va_cpy
    by_cases e : j < 26 - ck
    · rw [if_pos (by omega), if_pos e, show 0 + (j - 0) = j by omega, hy j e]
    · rw [if_neg (by omega), if_neg e, flL_at 26 j hj]
  have hdv := dvI_congr ht hg hck.2 (26 - ck) (by omega) j hj
  unfold va_cpy
  by_cases e : 26 - ck ≤ j ∧ j < 26 - ck + ck
  · rw [if_pos e, if_pos e, show 26 - ck + (j - (26 - ck)) = j by omega]
    exact hdv
  · rw [if_neg e, if_neg e]
    exact hy j (by omega)
theorem bsN_congr {f g : Nat → Nat} : ∀ n, (∀ k, k < n → f k = g k) → bsN f n = bsN g n := by
  intro n
  induction n with
  | zero => intro _; rfl
  | succ n ih =>
    intro h
    have i := ih (fun k hk => h k (by omega))
    rw [bsN, bsN, i, h n (by omega)]
    by_cases e : n = 0
    · rw [if_pos (Or.inl e), if_pos (Or.inl e)]
    · have hl : bsN g n < n := by
        obtain ⟨m, rfl⟩ : ∃ m, n = m + 1 := ⟨n - 1, by omega⟩
        exact bsN_lt g m
      rw [h (bsN g n) (by omega)]
theorem bmC_bs (f : Nat → Nat) : ∀ n, 0 < n → bmC f n = (bsN f n, f (bsN f n)) := by
  intro n
  induction n with
  | zero => intro h; omega
  | succ n ih =>
    intro _
    by_cases e : n = 0
    · rw [bmC_t (Or.inl e), bsN, if_pos (Or.inl e)]
    · have i := ih (by omega)
      by_cases q : f n < f (bsN f n)
      · rw [bmC_t (Or.inr (by rw [i]; exact q)), bsN, if_pos (Or.inr q)]
      · rw [bmC_f e (by rw [i]; show f (bsN f n) ≤ f n; omega), bsN, if_neg (fun z => z.elim e q), i]
theorem cpy_fx {fx ro : Nat → Nat} (hfx : ∀ r, r < 21 → fx r = frT r) : ∀ r, r < 21 → va_cpy fx ro 0 0 21 r = frT r := fun r hr => by
  unfold va_cpy
  rw [if_pos ⟨Nat.zero_le _, by omega⟩, show 0 + (r - 0) = r by omega, hfx r hr]
/-- only the first 26 bytes count -/
theorem drN_bt {so fo da bt bt' d : Nat → Nat} {lv mk : Nat} (h : ∀ j, j < 26 → bt j = bt' j) : drN so fo da bt lv mk d = drN so fo da bt' lv mk d := by
  unfold drN
  rw [dwC_w, dwC_w]
  exact wrw_congr 208 (fun k hk => ⟨rfl, by show (if _ then bt (k / 8) / _ % 2 else 1 - bt (k / 8) / _ % 2) = _; rw [h (k / 8) (by omega)]⟩)
theorem drI_bt {so fo da bt bt' d : Nat → Nat} {lv : Nat} (h : ∀ j, j < 26 → bt j = bt' j) : ∀ k, drI so fo da bt lv d k = drI so fo da bt' lv d k := by
  intro k
  induction k with
  | zero => rfl
  | succ k ih => rw [drI, drI, ih, drN_bt h]
/-- both find the same mask -/
theorem best_eq {fx so fo da dx dy bt bt' dr ro : Nat → Nat} {lv : Nat} (hfx : ∀ r, r < 21 → fx r = frT r) (hso : ∀ j, j < 441 → so j = soT j) (hfo : ∀ j, j < 30 → fo j = foT j) (hda : ∀ j, j < 208 → da j = daT j)
    (hdx : ∀ j, j < 208 → 21 * dx j + dy j = daT j ∧ dx j < 21 ∧ dy j < 21) (hb : ∀ j, j < 26 → bt j = bt' j) : (bmC (peF fx bt dx dy lv ro) 8).1 = bsN (ugF so fo da bt' lv dr) 8 := by
  rw [bmC_bs _ 8 (by decide)]
  refine bsN_congr 8 (fun k _ => ?_)
  show peN (ptD (va_cpy fx (pdI fx bt dx dy lv ro k) 0 0 21) bt dx dy (fmN lv k) k) 21 = ugN (drN so fo da bt' lv k (drI so fo da bt' lv dr k))
  rw [← drN_bt hb]
  exact ugly_eq (draw_eq (cpy_fx hfx) hso hfo hda hdx rfl)
end WRT
