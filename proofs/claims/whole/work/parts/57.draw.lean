/-! What putDown draws is what draw draws -/
section DRAW
/-- modules turned over where b is 1; and written -/
def flw (ro R C b : Nat → Nat) : Nat → Nat → Nat
  | 0 => ro
  | k + 1 => if b k = 1 then va_up (flw ro R C b k) (R k) (flw ro R C b k (R k) ^^^ 2 ^ (20 - C k)) else flw ro R C b k
def wrw (g P b : Nat → Nat) : Nat → Nat → Nat
  | 0 => g
  | k + 1 => va_up (wrw g P b k) (P k) (b k)
theorem flip_write {ro gr R C P b : Nat → Nat} {N : Nat} (h : grR ro gr) (hR : ∀ k, k < N → R k < 21) (hC : ∀ k, k < N → C k < 21) (hP : ∀ k, k < N → P k = 21 * R k + C k) (hb : ∀ k, k < N → b k ≤ 1) (hz : ∀ k, k < N → gr (P k) = 0) (hi : ∀ i j, i < N → j < N → P i = P j → i = j) :
    ∀ n, n ≤ N → grR (flw ro R C b n) (wrw gr P b n) ∧ (∀ k, n ≤ k → k < N → wrw gr P b n (P k) = 0) ∧ (∀ j, (∀ k, k < n → P k ≠ j) → wrw gr P b n j = gr j) := by
  intro n
  induction n with
  | zero => intro _; exact ⟨h, fun k _ hk => hz k hk, fun j _ => rfl⟩
  | succ n ih =>
    intro hn
    obtain ⟨i1, i2, i3⟩ := ih (by omega)
    have h0 := i2 n (Nat.le_refl _) (by omega)
    refine ⟨?_, fun k h1 h2 => ?_, fun j hj => ?_⟩
    · rw [flw, wrw]
      by_cases e : b n = 1
      · rw [if_pos e, e]
        have := grR_flip i1 (hR n (by omega)) (hC n (by omega))
        rw [← hP n (by omega), h0] at this
        exact this
      · rw [if_neg e]
        have hb0 : b n = 0 := by have := hb n (by omega); omega
        rw [hb0]
        refine grR_congr i1 (fun j _ => ?_)
        unfold va_up
        by_cases e2 : j = P n
        · rw [if_pos e2, e2, h0]
        · rw [if_neg e2]
    · rw [wrw]
      unfold va_up
      rw [if_neg (fun z => by have := hi k n h2 (by omega) z; omega)]
      exact i2 k (by omega) h2
    · rw [wrw]
      unfold va_up
      rw [if_neg (fun z => hj n (by omega) z.symm)]
      exact i3 j (fun k hk => hj k (by omega))
theorem wrw_split (g P b : Nat → Nat) (m : Nat) : ∀ n, wrw g P b (m + n) = wrw (wrw g P b m) (fun k => P (m + k)) (fun k => b (m + k)) n := by
  intro n
  induction n with
  | zero => rfl
  | succ n ih => rw [show m + (n + 1) = (m + n) + 1 by omega, wrw, wrw, ih]
theorem wrw_congr {g P b P' b' : Nat → Nat} : ∀ n, (∀ k, k < n → P k = P' k ∧ b k = b' k) → wrw g P b n = wrw g P' b' n := by
  intro n
  induction n with
  | zero => intro _; rfl
  | succ n ih => intro h; rw [wrw, wrw, ih (fun k hk => h k (by omega)), (h n (by omega)).1, (h n (by omega)).2]
theorem dwB_w (d fo : Nat → Nat) (f : Nat) : ∀ n, dwB d fo f n = wrw d fo (fun k => f / 2 ^ (14 - k % 15) % 2) n := by
  intro n
  induction n with
  | zero => rfl
  | succ n ih => rw [dwB, wrw, ih]
theorem dwC_w (d da bt : Nat → Nat) (mk : Nat) : ∀ n, dwC d da bt mk n = wrw d da (fun k => if tnN mk (da k / 21) (da k % 21) = 0 then bt (k / 8) / 2 ^ (7 - k % 8) % 2 else 1 - bt (k / 8) / 2 ^ (7 - k % 8) % 2) n := by
  intro n
  induction n with
  | zero => rfl
  | succ n ih => rw [dwC, wrw, ih]
theorem dwA_at {d so : Nat → Nat} : ∀ n j, j < n → dwA d so n j = if so j = 1 then fxA (j / 21) (j % 21) else 0 := by
  intro n
  induction n with
  | zero => intro j h; omega
  | succ n ih =>
    intro j h
    rw [dwA]
    unfold va_up
    by_cases e : j = n
    · rw [if_pos e, e]
    · rw [if_neg e]; exact ih j (by omega)
/-- the class's form put down, and its data -/
def pfL (ro rx cx : Nat → Nat) (f : Nat) : Nat → Nat → Nat
  | 0 => ro
  | k + 1 => if f / 2 ^ (14 - k) % 2 = 1 then va_up (pfL ro rx cx f k) (rx k) (pfL ro rx cx f k (rx k) ^^^ 2 ^ (20 - cx k)) else pfL ro rx cx f k
def pdL (ro bt dx dy : Nat → Nat) (mk : Nat) : Nat → Nat → Nat
  | 0 => ro
  | k + 1 => if bt (k / 8) / 2 ^ (7 - k % 8) % 2 = tnN mk (dx k) (dy k) then pdL ro bt dx dy mk k else va_up (pdL ro bt dx dy mk k) (dx k) (pdL ro bt dx dy mk k (dx k) ^^^ 2 ^ (20 - dy k))
theorem pfL_t {ro rx cx : Nat → Nat} {f k : Nat} (h : f / 2 ^ (14 - k) % 2 = 1) : pfL ro rx cx f (k + 1) = va_up (pfL ro rx cx f k) (rx k) (pfL ro rx cx f k (rx k) ^^^ 2 ^ (20 - cx k)) := if_pos h
theorem pfL_f {ro rx cx : Nat → Nat} {f k : Nat} (h : f / 2 ^ (14 - k) % 2 ≠ 1) : pfL ro rx cx f (k + 1) = pfL ro rx cx f k := if_neg h
theorem pdL_t {ro bt dx dy : Nat → Nat} {mk k : Nat} (h : bt (k / 8) / 2 ^ (7 - k % 8) % 2 = tnN mk (dx k) (dy k)) : pdL ro bt dx dy mk (k + 1) = pdL ro bt dx dy mk k := if_pos h
theorem pdL_f {ro bt dx dy : Nat → Nat} {mk k : Nat} (h : bt (k / 8) / 2 ^ (7 - k % 8) % 2 ≠ tnN mk (dx k) (dy k)) : pdL ro bt dx dy mk (k + 1) = va_up (pdL ro bt dx dy mk k) (dx k) (pdL ro bt dx dy mk k (dx k) ^^^ 2 ^ (20 - dy k)) := if_neg h
theorem pfL_w (ro rx cx : Nat → Nat) (f : Nat) : ∀ n, pfL ro rx cx f n = flw ro rx cx (fun k => f / 2 ^ (14 - k) % 2) n := by
  intro n
  induction n with
  | zero => rfl
  | succ n ih => rw [pfL, flw, ih]
theorem pdL_w (ro bt dx dy : Nat → Nat) (mk : Nat) : ∀ n, pdL ro bt dx dy mk n = flw ro dx dy (fun k => if tnN mk (dx k) (dy k) = 0 then bt (k / 8) / 2 ^ (7 - k % 8) % 2 else 1 - bt (k / 8) / 2 ^ (7 - k % 8) % 2) n := by
  intro n
  induction n with
  | zero => rfl
  | succ n ih =>
    rw [pdL, flw, ih]
    have ht := tnN_le mk (dx n) (dy n)
    have hv : bt (n / 8) / 2 ^ (7 - n % 8) % 2 < 2 := Nat.mod_lt _ (by decide)
    generalize tnN mk (dx n) (dy n) = t at ht ⊢
    generalize bt (n / 8) / 2 ^ (7 - n % 8) % 2 = v at hv ⊢
    rcases (show v = 0 ∨ v = 1 by omega) with q | q <;> rcases (show t = 0 ∨ t = 1 by omega) with q2 | q2 <;> subst q <;> subst q2 <;> rfl
/-- what the class puts down: all of it -/
def ptD (fx bt dx dy : Nat → Nat) (f mk : Nat) : Nat → Nat := pdL (pfL (pfL fx f1R f1C f 15) f2R f2C f 15) bt dx dy mk 208
theorem draw_eq {fx so fo da dx dy bt dr : Nat → Nat} {lv mk f : Nat} (hfx : ∀ r, r < 21 → fx r = frT r) (hso : ∀ j, j < 441 → so j = soT j) (hfo : ∀ j, j < 30 → fo j = foT j) (hda : ∀ j, j < 208 → da j = daT j)
    (hdx : ∀ j, j < 208 → 21 * dx j + dy j = daT j ∧ dx j < 21 ∧ dy j < 21) (hf : f = fmN lv mk) : grR (ptD fx bt dx dy f mk) (drN so fo da bt lv mk dr) := by
  subst hf
  unfold ptD drN
  rw [dwC_w, dwB_w, pdL_w, pfL_w, pfL_w, show 30 = 15 + 15 from rfl, wrw_split]
  have g0 : grR fx (dwA dr so 441) := by
    refine ⟨fun r hr => by rw [hfx r hr]; exact (fr_chk r hr).1, fun r c hr hc => ?_⟩
    rw [dwA_at 441 _ (by omega), hso _ (by omega), show (21 * r + c) / 21 = r by omega, show (21 * r + c) % 21 = c by omega, hfx r hr]
    exact (fr_chk r hr).2 c hc
  have z0' : ∀ j, j < 441 → soT j ≠ 1 → dwA dr so 441 j = 0 := fun j hj hn => by rw [dwA_at 441 j hj, hso j hj, if_neg hn]
  have b1 : ∀ k, k < 15 → (fun k => fmN lv mk / 2 ^ (14 - k) % 2) k ≤ 1 := fun k _ => by show fmN lv mk / 2 ^ (14 - k) % 2 ≤ 1; omega
  -- the first copy
  have s1 := flip_write (N := 15) (P := fo) (R := f1R) (C := f1C) (b := fun k => fmN lv mk / 2 ^ (14 - k) % 2) g0 (fun k hk => (f1_chk k hk).1) (fun k hk => (f1_chk k hk).2.1) (fun k hk => by rw [hfo k (by omega), ← (f1_chk k hk).2.2, show 15 * 0 + k = k by omega]) b1 (fun k hk => by rw [hfo k (by omega)]; exact z0' _ (fo_in k (by omega)).1 (by rw [(fo_in k (by omega)).2]; decide)) (fun i j hi hj e => fo_inj i (by omega) j (by omega) (by rw [← hfo i (by omega), ← hfo j (by omega)]; exact e)) 15 (Nat.le_refl _)
  rw [wrw_congr (P' := fo) (b' := fun k => fmN lv mk / 2 ^ (14 - k % 15) % 2) 15 (fun k hk => ⟨rfl, by show _ = fmN lv mk / 2 ^ (14 - k % 15) % 2; rw [Nat.mod_eq_of_lt hk]⟩)] at s1
  obtain ⟨a1, -, a3⟩ := s1
  -- the second
  have s2 := flip_write (N := 15) (P := fun k => fo (15 + k)) (R := f2R) (C := f2C) (b := fun k => fmN lv mk / 2 ^ (14 - k) % 2) a1 (fun k hk => (f2_chk k hk).1) (fun k hk => (f2_chk k hk).2.1) (fun k hk => by show fo (15 + k) = _; rw [hfo (15 + k) (by omega), ← (f2_chk k hk).2.2, show 15 * 1 + k = 15 + k by omega]) b1 (fun k hk => by
      show wrw (dwA dr so 441) fo _ 15 (fo (15 + k)) = 0
      rw [a3 _ (fun i hi e => by
        rw [hfo i (by omega), hfo (15 + k) (by omega)] at e
        have := fo_inj i (by omega) (15 + k) (by omega) e
        omega), hfo (15 + k) (by omega)]
      exact z0' _ (fo_in (15 + k) (by omega)).1 (by rw [(fo_in (15 + k) (by omega)).2]; decide)) (fun i j hi hj e => by
      have e : fo (15 + i) = fo (15 + j) := e
      rw [hfo _ (by omega), hfo _ (by omega)] at e
      have := fo_inj (15 + i) (by omega) (15 + j) (by omega) e
      omega) 15 (Nat.le_refl _)
  rw [wrw_congr (P' := fun k => fo (15 + k)) (b' := fun k => fmN lv mk / 2 ^ (14 - (15 + k) % 15) % 2) 15 (fun k hk => ⟨rfl, by show _ = fmN lv mk / 2 ^ (14 - (15 + k) % 15) % 2; rw [show (15 + k) % 15 = k by omega]⟩)] at s2
  obtain ⟨c1, -, c3⟩ := s2
  -- the data
  have hz : ∀ k, k < 208 → wrw (wrw (dwA dr so 441) fo (fun k => fmN lv mk / 2 ^ (14 - k % 15) % 2) 15) (fun k => fo (15 + k)) (fun k => fmN lv mk / 2 ^ (14 - (15 + k) % 15) % 2) 15 (da k) = 0 := by
    intro k hk
    have hd := da_in k hk
    have hne : ∀ i, i < 30 → fo i ≠ daT k := fun i hi e => by
      have h1 := (fo_in i hi).2
      rw [← hfo i hi, e, hd.2.1] at h1
      exact absurd h1 (by decide)
    rw [hda k hk, c3 _ (fun i hi => hne (15 + i) (by omega)), a3 _ (fun i hi => hne i (by omega))]
    exact z0' _ hd.1 (by rw [hd.2.1]; decide)
  have s3 := flip_write (N := 208) (P := da) (R := dx) (C := dy) (b := fun k => if tnN mk (dx k) (dy k) = 0 then bt (k / 8) / 2 ^ (7 - k % 8) % 2 else 1 - bt (k / 8) / 2 ^ (7 - k % 8) % 2) c1 (fun k hk => (hdx k hk).2.1) (fun k hk => (hdx k hk).2.2) (fun k hk => by rw [hda k hk, (hdx k hk).1]) (fun k hk => by
    have hv : bt (k / 8) / 2 ^ (7 - k % 8) % 2 < 2 := Nat.mod_lt _ (by decide)
    show (if tnN mk (dx k) (dy k) = 0 then bt (k / 8) / 2 ^ (7 - k % 8) % 2 else 1 - bt (k / 8) / 2 ^ (7 - k % 8) % 2) ≤ 1
    generalize bt (k / 8) / 2 ^ (7 - k % 8) % 2 = v at hv ⊢
    split <;> omega) hz (fun i j hi hj e => da_inj hi hj (by rw [← hda i hi, ← hda j hj]; exact e)) 208 (Nat.le_refl _)
  rw [wrw_congr (P' := da) (b' := fun k => if tnN mk (da k / 21) (da k % 21) = 0 then bt (k / 8) / 2 ^ (7 - k % 8) % 2 else 1 - bt (k / 8) / 2 ^ (7 - k % 8) % 2) 208 (fun k hk => ⟨rfl, by
    have h1 := hdx k hk
    show (if tnN mk (dx k) (dy k) = 0 then _ else _) = if tnN mk (da k / 21) (da k % 21) = 0 then _ else _
    rw [hda k hk, ← h1.1, show (21 * dx k + dy k) / 21 = dx k by omega, show (21 * dx k + dy k) % 21 = dy k by omega]⟩)] at s3
  exact s3.1
end DRAW
