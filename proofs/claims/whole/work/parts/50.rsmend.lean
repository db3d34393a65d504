/-! What mend does: a right word x places away is found at x; what is found is right, and at most x places away -/
section RSMEND
theorem hkJ_at {s y : Nat → Nat} {x r : Nat} : ∀ n, n ≤ x + 1 → ∀ r' k, k < x + 1 → hkJ s y x r n ((x + 1) * r' + k) = if r' = r ∧ k < n then y (r + k) else s ((x + 1) * r' + k) := by
  intro n
  induction n with
  | zero => intro _ r' k _; rw [if_neg (fun z => Nat.not_lt_zero k z.2)]; rfl
  | succ n ih =>
    intro hn r' k hk
    rw [hkJ]
    unfold va_up
    by_cases e : r' = r ∧ k = n
    · rw [if_pos (by rw [e.1, e.2]), if_pos ⟨e.1, by omega⟩, e.2]
    · rw [if_neg (fun z => e (ix_inj hk (by omega) z)), ih (by omega) r' k hk]
      by_cases e5 : r' = r ∧ k < n
      · rw [if_pos e5, if_pos ⟨e5.1, by omega⟩]
      · rw [if_neg e5, if_neg (fun z => e5 ⟨z.1, by omega⟩)]
theorem hkI_at {s y : Nat → Nat} {x : Nat} : ∀ n r k, r < n → k < x + 1 → hkI s y x n ((x + 1) * r + k) = y (r + k) := by
  intro n
  induction n with
  | zero => intro r k h; omega
  | succ n ih =>
    intro r k hr hk
    rw [hkI, hkJ_at (x + 1) (Nat.le_refl _) r k hk]
    by_cases e : r = n
    · rw [if_pos ⟨e, hk⟩, e]
    · rw [if_neg (fun z => e z.1)]; exact ih r k (by omega) hk
theorem vdJ_at {s sp : Nat → Nat} {x r : Nat} : ∀ n, n ≤ x → ∀ r' k, k < x + 1 → vdJ s sp x r n ((x + 1) * r' + k) = if r' = r ∧ k < n then pw (sp k * r % 255) else s ((x + 1) * r' + k) := by
  intro n
  induction n with
  | zero => intro _ r' k _; rw [if_neg (fun z => Nat.not_lt_zero k z.2)]; rfl
  | succ n ih =>
    intro hn r' k hk
    rw [vdJ]
    unfold va_up
    by_cases e : r' = r ∧ k = n
    · rw [if_pos (by rw [e.1, e.2]), if_pos ⟨e.1, by omega⟩, e.2]
    · rw [if_neg (fun z => e (ix_inj hk (by omega) z)), ih (by omega) r' k hk]
      by_cases e5 : r' = r ∧ k < n
      · rw [if_pos e5, if_pos ⟨e5.1, by omega⟩]
      · rw [if_neg e5, if_neg (fun z => e5 ⟨z.1, by omega⟩)]
theorem vdI_at {s sp y : Nat → Nat} {x : Nat} : ∀ n r k, r < n → k < x + 1 → vdI s sp y x n ((x + 1) * r + k) = if k < x then pw (sp k * r % 255) else y r := by
  intro n
  induction n with
  | zero => intro r k h; omega
  | succ n ih =>
    intro r k hr hk
    rw [vdI]
    unfold va_up
    by_cases e : r = n
    · subst e
      by_cases e1 : k = x
      · rw [if_pos (by rw [e1]), if_neg (by omega)]
      · rw [if_neg (fun z => e1 (ix_inj hk (by omega) z).2), vdJ_at x (Nat.le_refl _) r k hk, if_pos ⟨rfl, by omega⟩, if_pos (by omega)]
    · rw [if_neg (fun z => e (ix_inj hk (by omega) z).1), vdJ_at x (Nat.le_refl _) r k hk, if_neg (fun z => e z.1)]
      exact ih r k (by omega) hk
/-- the places that spots writes down: all roots, each once -/
theorem spA_all (sp so : Nat → Nat) (x : Nat) : ∀ q, q ≤ 26 →
    (∀ k, k < spC so x q → hvS so (pw (spA sp so x q k)) x x = 0) ∧ (∀ i j, i < j → j < spC so x q → spA sp so x q i < spA sp so x q j) ∧ (∀ p, p < q → hvS so (pw p) x x = 0 → ∃ k, k < spC so x q ∧ spA sp so x q k = p) := by
  intro q
  induction q with
  | zero => intro _; exact ⟨fun k h => absurd h (Nat.not_lt_zero k), fun i j _ h => absurd h (Nat.not_lt_zero j), fun p h => absurd h (Nat.not_lt_zero p)⟩
  | succ q ih =>
    intro hq
    obtain ⟨i1, i2, i3⟩ := ih (by omega)
    have i4 := spA_lt sp so x q (by omega)
    by_cases h : hvS so (pw q) x x = 0
    · rw [spC_t h, spA_t h]
      have hold : ∀ k, k < spC so x q → va_up (spA sp so x q) (spC so x q) q k = spA sp so x q k := fun k hk => if_neg (by omega)
      have hnew : va_up (spA sp so x q) (spC so x q) q (spC so x q) = q := if_pos rfl
      refine ⟨fun k hk => ?_, fun i j hij hj => ?_, fun p hp hr => ?_⟩
      · by_cases e : k = spC so x q
        · rw [e, hnew]; exact h
        · rw [hold k (by omega)]; exact i1 k (by omega)
      · rw [hold i (by omega)]
        by_cases e : j = spC so x q
        · rw [e, hnew]; exact i4 i (by omega)
        · rw [hold j (by omega)]; exact i2 i j hij (by omega)
      · by_cases e : p = q
        · exact ⟨spC so x q, by omega, by rw [hnew, e]⟩
        · obtain ⟨k, h1, h2⟩ := i3 p (by omega) hr
          exact ⟨k, by omega, by rw [hold k h1]; exact h2⟩
    · rw [spC_f h, spA_f h]
      refine ⟨i1, i2, fun p hp hr => ?_⟩
      by_cases e : p = q
      · rw [e] at hr; exact absurd hr h
      · exact i3 p (by omega) hr
theorem spA_sum (sp so : Nat → Nat) (x : Nat) (g : Nat → GF) : ∀ q, q ≤ 26 → @fsum GF gfRing (fun k => g (spA sp so x q k)) (spC so x q) = @fsum GF gfRing (fun p => if hvS so (pw p) x x = 0 then g p else gf 0) q := by
  letI := gfRing
  intro q
  induction q with
  | zero => intro _; rfl
  | succ q ih =>
    intro hq
    have i := ih (by omega)
    rw [show fsum (fun p => if hvS so (pw p) x x = 0 then g p else gf 0) (q + 1) = fsum (fun p => if hvS so (pw p) x x = 0 then g p else gf 0) q + (if hvS so (pw q) x x = 0 then g q else gf 0) from rfl, ← i]
    by_cases h : hvS so (pw q) x x = 0
    · rw [spC_t h, spA_t h, if_pos h]
      show fsum _ (spC so x q) + g (va_up (spA sp so x q) (spC so x q) q (spC so x q)) = _
      rw [show va_up (spA sp so x q) (spC so x q) q (spC so x q) = q from if_pos rfl]
      congr 1
      exact fsum_congr (fun k hk => by rw [show va_up (spA sp so x q) (spC so x q) q k = spA sp so x q k from if_neg (by omega)])
    · rw [spC_f h, spA_f h, if_neg h]
      show _ = _ + (0 : GF)
      grind
/-- what mending leaves -/
theorem mdL_at {t sp so : Nat → Nat} : ∀ n, (∀ i, i < n → sp i < 26) → (∀ i j, i < j → j < n → sp i < sp j) → (∀ k, k < n → mdL t sp so n (25 - sp k) = t (25 - sp k) ^^^ so k) ∧ (∀ j, j < 26 → (∀ k, k < n → 25 - sp k ≠ j) → mdL t sp so n j = t j) := by
  intro n
  induction n with
  | zero => intro _ _; exact ⟨fun k h => absurd h (Nat.not_lt_zero k), fun j _ _ => rfl⟩
  | succ n ih =>
    intro hlt hmo
    obtain ⟨i1, i2⟩ := ih (fun i hi => hlt i (by omega)) (fun i j h1 h2 => hmo i j h1 (by omega))
    have hn := hlt n (by omega)
    have hself : mdL t sp so n (25 - sp n) = t (25 - sp n) := i2 (25 - sp n) (by omega) (fun k hk => by
      have h1 := hmo k n hk (by omega)
      omega)
    refine ⟨fun k hk => ?_, fun j hj hno => ?_⟩
    · rw [mdL]
      unfold va_up
      by_cases e : k = n
      · rw [if_pos (by rw [e]), hself, e]
      · have h1 := hmo k n (by omega) (by omega)
        rw [if_neg (by omega)]
        exact i1 k (by omega)
    · rw [mdL]
      unfold va_up
      rw [if_neg (fun z => hno n (by omega) z.symm)]
      exact i2 j hj (fun k hk => hno k (by omega))
/-- at most n places are changed -/
theorem dN_up {w c : Nat → Nat} {j v : Nat} : ∀ n, n ≤ 26 → dN w (va_up c j v) n ≤ dN w c n + (if 25 - j < n ∧ j < 26 then 1 else 0) := by
  intro n
  induction n with
  | zero => intro _; exact Nat.zero_le _
  | succ n ih =>
    intro hn
    have ih := ih (by omega)
    rw [dN, dN]
    by_cases e : 25 - n = j
    · rw [if_neg (show ¬ (25 - j < n ∧ j < 26) by omega)] at ih
      rw [if_pos (show 25 - j < n + 1 ∧ j < 26 by omega)]
      (repeat' split) <;> omega
    · rw [show va_up c j v (25 - n) = c (25 - n) from if_neg e]
      by_cases e2 : 25 - j < n ∧ j < 26
      · rw [if_pos e2] at ih
        rw [if_pos (show 25 - j < n + 1 ∧ j < 26 by omega)]
        omega
      · rw [if_neg e2] at ih
        have : (if 25 - j < n + 1 ∧ j < 26 then 1 else 0) ≥ 0 := Nat.zero_le _
        omega
theorem dN_self (w : Nat → Nat) : ∀ n, dN w w n = 0 := by
  intro n
  induction n with
  | zero => rfl
  | succ n ih => rw [dN, ih, if_pos rfl]
theorem dN_congrL {w v c : Nat → Nat} (h : ∀ j, j < 26 → w j = v j) : ∀ n, dN w c n = dN v c n := by
  intro n
  induction n with
  | zero => rfl
  | succ n ih => rw [dN, dN, ih, h (25 - n) (by omega)]
theorem mdL_d (w t sp so : Nat → Nat) : ∀ n, dN w (mdL t sp so n) 26 ≤ dN w t 26 + n := by
  intro n
  induction n with
  | zero => exact Nat.le_refl _
  | succ n ih =>
    rw [mdL]
    have h := dN_up (w := w) (c := mdL t sp so n) (j := 25 - sp n) (v := mdL t sp so n (25 - sp n) ^^^ so n) 26 (Nat.le_refl _)
    have h2 : (if 25 - (25 - sp n) < 26 ∧ 25 - sp n < 26 then 1 else 0) ≤ 1 := by split <;> omega
    omega
theorem cp_at {t b : Nat → Nat} : ∀ j, j < 26 → cpL t b 26 j = b j := fun j hj => cpL_at 26 j hj
variable {bt tr sy sl yd sp c : Nat → Nat} {x y : Nat}
/-- what a try finds is right, and x places away at most -/
theorem mend_sound (h : (mnR bt tr sy sl yd sp x y).1 ≠ 0) : okW (mnR bt tr sy sl yd sp x y).2.1 y ∧ dN bt (mnR bt tr sy sl yd sp x y).2.1 26 ≤ x := by
  have h0 : dN bt (cpL tr bt 26) 26 = 0 := (dN_congr (fun j hj => (cp_at (t := tr) j hj)) 26).trans (dN_self bt 26)
  rcases Nat.eq_zero_or_pos x with hx | hx
  · subst hx
    rw [mnR_0] at h ⊢
    exact ⟨(irL_iff _ y).mp h, by show dN bt (cpL tr bt 26) 26 ≤ 0; omega⟩
  · by_cases h1 : mnA sy yd x < x
    · rw [mnR_a hx h1] at h; exact absurd rfl h
    · by_cases h2 : spC (mnS sy sl yd x) x 26 = x
      · by_cases h3 : mnB sy sl yd sp x < x
        · rw [mnR_c hx h1 h2 h3] at h; exact absurd rfl h
        · rw [mnR_d hx h1 h2 h3] at h ⊢
          refine ⟨(irL_iff _ y).mp h, ?_⟩
          have := mdL_d bt (cpL tr bt 26) (mnP sy sl yd sp x) (mnO sy sl yd sp x) x
          show dN bt (mdL _ _ _ x) 26 ≤ x
          omega
      · rw [mnR_b hx h1 h2] at h; exact absurd rfl h
theorem gf_10 : gf 1 ≠ gf 0 := fun h => absurd (gf_inj (by decide) (by decide) h) (by decide)
/-- a right word x places away is found at x -/
theorem mend_ok (hx0 : x ≤ 8) (hy : 2 * x ≤ y) (hy17 : y ≤ 17) (hbt : lt256 26 bt) (hsy : lt256 72 sy) (hyd : lt256 17 yd) (hS : ∀ k, k < y → yd k = hrn bt (pw k) 26) (hc : lt256 26 c) (ho : okW c y) (hd : dN bt c 26 = x) :
    (mnR bt tr sy sl yd sp x y).1 ≠ 0 ∧ ∀ j, j < 26 → (mnR bt tr sy sl yd sp x y).2.1 j = c j := by
  letI := gfRing
  rcases Nat.eq_zero_or_pos x with hx | hx
  · have e0 : ∀ j, j < 26 → cpL tr bt 26 j = c j := fun j hj => by
      rw [cp_at j hj]
      have := dN_zero 26 (hd.trans hx) (25 - j) (by omega)
      rwa [show 25 - (25 - j) = j by omega] at this
    subst hx
    rw [mnR_0]
    exact ⟨(irL_iff _ y).mpr (okW_congr (fun j hj => (e0 j hj).symm) ho), e0⟩
  have hes := erL_len bt c 26
  rw [hd] at hes
  have hnd := erL_nd bt c 26 (Nat.le_refl _)
  have hne : ∀ e ∈ erL bt c 26, e.2 ≠ (0 : GF) := erL_ne hbt hc
  have hsyn : ∀ k, k < y → gf (yd k) = syn (erL bt c 26) k := fun k hk => by rw [hS k hk]; exact syn_of hbt hc ho hk
  have hhk : lt256 72 (hkI sy yd x x) := hkI_lt hx0 hsy hyd x (Nat.le_refl _)
  -- the square of sums
  have h1 : ¬ mnA sy yd x < x := by
    intro h1
    obtain ⟨a, ha, ha1, hax⟩ := sl_fail hx0 hhk h1 mnA_p (mnA_n h1)
    have hk0 := hankel_ker (F := GF) gf_dom (erL bt c 26) hnd hne a (fun r hr => by
      rw [hes] at hr ⊢
      have h3 := ha r hr
      rw [show fsum (fun k => gfMul (gf (hkI sy yd x x ((x + 1) * r + k))) (a k)) (x + 1) = fsum (fun k => gfMul (gf (hkI sy yd x x ((x + 1) * r + k))) (a k)) x + gfMul (gf (hkI sy yd x x ((x + 1) * r + x))) (a x) from rfl, hax, gfMul_zero] at h3
      have h4 : fsum (fun k => a k * syn (erL bt c 26) (r + k)) x = fsum (fun k => gfMul (gf (hkI sy yd x x ((x + 1) * r + k))) (a k)) x := fsum_congr (fun k hk => by
        rw [hkI_at x r k hr (by omega), hsyn (r + k) (by omega)]
        show _ = syn (erL bt c 26) (r + k) * a k
        grind)
      rw [h4]
      have h5 : fsum (fun k => gfMul (gf (hkI sy yd x x ((x + 1) * r + k))) (a k)) x + (0 : GF) = 0 := h3
      grind)
    have h6 := hk0 (mnA sy yd x) (by rw [hes]; exact h1)
    rw [ha1] at h6
    exact gf_10 h6
  -- its solution has the wrong places as roots
  have hso := mnS_lt (sl := sl) hx0 hsy hyd h1
  have hsol := sl_sol (so := sl) hx0 hhk (mnA_f h1)
  have hroot : ∀ p, p < 26 → bt (25 - p) ≠ c (25 - p) → hvS (mnS sy sl yd x) (pw p) x x = 0 := by
    have hz := syn_zero (F := GF) gf_dom x ((erL bt c 26).map (fun e => (e.1, e.2 * ev (fun k => if k < x then gf (mnS sy sl yd x k) else gf 1) (x + 1) e.1))) (by rw [List.length_map]; exact hes) (by rw [List.map_map]; exact hnd) (fun r hr => by
      rw [← syn_window]
      have h3 := hsol r hr
      refine Eq.trans (fsum_congr (fun k hk => ?_)) h3
      rw [hkI_at x r k hr hk, hsyn (r + k) (by omega)]
      show (if k < x then gf (mnS sy sl yd x k) else gf 1) * syn (erL bt c 26) (r + k) = syn (erL bt c 26) (r + k) * (if k < x then gf (mnS sy sl yd x k) else gf 1)
      grind)
    intro p hp hpe
    have hin := erL_in bt c 26 p hp hpe
    have h3 := hz _ (List.mem_map.mpr ⟨_, hin, rfl⟩)
    rcases gf_dom _ _ h3 with h4 | h4
    · exact absurd h4 (hne _ hin)
    · have h5 := hvS_ev hso (pw_lt p) x (Nat.le_refl _)
      have h6 : ev (hvQ (mnS sy sl yd x) x x) (x + 1) (gf (pw p)) = ev (fun k => if k < x then gf (mnS sy sl yd x k) else gf 1) (x + 1) (gf (pw p)) := by
        unfold ev
        refine fsum_congr (fun k hk => ?_)
        show (if k = x then gf 1 else gf (mnS sy sl yd x (x - x + k))) * gf (pw p) ^ k = (if k < x then gf (mnS sy sl yd x k) else gf 1) * gf (pw p) ^ k
        by_cases e : k = x
        · rw [if_pos e, if_neg (by omega)]
        · rw [if_neg e, if_pos (by omega), show x - x + k = k by omega]
      have h7 : gf (hvS (mnS sy sl yd x) (pw p) x x) = gf 0 := by rw [h5, h6]; exact h4
      exact gf_inj (hvS_lt hso (pw_lt p) x (Nat.le_refl _)) (by decide) h7
  have hcnt : ∀ n, n ≤ 26 → dN bt c n ≤ spC (mnS sy sl yd x) x n ∧ (spC (mnS sy sl yd x) x n = dN bt c n → ∀ p, p < n → hvS (mnS sy sl yd x) (pw p) x x = 0 → bt (25 - p) ≠ c (25 - p)) := by
    intro n
    induction n with
    | zero => intro _; exact ⟨Nat.le_refl 0, fun _ p h => absurd h (Nat.not_lt_zero p)⟩
    | succ n ih =>
      intro hn
      obtain ⟨i1, i2⟩ := ih (by omega)
      rw [dN]
      by_cases e : bt (25 - n) = c (25 - n)
      · rw [if_pos e]
        by_cases e2 : hvS (mnS sy sl yd x) (pw n) x x = 0
        · rw [spC_t e2]; exact ⟨by omega, fun h => by omega⟩
        · rw [spC_f e2]
          refine ⟨by omega, fun h p hp hr => ?_⟩
          by_cases e3 : p = n
          · rw [e3] at hr; exact absurd hr e2
          · exact i2 (by omega) p (by omega) hr
      · rw [if_neg e, spC_t (hroot n (by omega) e)]
        refine ⟨by omega, fun h p hp hr => ?_⟩
        by_cases e3 : p = n
        · rw [e3]; exact e
        · exact i2 (by omega) p (by omega) hr
  have h2 : spC (mnS sy sl yd x) x 26 = x := by
    have a1 := (hcnt 26 (Nat.le_refl _)).1
    have a2 := spC_le hso 26 (Nat.le_refl _)
    omega
  have hiff : ∀ p, p < 26 → hvS (mnS sy sl yd x) (pw p) x x = 0 → bt (25 - p) ≠ c (25 - p) := (hcnt 26 (Nat.le_refl _)).2 (by omega)
  obtain ⟨s1, s2, s3⟩ := spA_all sp (mnS sy sl yd x) x 26 (Nat.le_refl _)
  have s4 := spA_lt sp (mnS sy sl yd x) x 26 (Nat.le_refl _)
  rw [h2] at s1 s2 s3 s4
  -- the places' powers
  have hVd : lt256 72 (mnV sy sl yd sp x) := mnV_lt hx0 hsy hyd h1
  have hVat : ∀ r k, r < x → k < x + 1 → gf (mnV sy sl yd sp x ((x + 1) * r + k)) = if k < x then gfPow (gf (pw (mnP sy sl yd sp x k))) r else gf (yd r) := by
    intro r k hr hk
    rw [mnV, vdI_at x r k hr hk]
    by_cases e : k < x
    · rw [if_pos e, if_pos e, pw_mod, gfPow_pw]
    · rw [if_neg e, if_neg e]
  have hvan : ∀ a : Nat → GF, (∀ r, r < x → fsum (fun k => a k * gfPow (gf (pw (mnP sy sl yd sp x k))) r) x = 0) → ∀ k, k < x → a k = gf 0 := by
    intro a ha k hk
    have hsl : ∀ n r, syn ((List.range n).map (fun k => (gf (pw (mnP sy sl yd sp x k)), a k))) r = fsum (fun k => a k * gfPow (gf (pw (mnP sy sl yd sp x k))) r) n := by
      intro n r
      induction n with
      | zero => rfl
      | succ n ih =>
        rw [List.range_succ, List.map_append, fsum, ← ih]
        have hap : ∀ (l1 l2 : List (GF × GF)), syn (l1 ++ l2) r = syn l1 r + syn l2 r := by
          intro l1 l2
          induction l1 with
          | nil => show _ = (0 : GF) + _; grind
          | cons e l1 ih1 => rw [List.cons_append, syn, syn, ih1]; grind
        rw [hap]
        show _ + (a n * gfPow (gf (pw (mnP sy sl yd sp x n))) r + (0 : GF)) = _
        grind
    have hz := syn_zero (F := GF) gf_dom x ((List.range x).map (fun k => (gf (pw (mnP sy sl yd sp x k)), a k))) (by rw [List.length_map, List.length_range]) (by
      rw [List.map_map]
      refine nodup_map _ _ List.nodup_range (fun i hi j hj e => ?_)
      have hi := List.mem_range.mp hi
      have hj := List.mem_range.mp hj
      have e1 := pw_inj26 _ (s4 i hi) _ (s4 j hj) (gf_inj (pw_lt _) (pw_lt _) e)
      rcases Nat.lt_trichotomy i j with q | q | q
      · have := s2 i j q hj; omega
      · exact q
      · have := s2 j i q hi; omega) (fun r hr => by rw [hsl]; exact ha r hr)
    exact hz _ (List.mem_map.mpr ⟨k, List.mem_range.mpr hk, rfl⟩)
  have h3 : ¬ mnB sy sl yd sp x < x := by
    intro h3
    obtain ⟨a, ha, ha1, hax⟩ := sl_fail hx0 hVd h3 mnB_p (mnB_n h3)
    have := hvan a (fun r hr => by
      have h5 := ha r hr
      rw [show fsum (fun k => gfMul (gf (mnV sy sl yd sp x ((x + 1) * r + k))) (a k)) (x + 1) = fsum (fun k => gfMul (gf (mnV sy sl yd sp x ((x + 1) * r + k))) (a k)) x + gfMul (gf (mnV sy sl yd sp x ((x + 1) * r + x))) (a x) from rfl, hax, gfMul_zero] at h5
      have h4 : fsum (fun k => a k * gfPow (gf (pw (mnP sy sl yd sp x k))) r) x = fsum (fun k => gfMul (gf (mnV sy sl yd sp x ((x + 1) * r + k))) (a k)) x := fsum_congr (fun k hk => by
        rw [hVat r k hr (by omega), if_pos hk]
        show _ = gfPow (gf (pw (mnP sy sl yd sp x k))) r * a k
        grind)
      rw [h4]
      have h6 : fsum (fun k => gfMul (gf (mnV sy sl yd sp x ((x + 1) * r + k))) (a k)) x + (0 : GF) = 0 := h5
      grind) (mnB sy sl yd sp x) h3
    rw [ha1] at this
    exact gf_10 this
  -- the values found
  have hOl := mnO_lt (sl := sl) (sp := sp) hx0 hsy hyd h1 h3
  have hval : ∀ k, k < x → mnO sy sl yd sp x k = bt (25 - mnP sy sl yd sp x k) ^^^ c (25 - mnP sy sl yd sp x k) := by
    have hs9 := sl_sol (so := mnS sy sl yd x) hx0 hVd (mnB_f h3)
    have hb9 : ∀ k, k < x → bt (25 - mnP sy sl yd sp x k) ^^^ c (25 - mnP sy sl yd sp x k) < 256 := fun k hk => xor_lt (hbt _ (by omega)) (hc _ (by omega))
    have hz := hvan (fun k => gf (mnO sy sl yd sp x k) + gf (bt (25 - mnP sy sl yd sp x k) ^^^ c (25 - mnP sy sl yd sp x k))) (fun r hr => by
      have h5 : fsum (fun k => gf (mnO sy sl yd sp x k) * gfPow (gf (pw (mnP sy sl yd sp x k))) r) x + gf (yd r) = 0 := by
        have h6 := hs9 r hr
        rw [show fsum (fun k => gfMul (gf (mnV sy sl yd sp x ((x + 1) * r + k))) (if k < x then gf (soL (mnS sy sl yd x) (slI (mnV sy sl yd sp x) x x) x x k) else gf 1)) (x + 1) = fsum (fun k => gfMul (gf (mnV sy sl yd sp x ((x + 1) * r + k))) (if k < x then gf (soL (mnS sy sl yd x) (slI (mnV sy sl yd sp x) x x) x x k) else gf 1)) x + gfMul (gf (mnV sy sl yd sp x ((x + 1) * r + x))) (if x < x then gf (soL (mnS sy sl yd x) (slI (mnV sy sl yd sp x) x x) x x x) else gf 1) from rfl, hVat r x hr (by omega), if_neg (Nat.lt_irrefl x), if_neg (Nat.lt_irrefl x), gfMul_one] at h6
        refine Eq.trans ?_ h6
        show _ + gf (yd r) = _ + gf (yd r)
        congr 1
        refine fsum_congr (fun k hk => ?_)
        rw [hVat r k hr (by omega), if_pos hk, if_pos hk]
        show gf (mnO sy sl yd sp x k) * gfPow (gf (pw (mnP sy sl yd sp x k))) r = gfPow (gf (pw (mnP sy sl yd sp x k))) r * gf (mnO sy sl yd sp x k)
        grind
      have h7 : fsum (fun k => gf (bt (25 - mnP sy sl yd sp x k) ^^^ c (25 - mnP sy sl yd sp x k)) * gfPow (gf (pw (mnP sy sl yd sp x k))) r) x = gf (yd r) := by
        rw [hsyn r (by omega), erL_syn hbt hc r 26]
        have h8 := spA_sum sp (mnS sy sl yd x) x (fun p => gfMul (gf (bt (25 - p) ^^^ c (25 - p))) (gfPow (gf (pw p)) r)) 26 (Nat.le_refl _)
        rw [h2] at h8
        refine Eq.trans h8 (fsum_congr (fun p hp => ?_))
        by_cases e : hvS (mnS sy sl yd x) (pw p) x x = 0
        · rw [if_pos e]
        · rw [if_neg e]
          have h9 : bt (25 - p) = c (25 - p) := Classical.byContradiction (fun z => e (hroot p hp z))
          rw [h9, Nat.xor_self, gfMul_comm, gfMul_zero]
      have h10 : fsum (fun k => (gf (mnO sy sl yd sp x k) + gf (bt (25 - mnP sy sl yd sp x k) ^^^ c (25 - mnP sy sl yd sp x k))) * gfPow (gf (pw (mnP sy sl yd sp x k))) r) x = fsum (fun k => gf (mnO sy sl yd sp x k) * gfPow (gf (pw (mnP sy sl yd sp x k))) r + gf (bt (25 - mnP sy sl yd sp x k) ^^^ c (25 - mnP sy sl yd sp x k)) * gfPow (gf (pw (mnP sy sl yd sp x k))) r) x := fsum_congr (fun k _ => by grind)
      rw [h10, fsum_add, h7]
      exact h5)
    intro k hk
    have h5 : gf (mnO sy sl yd sp x k) + gf (bt (25 - mnP sy sl yd sp x k) ^^^ c (25 - mnP sy sl yd sp x k)) = gf 0 := hz k hk
    refine gf_inj (hOl k hk) (hb9 k hk) ?_
    have h6 : gf (bt (25 - mnP sy sl yd sp x k) ^^^ c (25 - mnP sy sl yd sp x k)) + gf (bt (25 - mnP sy sl yd sp x k) ^^^ c (25 - mnP sy sl yd sp x k)) = 0 := gf_h2 _
    have h7 : gf (mnO sy sl yd sp x k) + gf (bt (25 - mnP sy sl yd sp x k) ^^^ c (25 - mnP sy sl yd sp x k)) = 0 := h5
    grind
  have hfin : ∀ j, j < 26 → mdL (cpL tr bt 26) (mnP sy sl yd sp x) (mnO sy sl yd sp x) x j = c j := by
    intro j hj
    obtain ⟨m1, m2⟩ := mdL_at (t := cpL tr bt 26) (sp := mnP sy sl yd sp x) (so := mnO sy sl yd sp x) x s4 s2
    by_cases e : bt j = c j
    · rw [m2 j hj (fun k hk z => ?_), cp_at j hj, e]
      have := hiff _ (s4 k hk) (s1 k hk)
      exact this (by rw [show 25 - spA sp (mnS sy sl yd x) x 26 k = j from z]; exact e)
    · obtain ⟨k, hk, hp⟩ := s3 (25 - j) (by omega) (hroot (25 - j) (by omega) (by rw [show 25 - (25 - j) = j by omega]; exact e))
      have hp : mnP sy sl yd sp x k = 25 - j := hp
      have h5 := m1 k hk
      rw [hval k hk, hp, show 25 - (25 - j) = j by omega, cp_at j hj] at h5
      rw [h5, ← Nat.xor_assoc, Nat.xor_self, Nat.zero_xor]
  rw [mnR_d hx h1 h2 h3]
  exact ⟨(irL_iff _ y).mpr (okW_congr (fun j hj => (hfin j hj).symm) ho), hfin⟩
/-- the tries find the right word within y / 2, at its distance; none where there is none -/
theorem tries_ok {bt yd c : Nat → Nat} {y : Nat} (hy17 : y ≤ 17) (hbt : lt256 26 bt) (hyd : lt256 17 yd) (hS : ∀ k, k < y → yd k = hrn bt (pw k) 26) (hc : lt256 26 c) (ho : okW c y) (hd : dN bt c 26 ≤ y / 2) :
    ∀ n w tr sy sl sp, y / 2 + 1 ≤ n + w → w ≤ dN bt c 26 → lt256 72 sy → (mnW bt yd y n w tr sy sl sp).1 = dN bt c 26 ∧ ∀ j, j < 26 → (mnW bt yd y n w tr sy sl sp).2.1 j = c j := by
  intro n
  induction n with
  | zero => intro w tr sy sl sp h1 h2; omega
  | succ n ih =>
    intro w tr sy sl sp h1 h2 h3
    have hin := mnR_in (tr := tr) (sl := sl) (sp := sp) (x := w) (y := y) (by omega) hbt h3 hyd
    by_cases h4 : (mnR bt tr sy sl yd sp w y).1 = 0
    · rw [mnW_s (by omega) h4]
      refine ih (w + 1) _ _ _ _ (by omega) ?_ hin.2.2
      refine Nat.lt_of_le_of_ne h2 (fun e => ?_)
      exact (mend_ok (tr := tr) (sl := sl) (sp := sp) (x := w) (by omega) (by omega) hy17 hbt h3 hyd hS hc ho e.symm).1 h4
    · rw [mnW_e (by omega) h4]
      obtain ⟨a1, a2⟩ := mend_sound h4
      have hu := ok_uniq hin.2.1 hc a1 ho (Nat.le_trans (dN_tri bt _ c 26) (by omega))
      refine ⟨?_, hu⟩
      have := dN_congr (w := bt) hu 26
      show w = _
      omega
theorem tries_no {bt yd : Nat → Nat} {y : Nat} (hy17 : y ≤ 17) (hbt : lt256 26 bt) (hyd : lt256 17 yd) (hno : ∀ c, lt256 26 c → okW c y → ¬ dN bt c 26 ≤ y / 2) :
    ∀ n w tr sy sl sp, y / 2 + 1 ≤ n + w → lt256 72 sy → y / 2 < (mnW bt yd y n w tr sy sl sp).1 := by
  intro n
  induction n with
  | zero => intro w tr sy sl sp h1 _; show y / 2 < w; omega
  | succ n ih =>
    intro w tr sy sl sp h1 h3
    by_cases h : y / 2 < w
    · rw [mnW_z h]; exact h
    · have hin := mnR_in (tr := tr) (sl := sl) (sp := sp) (x := w) (y := y) (by omega) hbt h3 hyd
      by_cases h4 : (mnR bt tr sy sl yd sp w y).1 = 0
      · rw [mnW_s (by omega) h4]
        exact ih (w + 1) _ _ _ _ (by omega) hin.2.2
      · obtain ⟨a1, a2⟩ := mend_sound h4
        exact absurd (Nat.le_trans a2 (by omega)) (hno _ hin.2.1 a1)
end RSMEND
