/-! What solve finds: row after row is made a unit's; what the changed rows make 0, the given rows make 0 -/
section GAUSS
theorem gs_ker {F : Type} [Lean.Grind.CommRing F] (h2 : ∀ a : F, a + a = 0) {x c p : Nat} {M T N : Nat → Nat → F} {sc : F} (hc : c < x) (hpx : p < x) (hsc : M p c * sc = 1)
    (hT : ∀ r k, r < x → k < x + 1 → T r k = if r = c then M p k * sc else if r = p then M c k else M r k)
    (hN : ∀ r k, r < x → k < x + 1 → N r k = if r = c then T c k else T r k + T r c * T c k) (a : Nat → F)
    (hk : ∀ r, r < x → fsum (fun k => N r k * a k) (x + 1) = 0) : ∀ r, r < x → fsum (fun k => M r k * a k) (x + 1) = 0 := by
  have hTc : fsum (fun k => T c k * a k) (x + 1) = 0 := by
    rw [← hk c hc]
    refine fsum_congr (fun k hk9 => ?_)
    rw [hN c k hc hk9, if_pos rfl]
  have hTr : ∀ r, r < x → fsum (fun k => T r k * a k) (x + 1) = 0 := by
    intro r hr
    by_cases e : r = c
    · rw [e]; exact hTc
    · have h1 := hk r hr
      have h3 : fsum (fun k => N r k * a k) (x + 1) = fsum (fun k => T r k * a k + T r c * (T c k * a k)) (x + 1) := fsum_congr (fun k hk9 => by rw [hN r k hr hk9, if_neg e]; grind)
      rw [h3, fsum_add, fsum_mul, hTc] at h1
      grind
  have hp : fsum (fun k => M p k * a k) (x + 1) = 0 := by
    have h1 : fsum (fun k => M p k * a k) (x + 1) = fsum (fun k => M p c * (T c k * a k)) (x + 1) := fsum_congr (fun k hk9 => by rw [hT c k hc hk9, if_pos rfl]; grind)
    rw [h1, fsum_mul, hTc]
    grind
  intro r hr
  by_cases e1 : r = p
  · rw [e1]; exact hp
  · by_cases e2 : r = c
    · have h1 := hTr p hpx
      have h3 : fsum (fun k => T p k * a k) (x + 1) = fsum (fun k => M c k * a k) (x + 1) := fsum_congr (fun k hk9 => by rw [hT p k hpx hk9, if_neg (fun z => e1 (e2.trans z.symm)), if_pos rfl])
      rw [e2, ← h3]; exact h1
    · have h1 := hTr r hr
      have h3 : fsum (fun k => T r k * a k) (x + 1) = fsum (fun k => M r k * a k) (x + 1) := fsum_congr (fun k hk9 => by rw [hT r k hr hk9, if_neg e2, if_neg e1])
      rw [← h3]; exact h1
theorem gs_unit {F : Type} [Lean.Grind.CommRing F] (h2 : ∀ a : F, a + a = 0) {x c p : Nat} {M T N : Nat → Nat → F} {sc : F} (hc : c < x) (hcp : c ≤ p) (hpx : p < x) (hsc : M p c * sc = 1)
    (hT : ∀ r k, r < x → k < x + 1 → T r k = if r = c then M p k * sc else if r = p then M c k else M r k)
    (hN : ∀ r k, r < x → k < x + 1 → N r k = if r = c then T c k else T r k + T r c * T c k)
    (hu : ∀ r k, r < x → k < c → M r k = if r = k then 1 else 0) : ∀ r k, r < x → k < c + 1 → N r k = if r = k then 1 else 0 := by
  intro r k hr hk
  have hcc : T c c = 1 := by rw [hT c c hc (by omega), if_pos rfl]; exact hsc
  by_cases e : k = c
  · subst e
    rw [hN r k hr (by omega)]
    by_cases e2 : r = k
    · rw [if_pos e2, if_pos e2, hcc]
    · rw [if_neg e2, if_neg e2, hcc]
      have := h2 (T r k)
      grind
  · have hkc : k < c := by omega
    have hck : T c k = 0 := by
      rw [hT c k hc (by omega), if_pos rfl, hu p k hpx hkc, if_neg (by omega)]
      grind
    rw [hN r k hr (by omega)]
    by_cases e2 : r = c
    · rw [if_pos e2, hck, if_neg (by omega)]
    · rw [if_neg e2, hck]
      have h1 : T r k = if r = k then 1 else 0 := by
        rw [hT r k hr (by omega), if_neg e2]
        by_cases e3 : r = p
        · rw [if_pos e3, hu c k hc hkc, if_neg (by omega), if_neg (by omega)]
        · rw [if_neg e3, hu r k hr hkc]
      rw [h1]
      grind
/-- where no row from c on has anything in column c, there is something that all rows make 0 -/
theorem gs_fail {F : Type} [Lean.Grind.CommRing F] (h2 : ∀ a : F, a + a = 0) {x c : Nat} {M : Nat → Nat → F} (hc : c < x) (hu : ∀ r k, r < x → k < c → M r k = if r = k then 1 else 0) (hz : ∀ r, c ≤ r → r < x → M r c = 0) :
    ∀ r, r < x → fsum (fun k => M r k * (if k = c then 1 else if k < c then M k c else 0)) (x + 1) = 0 := by
  intro r hr
  by_cases e : r < c
  · have h1 : fsum (fun k => M r k * (if k = c then 1 else if k < c then M k c else 0)) (x + 1) = fsum (fun k => (if k = c then M r c else 0) + (if k = r then M r c else 0)) (x + 1) := by
      refine fsum_congr (fun k hk => ?_)
      by_cases e1 : k = c
      · rw [if_pos e1, if_pos e1, if_neg (by omega), e1]; grind
      · rw [if_neg e1, if_neg e1]
        by_cases e3 : k < c
        · rw [if_pos e3, hu r k hr e3]
          by_cases e4 : r = k
          · rw [if_pos e4, if_pos e4.symm, e4]; grind
          · rw [if_neg e4, if_neg (fun z => e4 z.symm)]; grind
        · rw [if_neg e3, if_neg (by omega)]; grind
    rw [h1, fsum_add, fsum_one (k := c) (by omega) (fun i _ hi => if_neg hi), fsum_one (k := r) (by omega) (fun i _ hi => if_neg hi), if_pos rfl, if_pos rfl]
    exact h2 _
  · refine fsum_zero (fun k hk => ?_)
    by_cases e1 : k = c
    · rw [if_pos e1, e1, hz r (by omega) hr]; grind
    · rw [if_neg e1]
      by_cases e3 : k < c
      · rw [if_pos e3, hu r k hr e3, if_neg (by omega)]; grind
      · rw [if_neg e3]; grind
/-- all columns done: the last column solves the rows -/
theorem gs_sol {F : Type} [Lean.Grind.CommRing F] (h2 : ∀ a : F, a + a = 0) {x : Nat} {M : Nat → Nat → F} (hu : ∀ r k, r < x → k < x → M r k = if r = k then 1 else 0) :
    ∀ r, r < x → fsum (fun k => M r k * (if k < x then M k x else 1)) (x + 1) = 0 := by
  intro r hr
  have h1 : fsum (fun k => M r k * (if k < x then M k x else 1)) (x + 1) = fsum (fun k => (if k = r then M r x else 0) + (if k = x then M r x else 0)) (x + 1) := by
    refine fsum_congr (fun k hk => ?_)
    by_cases e : k < x
    · rw [if_pos e, hu r k hr e, if_neg (show ¬ k = x by omega)]
      by_cases e4 : r = k
      · rw [if_pos e4, if_pos e4.symm, e4]; grind
      · rw [if_neg e4, if_neg (fun z => e4 z.symm)]; grind
    · have : k = x := by omega
      subst this
      rw [if_neg e, if_neg (by omega), if_pos rfl]; grind
  rw [h1, fsum_add, fsum_one (k := r) (by omega) (fun i _ hi => if_neg hi), fsum_one (k := x) (by omega) (fun i _ hi => if_neg hi), if_pos rfl, if_pos rfl]
  exact h2 _
/-- places of a row apart -/
theorem ix_inj {x r r' k k' : Nat} (hk : k < x + 1) (hk' : k' < x + 1) (h : (x + 1) * r + k = (x + 1) * r' + k') : r = r' ∧ k = k' := by
  have h1 : ((x + 1) * r + k) / (x + 1) = r := by rw [Nat.mul_add_div (by omega), Nat.div_eq_of_lt hk]; omega
  have h2 : ((x + 1) * r' + k') / (x + 1) = r' := by rw [Nat.mul_add_div (by omega), Nat.div_eq_of_lt hk']; omega
  rw [h] at h1
  have h3 : r = r' := h1.symm.trans h2
  subst h3
  exact ⟨rfl, by omega⟩
/-- what a changed and scaled row holds -/
theorem slJ_at {s : Nat → Nat} {x p c sc : Nat} : ∀ n, n ≤ x + 1 → ∀ r k, k < x + 1 → slJ s x p c sc n ((x + 1) * r + k) = if k < n then (if r = c then gm (s ((x + 1) * p + k)) sc else if r = p then s ((x + 1) * c + k) else s ((x + 1) * r + k)) else s ((x + 1) * r + k) := by
  intro n
  induction n with
  | zero => intro _ r k _; rw [if_neg (Nat.not_lt_zero k)]; rfl
  | succ n ih =>
    intro hn r k hk
    have i1 := ih (by omega) r k hk
    have i2 := ih (by omega) c n (by omega)
    have i3 := ih (by omega) p n (by omega)
    rw [if_neg (by omega)] at i2 i3
    rw [slJ]
    unfold va_up
    by_cases e : k = n
    · subst e
      rw [if_pos (show k < k + 1 by omega)]
      rw [if_neg (Nat.lt_irrefl k)] at i1
      by_cases e1 : r = c
      · rw [if_pos (by rw [e1]), if_pos e1, i3]
      · rw [if_neg (fun z => e1 (ix_inj (by omega) (by omega) z).1), if_neg e1]
        by_cases e2 : r = p
        · rw [if_pos (by rw [e2]), if_pos e2, i2]
        · rw [if_neg (fun z => e2 (ix_inj (by omega) (by omega) z).1), if_neg e2, i1]
    · rw [if_neg (fun z => e (ix_inj hk (by omega) z).2), if_neg (fun z => e (ix_inj hk (by omega) z).2), i1]
      by_cases e5 : k < n
      · rw [if_pos e5, if_pos (show k < n + 1 by omega)]
      · rw [if_neg e5, if_neg (show ¬ k < n + 1 by omega)]
theorem slK_at {s : Nat → Nat} {x r c f : Nat} (hrc : r ≠ c) : ∀ n, n ≤ x + 1 → ∀ r' k, k < x + 1 → slK s x r c f n ((x + 1) * r' + k) = if r' = r ∧ k < n then s ((x + 1) * r + k) ^^^ gm f (s ((x + 1) * c + k)) else s ((x + 1) * r' + k) := by
  intro n
  induction n with
  | zero => intro _ r' k _; rw [if_neg (fun z => Nat.not_lt_zero k z.2)]; rfl
  | succ n ih =>
    intro hn r' k hk
    have i1 := ih (by omega) r' k hk
    have i2 := ih (by omega) r n (by omega)
    have i3 := ih (by omega) c n (by omega)
    rw [if_neg (by omega)] at i2 i3
    rw [slK]
    unfold va_up
    by_cases e : r' = r ∧ k = n
    · obtain ⟨e1, e2⟩ := e
      subst e1; subst e2
      rw [if_pos rfl, if_pos ⟨rfl, by omega⟩, i2, i3]
    · rw [if_neg (fun z => e (ix_inj hk (by omega) z)), i1]
      by_cases e5 : r' = r ∧ k < n
      · rw [if_pos e5, if_pos ⟨e5.1, by omega⟩]
      · rw [if_neg e5, if_neg (fun z => e5 ⟨z.1, by omega⟩)]
theorem slK_zero {s : Nat → Nat} {x r c : Nat} : ∀ n, slK s x r c 0 n = s := by
  intro n
  induction n with
  | zero => rfl
  | succ n ih =>
    rw [slK, ih, gm_zeroL, Nat.xor_zero]
    funext j
    unfold va_up
    by_cases e : j = (x + 1) * r + n
    · rw [if_pos e, e]
    · rw [if_neg e]
theorem slR_at {s : Nat → Nat} {x c : Nat} (hcx : c < x + 1) : ∀ n r k, k < x + 1 → slR s x c n ((x + 1) * r + k) = if r < n ∧ r ≠ c then s ((x + 1) * r + k) ^^^ gm (s ((x + 1) * r + c)) (s ((x + 1) * c + k)) else s ((x + 1) * r + k) := by
  intro n
  induction n with
  | zero => intro r k _; rw [if_neg (fun z => Nat.not_lt_zero r z.1)]; rfl
  | succ n ih =>
    intro r k hk
    by_cases e : n = c
    · rw [slR_t e, slK_zero, ih r k hk]
      by_cases e1 : r < n ∧ r ≠ c
      · rw [if_pos e1, if_pos ⟨by omega, e1.2⟩]
      · rw [if_neg e1, if_neg (fun z => e1 ⟨by omega, z.2⟩)]
    · rw [slR_f e]
      have i1 := ih r k hk
      have i2 := ih n k hk
      have i3 := ih c k hk
      have i4 := ih n c hcx
      rw [if_neg (fun z => z.2 rfl)] at i3
      rw [if_neg (fun z => Nat.lt_irrefl n z.1)] at i2 i4
      rw [slK_at e (x + 1) (Nat.le_refl _) r k hk, i1, i2, i3, i4]
      by_cases e1 : r = n
      · subst e1
        rw [if_pos ⟨rfl, hk⟩, if_pos ⟨by omega, e⟩]
      · rw [if_neg (fun z => e1 z.1)]
        by_cases e2 : r < n ∧ r ≠ c
        · rw [if_pos e2, if_pos ⟨by omega, e2.2⟩]
        · rw [if_neg e2, if_neg (fun z => e2 ⟨by omega, z.2⟩)]
/-- what all rows make 0 -/
def kerG (s : Nat → Nat) (x : Nat) (a : Nat → GF) : Prop := ∀ r, r < x → @fsum GF gfRing (fun k => gfMul (gf (s ((x + 1) * r + k))) (a k)) (x + 1) = gf 0
theorem gf_h2 (a : GF) : gfAdd a a = gf 0 := gfAdd_self a
theorem pv_at {s : Nat → Nat} {x c : Nat} : ∀ n q, x - q ≤ n → q ≤ x → pvW s x c n q = x → ∀ r, q ≤ r → r < x → s ((x + 1) * r + c) = 0 := by
  intro n
  induction n with
  | zero => intro q h1 h2 h3 r h4 h5; omega
  | succ n ih =>
    intro q h1 h2 h3 r h4 h5
    by_cases hq : q < x ∧ s ((x + 1) * q + c) = 0
    · rw [pvW_s hq.1 hq.2] at h3
      by_cases e : r = q
      · rw [e]; exact hq.2
      · exact ih (q + 1) (by omega) (by omega) h3 r (by omega) h5
    · rw [pvW, if_neg hq] at h3
      omega
/-- one column: what it does, in the field -/
theorem sl_step {s : Nat → Nat} {x c : Nat} (hx : x ≤ 8) (hc : c < x) (hs : lt256 72 (slI s x c)) (hpv : pvW (slI s x c) x c (x - c) c < x) :
    (∀ a, kerG (slI s x (c + 1)) x a → kerG (slI s x c) x a) ∧ ((∀ r k, r < x → k < c → gf (slI s x c ((x + 1) * r + k)) = if r = k then gf 1 else gf 0) → ∀ r k, r < x → k < c + 1 → gf (slI s x (c + 1) ((x + 1) * r + k)) = if r = k then gf 1 else gf 0) := by
  letI := gfRing
  have hle := (pvW_le (s := slI s x c) (x := x) (c := c) (x - c) c (by omega)).1
  have hne := pvW_ne hpv (by omega)
  generalize hp : pvW (slI s x c) x c (x - c) c = p at hpv hle hne
  have hlt := hs _ (ix72 hx hpv (show c < x + 1 by omega))
  have hsc : gf (slI s x c ((x + 1) * p + c)) * gf (ivN (slI s x c ((x + 1) * p + c))) = 1 := by
    show gfMul _ _ = gf 1
    rw [← show gf (gm _ _) = gfMul _ _ from gf_gm hlt (ivN_lt _), gm_iv hlt hne]
  have hT : ∀ r k, r < x → k < x + 1 → gf (slJ (slI s x c) x p c (ivN (slI s x c ((x + 1) * p + c))) (x + 1) ((x + 1) * r + k)) = if r = c then gf (slI s x c ((x + 1) * p + k)) * gf (ivN (slI s x c ((x + 1) * p + c))) else if r = p then gf (slI s x c ((x + 1) * c + k)) else gf (slI s x c ((x + 1) * r + k)) := by
    intro r k hr hk
    rw [slJ_at (x + 1) (Nat.le_refl _) r k hk, if_pos hk]
    by_cases e1 : r = c
    · rw [if_pos e1, if_pos e1]
      exact gf_gm (hs _ (ix72 hx hpv hk)) (ivN_lt _)
    · rw [if_neg e1, if_neg e1]
      by_cases e2 : r = p
      · rw [if_pos e2, if_pos e2]
      · rw [if_neg e2, if_neg e2]
  have hJ := slJ_lt (p := p) (c := c) hx hpv hc hs (ivN_lt (slI s x c ((x + 1) * p + c))) (x + 1) (Nat.le_refl _)
  have hN : ∀ r k, r < x → k < x + 1 → gf (slI s x (c + 1) ((x + 1) * r + k)) = if r = c then gf (slJ (slI s x c) x p c (ivN (slI s x c ((x + 1) * p + c))) (x + 1) ((x + 1) * c + k)) else gf (slJ (slI s x c) x p c (ivN (slI s x c ((x + 1) * p + c))) (x + 1) ((x + 1) * r + k)) + gf (slJ (slI s x c) x p c (ivN (slI s x c ((x + 1) * p + c))) (x + 1) ((x + 1) * r + c)) * gf (slJ (slI s x c) x p c (ivN (slI s x c ((x + 1) * p + c))) (x + 1) ((x + 1) * c + k)) := by
    intro r k hr hk
    rw [slI, hp, slR_at (by omega) x r k hk]
    by_cases e1 : r = c
    · rw [if_neg (fun z => z.2 e1), if_pos e1, e1]
    · rw [if_pos ⟨hr, e1⟩, if_neg e1]
      have b1 := hJ _ (ix72 hx hr (show c < x + 1 by omega))
      have b2 := hJ _ (ix72 hx hc hk)
      rw [gf_xor (hJ _ (ix72 hx hr hk)) (gm_lt _ b1), gf_gm b1 b2]
      rfl
  refine ⟨fun a ha => ?_, fun hu => ?_⟩
  · exact gs_ker (F := GF) gf_h2 (M := fun r k => gf (slI s x c ((x + 1) * r + k))) hc hpv hsc hT hN a ha
  · exact gs_unit (F := GF) gf_h2 (M := fun r k => gf (slI s x c ((x + 1) * r + k))) hc hle hpv hsc hT hN hu
theorem sl_all {s : Nat → Nat} {x : Nat} (hx : x ≤ 8) (hs : lt256 72 s) : ∀ c, c ≤ x → (∀ d, d < c → pvW (slI s x d) x d (x - d) d < x) →
    (∀ a, kerG (slI s x c) x a → kerG s x a) ∧ (∀ r k, r < x → k < c → gf (slI s x c ((x + 1) * r + k)) = if r = k then gf 1 else gf 0) := by
  intro c
  induction c with
  | zero => intro _ _; exact ⟨fun a h => h, fun r k _ h => absurd h (Nat.not_lt_zero k)⟩
  | succ c ih =>
    intro h hpv
    have i := ih (by omega) (fun d hd => hpv d (by omega))
    have st := sl_step hx (show c < x by omega) (slI_lt hx hs c (by omega) (fun d hd => hpv d (by omega))) (hpv c (by omega))
    exact ⟨fun a ha => i.1 a (st.1 a ha), st.2 i.2⟩
/-- no pivot: something that all rows make 0, and that isn't 0 -/
theorem sl_fail {s : Nat → Nat} {x c : Nat} (hx : x ≤ 8) (hs : lt256 72 s) (hc : c < x) (hpv : ∀ d, d < c → pvW (slI s x d) x d (x - d) d < x) (hno : pvW (slI s x c) x c (x - c) c = x) :
    ∃ a : Nat → GF, kerG s x a ∧ a c = gf 1 ∧ a x = gf 0 := by
  letI := gfRing
  have hu := sl_all hx hs c (by omega) hpv
  have hz : ∀ r, c ≤ r → r < x → gf (slI s x c ((x + 1) * r + c)) = 0 := by
    intro r h1 h3
    rw [pv_at (x - c) c (Nat.le_refl _) (by omega) hno r h1 h3]
    rfl
  refine ⟨_, hu.1 _ (gs_fail (F := GF) gf_h2 (M := fun r k => gf (slI s x c ((x + 1) * r + k))) hc hu.2 hz), ?_, ?_⟩
  · exact if_pos rfl
  · show (if x = c then (1 : GF) else if x < c then _ else 0) = 0
    rw [if_neg (by omega), if_neg (by omega)]
/-- all pivots: the solution solves the rows -/
theorem sl_sol {s so : Nat → Nat} {x : Nat} (hx : x ≤ 8) (hs : lt256 72 s) (hpv : ∀ d, d < x → pvW (slI s x d) x d (x - d) d < x) :
    kerG s x (fun k => if k < x then gf (soL so (slI s x x) x x k) else gf 1) := by
  letI := gfRing
  have hu := sl_all hx hs x (Nat.le_refl _) hpv
  have h1 := gs_sol (F := GF) gf_h2 (M := fun r k => gf (slI s x x ((x + 1) * r + k))) hu.2
  refine hu.1 _ (fun r hr => (show @fsum GF gfRing _ _ = _ from ?_).trans (h1 r hr))
  refine fsum_congr (fun k hk => ?_)
  by_cases e : k < x
  · rw [if_pos e, if_pos e, soL_at x k e]; rfl
  · rw [if_neg e, if_neg e]; rfl
end GAUSS
