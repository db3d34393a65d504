/-! What repair does: a right word within half of the checks is found, at its distance; none where there is none -/
section RSREP
/-- an array of 18 as a polynomial -/
def cF (f : Nat → Nat) : Nat → GF := fun i => if i < 18 then gf (f i) else gf 0
theorem cF_lt {f : Nat → Nat} {i : Nat} (h : i < 18) : cF f i = gf (f i) := if_pos h
theorem cF_ge {f : Nat → Nat} {i : Nat} (h : ¬ i < 18) : cF f i = gf 0 := if_neg h
theorem gm_1 {a : Nat} (ha : a < 256) : gm a 1 = a := by rw [gm_comm ha (by decide), gm_one _ ha]
theorem qt_mul {a b : Nat} (ha : a < 256) (hb : b < 256) (h : b ≠ 0) : gfMul (gf (qtN a b)) (gf b) = gf a := by
  by_cases h0 : a = 0
  · rw [qtN_a h0, gfMul_comm, gfMul_zero, h0]
  · unfold qtN
    rw [if_neg (fun q => q.elim h0 h), ← show gf (gm _ _) = gfMul _ _ from gf_gm (gm_lt _ ha) hb, gm_assoc ha (ivN_lt b) hb, gm_comm (ivN_lt b) hb, gm_iv hb h, gm_1 ha]
theorem msL_sum {lc su : Nat → Nat} {n : Nat} (hl : lt256 18 lc) (hs : lt256 17 su) (hn : n < 17) : ∀ m, m ≤ n + 1 → gf (msL lc su n m) = @fsum GF gfRing (fun i => gfMul (cF lc i) (gf (su (n - i)))) m := by
  letI := gfRing
  intro m
  induction m with
  | zero => intro _; rfl
  | succ m ih =>
    intro hm
    rw [msL, gf_xor (msL_lt hl m (by omega)) (gm_lt _ (hl m (by omega))), gf_gm (hl m (by omega)) (hs _ (by omega)), ih (by omega), fsum, cF_lt (by omega)]
    rfl
theorem asL_at {lc fm : Nat → Nat} {f s : Nat} : ∀ n j, asL lc fm f s n j = if s ≤ j ∧ j < n + s then lc j ^^^ gm f (fm (j - s)) else lc j := by
  intro n
  induction n with
  | zero => intro j; rw [if_neg (by omega)]; rfl
  | succ n ih =>
    intro j
    rw [asL]
    unfold va_up
    by_cases e : j = n + s
    · rw [if_pos e, ih (n + s), if_neg (by omega), if_pos (by omega), e, show n + s - s = n by omega]
    · rw [if_neg e, ih j]
      by_cases e1 : s ≤ j ∧ j < n + s
      · rw [if_pos e1, if_pos (by omega)]
      · rw [if_neg e1, if_neg (by omega)]
theorem cF_cpy (f g : Nat → Nat) : cF (va_cpy f g 0 0 18) = cF f := by
  funext i
  unfold cF
  by_cases h : i < 18
  · rw [if_pos h, if_pos h]
    unfold va_cpy
    rw [if_pos ⟨Nat.zero_le _, by omega⟩, show 0 + (i - 0) = i by omega]
  · rw [if_neg h, if_neg h]
theorem cF_one (f : Nat → Nat) : cF (va_up (flL f 0 18) 0 1) 0 = gf 1 ∧ ∀ i, 0 < i → cF (va_up (flL f 0 18) 0 1) i = gf 0 := by
  refine ⟨?_, fun i hi => ?_⟩
  · rw [cF_lt (by decide)]; rfl
  · by_cases h : i < 18
    · rw [cF_lt h, show va_up (flL f 0 18) 0 1 i = flL f 0 18 i from if_neg (by omega), flL_at 18 i h]
    · rw [cF_ge h]
variable {su : Nat → Nat}
/-- the miss is the convolution -/
theorem ms_conv {lc : Nat → Nat} {n L : Nat} (hl : lt256 18 lc) (hs : lt256 17 su) (hn : n < 17) (hdeg : ∀ i, L < i → cF lc i = gf 0) : gf (msL lc su n (min L n + 1)) = @conv GF gfRing (cF lc) (fun i => gf (su i)) n := by
  letI := gfRing
  rw [msL_sum hl hs hn _ (by omega)]
  unfold conv
  refine (fsum_upto' (n := min L n + 1) (m := n + 1) (by omega) (fun i h1 h2 => ?_)).symm
  rw [hdeg i (by omega)]
  show (0 : GF) * _ = 0
  grind
theorem bm_all (lc fm sp : Nat → Nat) (hs : lt256 17 su) : ∀ k, k ≤ 17 → @bmI GF gfRing (fun i => gf (su i)) k (cF (bmS su lc fm sp k).1) (cF (bmS su lc fm sp k).2.1) (gf (bmS su lc fm sp k).2.2.2.1) (bmS su lc fm sp k).2.2.2.2.1 (bmS su lc fm sp k).2.2.2.2.2 := by
  letI := gfRing
  intro k
  induction k with
  | zero => intro _; exact bm_start (F := GF) gf_10 _ _ _ (cF_one lc).1 (cF_one lc).2 (cF_one fm).1 (cF_one fm).2
  | succ k ih =>
    intro hk
    have i := ih (by omega)
    obtain ⟨h1, h2, h3, h4, h5⟩ := bm_ok lc fm sp hs k (by omega)
    have hm := msL_lt (su := su) (n := k) h1 (min (bmS su lc fm sp k).2.2.2.2.1 k + 1) (by omega)
    have hcv := ms_conv (L := (bmS su lc fm sp k).2.2.2.2.1) h1 hs (show k < 17 by omega) i.2.1
    have hb : (bmS su lc fm sp k).2.2.2.1 ≠ 0 := fun e => i.2.2.2.2.1 (by rw [e]; rfl)
    have hf := qt_mul hm h3 hb
    have hqt := qtN_lt _ _ hm h3
    have hst := bm_step (F := GF) i hcv.symm hf
    have hfun : ∀ L', L' ≤ 17 → (∀ j, L' < j → cF (bmS su lc fm sp k).1 j - gf (qtN (msL (bmS su lc fm sp k).1 su k (min (bmS su lc fm sp k).2.2.2.2.1 k + 1)) (bmS su lc fm sp k).2.2.2.1) * shk (bmS su lc fm sp k).2.2.2.2.2 (cF (bmS su lc fm sp k).2.1) j = 0) →
        (fun j => cF (bmS su lc fm sp k).1 j - gf (qtN (msL (bmS su lc fm sp k).1 su k (min (bmS su lc fm sp k).2.2.2.2.1 k + 1)) (bmS su lc fm sp k).2.2.2.1) * shk (bmS su lc fm sp k).2.2.2.2.2 (cF (bmS su lc fm sp k).2.1) j) = cF (bmS su lc fm sp (k + 1)).1 := by
      intro L' hL' hdeg
      funext j
      by_cases hj : j < 18
      · rw [bm_C, cF_lt hj, cF_lt hj, asL_at]
        unfold shk
        by_cases e : (bmS su lc fm sp k).2.2.2.2.2 ≤ j
        · rw [if_pos e, if_pos ⟨e, by omega⟩, cF_lt (by omega), gf_xor (h1 j hj) (gm_lt _ hqt), gf_gm hqt (h2 _ (by omega))]
          rfl
        · rw [if_neg e, if_neg (fun z => e z.1)]
          show _ - _ * (0 : GF) = _
          grind
      · rw [cF_ge (f := (bmS su lc fm sp (k + 1)).1) hj]; exact hdeg j (by omega)
    by_cases hz : msL (bmS su lc fm sp k).1 su k (min (bmS su lc fm sp k).2.2.2.2.1 k + 1) = 0
    · rw [bm_B (Or.inl hz), bm_b (Or.inl hz), bm_L (Or.inl hz), bm_s (Or.inl hz)]
      rw [← hfun (bmS su lc fm sp k).2.2.2.2.1 (by omega) (fun j hj => by
        rw [i.2.1 j hj, hz, qtN_a rfl]
        show (0 : GF) - 0 * _ = 0
        grind)]
      have e0 : (fun j => cF (bmS su lc fm sp k).1 j - gf (qtN (msL (bmS su lc fm sp k).1 su k (min (bmS su lc fm sp k).2.2.2.2.1 k + 1)) (bmS su lc fm sp k).2.2.2.1) * shk (bmS su lc fm sp k).2.2.2.2.2 (cF (bmS su lc fm sp k).2.1) j) = cF (bmS su lc fm sp k).1 := by
        funext j
        rw [hz, qtN_a rfl]
        show _ - (0 : GF) * _ = _
        grind
      rw [e0]
      exact bm_stay i (by rw [← hcv, hz]; rfl)
    · by_cases hg : 2 * (bmS su lc fm sp k).2.2.2.2.1 ≤ k
      · rw [bm_Bg hz hg, bm_bg hz hg, bm_Lg hz hg, bm_sg hz hg, cF_cpy, cF_cpy]
        have h9 := hst.2 hg (fun e => hz (gf_inj hm (by decide) e))
        rw [← hfun _ (by omega) h9.2.1]
        exact h9
      · rw [bm_B (Or.inr (by omega)), bm_b (Or.inr (by omega)), bm_L (Or.inr (by omega)), bm_s (Or.inr (by omega))]
        have h9 := hst.1 ⟨h4, by omega⟩
        rw [← hfun _ (by omega) h9.2.1]
        exact h9
/-- the length is at most the number of wrong places -/
theorem bm_len (lc fm sp : Nat → Nat) (hs : lt256 17 su) {es : List (GF × GF)} {e : Nat} (he : e ≤ 17) (hS : ∀ i, i < e → gf (su i) = @syn GF gfRing es i) : ∀ k, k ≤ e → (bmS su lc fm sp k).2.2.2.2.1 ≤ es.length := by
  letI := gfRing
  intro k
  induction k with
  | zero => intro _; exact Nat.zero_le _
  | succ k ih =>
    intro hk
    have i := bm_all lc fm sp hs k (by omega)
    obtain ⟨h1, h2, h3, h4, h5⟩ := bm_ok lc fm sp hs k (by omega)
    have hm := msL_lt (su := su) (n := k) h1 (min (bmS su lc fm sp k).2.2.2.2.1 k + 1) (by omega)
    have hcv := ms_conv (L := (bmS su lc fm sp k).2.2.2.2.1) h1 hs (show k < 17 by omega) i.2.1
    by_cases hg : msL (bmS su lc fm sp k).1 su k (min (bmS su lc fm sp k).2.2.2.2.1 k + 1) ≠ 0 ∧ 2 * (bmS su lc fm sp k).2.2.2.2.1 ≤ k
    · rw [bm_Lg hg.1 hg.2]
      have hmy := massey (F := GF) (C := cF (bmS su lc fm sp k).1) (Lm := lam (es.map Prod.fst)) (S := fun i => gf (su i)) (L := (bmS su lc fm sp k).2.2.2.2.1) (d := es.length) (n := k) i.2.1 i.2.2.2.1 (by
        rw [← hcv]
        exact fun z => hg.1 (gf_inj hm (by decide) z)) (lam_0 _) (fun j hj => lam_deg _ j (by rw [List.length_map]; exact hj)) (fun j h6 h7 => by
        rw [conv_congr (a' := lam (es.map Prod.fst)) (b' := syn es) (fun _ _ => rfl) (fun i9 h9 => hS i9 (by omega)), conv_lam, omg_deg es j h6])
      omega
    · have hn : msL (bmS su lc fm sp k).1 su k (min (bmS su lc fm sp k).2.2.2.2.1 k + 1) = 0 ∨ k < 2 * (bmS su lc fm sp k).2.2.2.2.1 := by
        by_cases h : msL (bmS su lc fm sp k).1 su k (min (bmS su lc fm sp k).2.2.2.2.1 k + 1) = 0
        · exact Or.inl h
        · exact Or.inr (Nat.not_le.mp (fun q => hg ⟨h, q⟩))
      rw [bm_L hn]
      exact ih (by omega)
/-- the values that the class reckons are values of polynomials -/
theorem hvL_ev {p : Nat → Nat} {n y : Nat} (hp : lt256 n p) (hy : y < 256) : ∀ i, i ≤ n → gf (hvL p n y i) = @ev GF gfRing (fun j => gf (p (n - i + j))) i (gf y) := by
  letI := gfRing
  intro i
  induction i with
  | zero => intro _; rfl
  | succ i ih =>
    intro hi
    have hl := hvL_lt hp hy i (by omega)
    rw [hvL, gf_xor (gm_lt y hl) (hp _ (by omega)), gf_gm hl hy, ih (by omega), ev_first, show n - (i + 1) + 0 = n - (i + 1) by omega]
    have e : (fun j => gf (p (n - (i + 1) + (j + 1)))) = fun j => gf (p (n - i + j)) := by
      funext j
      rw [show n - (i + 1) + (j + 1) = n - i + j by omega]
    rw [e]
    show ev _ i (gf y) * gf y + _ = _ + gf y * ev _ i (gf y)
    grind
theorem hvL_all {p : Nat → Nat} {n y : Nat} (hp : lt256 n p) (hy : y < 256) : gf (hvL p n y n) = @ev GF gfRing (fun j => gf (p j)) n (gf y) := by
  rw [hvL_ev hp hy n (Nat.le_refl _)]
  congr 1
  funext j
  rw [show n - n + j = j by omega]
theorem pwm_mul (x : Nat) : gm (pw x) (pwm x) = 1 := by
  unfold pwm
  rw [pw_mod, ← pw_mod x, gm_pp, show x % 255 + (255 - x % 255) = 255 by omega, pw_255]
theorem pwm_pow (x n : Nat) : gfPow (gf (pwm x)) n = gf (pwm (x * n)) := by
  have h1 : gfMul (gf (pw (x * n))) (gfPow (gf (pwm x)) n) = gf 1 := by
    letI := gfRing
    rw [← gfPow_pw]
    have h2 : gf (pw x) * gf (pwm x) = 1 := by
      show gfMul _ _ = gf 1
      rw [← show gf (gm _ _) = gfMul _ _ from gf_gm (pw_lt _) (pwm_lt _), pwm_mul]
    have h3 : ∀ n, gfPow (gf (pw x)) n * gfPow (gf (pwm x)) n = 1 := by
      intro n
      induction n with
      | zero => exact gfMul_one (gf 1)
      | succ n ih =>
        show gfPow (gf (pw x)) n * gf (pw x) * (gfPow (gf (pwm x)) n * gf (pwm x)) = 1
        grind
    exact h3 n
  have h4 : gfMul (gf (pw (x * n))) (gf (pwm (x * n))) = gf 1 := by
    rw [← show gf (gm _ _) = gfMul _ _ from gf_gm (pw_lt _) (pwm_lt _), pwm_mul]
  letI := gfRing
  have h5 : gf (pw (x * n)) * gfPow (gf (pwm x)) n = 1 := h1
  have h6 : gf (pw (x * n)) * gf (pwm (x * n)) = 1 := h4
  grind
theorem spL_slp {lc : Nat → Nat} (hl : lt256 18 lc) (x : Nat) : ∀ k, k ≤ 9 → gf (spL lc x k) = @slp GF gfRing (cF lc) (2 * k) (gf (pwm x)) := by
  letI := gfRing
  intro k
  induction k with
  | zero => intro _; rfl
  | succ k ih =>
    intro hk
    rw [spL, gf_xor (spL_lt hl x k (by omega)) (gm_lt _ (hl _ (by omega))), gf_gm (hl _ (by omega)) (pwm_lt _), ih (by omega), show 2 * (k + 1) = 2 * k + 1 + 1 by omega]
    unfold slp
    rw [fsum, fsum, if_neg (by omega), if_pos (by omega), cF_lt (by omega), show 2 * k + 1 - 1 = 2 * k by omega, ← pwm_pow]
    show _ + gf (lc (2 * k + 1)) * gfPow (gf (pwm x)) (2 * k) = _ + (0 : GF) + gf (lc (2 * k + 1)) * gfPow (gf (pwm x)) (2 * k)
    grind
/-- the evaluator's places -/
theorem feJ_at {v lc su : Nat → Nat} {i : Nat} : ∀ n j, feJ v lc su i n j = if j = i then feJ v lc su i n i else v j := by
  intro n
  induction n with
  | zero => intro j; by_cases e : j = i
            · rw [if_pos e, e]
            · rw [if_neg e]; rfl
  | succ n ih =>
    intro j
    by_cases e : j = i
    · rw [if_pos e, e]
    · rw [if_neg e, feJ]
      unfold va_up
      rw [if_neg e, ih j, if_neg e]
theorem feJ_sum {v lc su : Nat → Nat} {i : Nat} (hl : lt256 18 lc) (hs : lt256 17 su) (hv : lt256 17 v) (hi : i < 17) (hv0 : v i = 0) : ∀ n, n ≤ i + 1 → gf (feJ v lc su i n i) = @fsum GF gfRing (fun j => gfMul (cF lc j) (gf (su (i - j)))) n := by
  letI := gfRing
  intro n
  induction n with
  | zero => intro _; show gf (v i) = _; rw [hv0]; rfl
  | succ n ih =>
    intro hn
    have hlt := feJ_lt (su := su) hv hl hi n (by omega) i hi
    rw [feJ]
    unfold va_up
    rw [if_pos rfl, gf_xor hlt (gm_lt _ (hl n (by omega))), gf_gm (hl n (by omega)) (hs _ (by omega)), ih (by omega), fsum, cF_lt (by omega)]
    rfl
theorem feI_at {vl lc su : Nat → Nat} (hl : lt256 18 lc) (hs : lt256 17 su) : ∀ n, n ≤ 17 → ∀ j, j < 17 → gf (feI (flL vl 0 17) lc su n j) = if j < n then @conv GF gfRing (cF lc) (fun i => gf (su i)) j else gf 0 := by
  letI := gfRing
  intro n
  induction n with
  | zero => intro _ j hj; rw [if_neg (Nat.not_lt_zero j)]; show gf (flL vl 0 17 j) = _; rw [flL_at 17 j hj]
  | succ n ih =>
    intro hn j hj
    have hlt := feI_lt vl hl hs n (by omega)
    rw [feI, feJ_at]
    by_cases e : j = n
    · subst e
      have h0 : feI (flL vl 0 17) lc su j j = 0 := gf_inj (hlt j hj) (by decide) ((ih (by omega) j hj).trans (if_neg (Nat.lt_irrefl j)))
      rw [if_pos rfl, if_pos (by omega), feJ_sum hl hs hlt hj h0 (j + 1) (Nat.le_refl _)]
      rfl
    · rw [if_neg e, ih (by omega) j hj]
      by_cases e1 : j < n
      · rw [if_pos e1, if_pos (by omega)]
      · rw [if_neg e1, if_neg (by omega)]
theorem smL_at {su bt : Nat → Nat} : ∀ n k, k < n → smL su bt n k = hrn bt (pw k) 26 := by
  intro n
  induction n with
  | zero => intro k h; omega
  | succ n ih =>
    intro k h
    by_cases e : k = n
    · rw [e]; exact if_pos rfl
    · exact (show smL su bt (n + 1) k = smL su bt n k from if_neg e).trans (ih k (by omega))
theorem cwB_at {bt lc vl : Nat → Nat} : ∀ n j, cwB bt lc vl n j = if j < n then bt j ^^^ chg lc vl (25 - j) else bt j := by
  intro n
  induction n with
  | zero => intro j; rw [if_neg (Nat.not_lt_zero j)]; rfl
  | succ n ih =>
    intro j
    rw [cwB]
    unfold va_up
    by_cases e : j = n
    · rw [if_pos e, ih n, if_neg (Nat.lt_irrefl n), if_pos (by omega), e]
    · rw [if_neg e, ih j]
      by_cases e1 : j < n
      · rw [if_pos e1, if_pos (by omega)]
      · rw [if_neg e1, if_neg (by omega)]
/-- how many of the first n are not 0 -/
def ncn (f : Nat → Nat) : Nat → Nat
  | 0 => 0
  | n + 1 => ncn f n + (if f n = 0 then 0 else 1)
theorem ncn_first (f : Nat → Nat) : ∀ n, ncn f (n + 1) = (if f 0 = 0 then 0 else 1) + ncn (fun k => f (k + 1)) n := by
  intro n
  induction n with
  | zero => rw [ncn, ncn]; show 0 + _ = _ + 0; omega
  | succ n ih => rw [ncn, ih, ncn]; omega
theorem ncn_rev (f : Nat → Nat) : ∀ n, ncn (fun k => f (n - 1 - k)) n = ncn f n := by
  intro n
  induction n with
  | zero => rfl
  | succ n ih =>
    rw [ncn_first, ncn]
    have e : (fun k => f (n + 1 - 1 - (k + 1))) = fun k => f (n - 1 - k) := by
      funext k
      rw [show n + 1 - 1 - (k + 1) = n - 1 - k by omega]
    rw [e, ih, show n + 1 - 1 - 0 = n by omega]
    omega
theorem ncn_cw (lc vl : Nat → Nat) : ∀ n, cwC lc vl n = ncn (fun k => chg lc vl (25 - k)) n := by
  intro n
  induction n with
  | zero => rfl
  | succ n ih => rw [cwC, ncn, ih]
theorem xor_self_ne {a b : Nat} : a = a ^^^ b ↔ b = 0 := by
  constructor
  · intro h
    have h1 : a ^^^ a = a ^^^ (a ^^^ b) := by rw [← h]
    rw [← Nat.xor_assoc, Nat.xor_self, Nat.zero_xor] at h1
    exact h1.symm
  · intro h; rw [h, Nat.xor_zero]
/-- what is changed is counted -/
theorem dN_cw (bt lc vl : Nat → Nat) : dN bt (cwB bt lc vl 26) 26 = cwC lc vl 26 := by
  have h : ∀ n, n ≤ 26 → dN bt (cwB bt lc vl 26) n = ncn (chg lc vl) n := by
    intro n
    induction n with
    | zero => intro _; rfl
    | succ n ih =>
      intro hn
      rw [dN, ncn, ih (by omega), cwB_at, if_pos (show 25 - n < 26 by omega), show 25 - (25 - n) = n by omega]
      congr 1
      by_cases e : chg lc vl n = 0
      · rw [if_pos e, if_pos (xor_self_ne.mpr e)]
      · rw [if_neg e, if_neg (fun z => e (xor_self_ne.mp z))]
  rw [h 26 (Nat.le_refl _), ncn_cw]
  exact (ncn_rev (chg lc vl) 26).symm
theorem rep_ok {bt c su0 vl : Nat → Nat} {e : Nat} (lc fm sp : Nat → Nat) (he : e ≤ 17) (hbt : lt256 26 bt) (hsu : lt256 17 su0) (hc : lt256 26 c) (ho : okW c e) (hd : dN bt c 26 ≤ e / 2) :
    (bmS (smL su0 bt e) lc fm sp e).2.2.2.2.1 ≤ e / 2 ∧ ∀ j, j < 26 → cwB bt (bmS (smL su0 bt e) lc fm sp e).1 (feI (flL vl 0 17) (bmS (smL su0 bt e) lc fm sp e).1 (smL su0 bt e) e) 26 j = c j := by
  letI := gfRing
  have hs := smL_lt hsu hbt e
  have hS : ∀ i, i < e → gf (smL su0 bt e i) = syn (erL bt c 26) i := fun i hi => by rw [smL_at e i hi]; exact syn_of hbt hc ho hi
  have hes := erL_len bt c 26
  have hnd := erL_nd bt c 26 (Nat.le_refl _)
  have hne : ∀ z ∈ erL bt c 26, z.2 ≠ (0 : GF) := erL_ne hbt hc
  have hlen := bm_len lc fm sp hs he hS e (Nat.le_refl _)
  rw [hes] at hlen
  refine ⟨by omega, ?_⟩
  have hall := bm_all lc fm sp hs e he
  obtain ⟨h1, h2, h3, h4, h5⟩ := bm_ok lc fm sp hs e he
  have hvlt := feI_lt vl h1 hs e he
  have hfe := feI_at (vl := vl) h1 hs e he
  generalize hLC : (bmS (smL su0 bt e) lc fm sp e).1 = LC at hall h1 hvlt hfe ⊢
  generalize hVL : feI (flL vl 0 17) LC (smL su0 bt e) e = VL at hvlt hfe ⊢
  have hlam : ∀ i, cF LC i = lam ((erL bt c 26).map Prod.fst) i := lam_unique (F := GF) gf_dom (erL bt c 26) hnd hne (cF LC) (fun i => gf (smL su0 bt e i)) e (by rw [hes]; omega) hS hall.1 (fun i hi => hall.2.1 i (by rw [hes] at hi; omega)) (fun j hj hj2 => hall.2.2.2.1 j (by rw [hes] at hj; omega) hj2)
  have hlf : cF LC = lam ((erL bt c 26).map Prod.fst) := funext hlam
  have hom : ∀ j, j < 17 → gf (VL j) = omg (erL bt c 26) j := by
    intro j hj
    rw [hfe j hj]
    by_cases e1 : j < e
    · rw [if_pos e1, hlf, conv_congr (a' := lam ((erL bt c 26).map Prod.fst)) (b' := syn (erL bt c 26)) (fun _ _ => rfl) (fun i hi => hS i (by omega)), conv_lam]
    · rw [if_neg e1, omg_deg (erL bt c 26) j (by rw [hes]; omega)]; rfl
  have hchg : ∀ x, x < 26 → chg LC VL x = bt (25 - x) ^^^ c (25 - x) := by
    intro x hx
    have hxy : gf (pw x) * gf (pwm x) = 1 := by
      show gfMul _ _ = gf 1
      rw [← show gf (gm _ _) = gfMul _ _ from gf_gm (pw_lt _) (pwm_lt _), pwm_mul]
    have hv : gf (hvL LC 18 (pwm x) 18) = prd ((erL bt c 26).map Prod.fst) (gf (pwm x)) := by
      rw [hvL_all h1 (pwm_lt x), ← ev_lam _ (gf (pwm x)) 18 (by rw [List.length_map, hes]; omega), ← hlf]
      unfold ev
      exact fsum_congr (fun j hj => by show gf (LC j) * _ = cF LC j * _; rw [cF_lt hj])
    have hvl := hvL_lt h1 (pwm_lt x) 18 (Or.inl (by decide))
    by_cases hw : bt (25 - x) = c (25 - x)
    · have hX : gf (pw x) ∉ (erL bt c 26).map Prod.fst := by
        intro hin
        obtain ⟨z, hz, h6⟩ := List.mem_map.mp hin
        obtain ⟨p, hp, hpe, h7⟩ := erL_mem bt c 26 z hz
        rw [h7] at h6
        have := pw_inj26 p hp x hx (gf_inj (pw_lt p) (pw_lt x) h6)
        rw [this] at hpe
        exact hpe hw
      have hn0 := prd_ne (F := GF) gf_dom gf_10 _ (gf (pw x)) (gf (pwm x)) hX hxy
      rw [chg_f (fun z => hn0 (by rw [← hv, z]; rfl)), hw, Nat.xor_self]
    · have hin := erL_in bt c 26 x hx hw
      have hz0 := prd_zero (F := GF) ((erL bt c 26).map Prod.fst) (gf (pw x)) (gf (pwm x)) (List.mem_map.mpr ⟨_, hin, rfl⟩) hxy
      have hv0 : hvL LC 18 (pwm x) 18 = 0 := gf_inj hvl (by decide) (hv.trans hz0)
      rw [chg_t hv0]
      obtain ⟨c0, hc0, f1, f2⟩ := forney (F := GF) gf_dom gf_10 gf_h2 (gf (pw x)) (gf (bt (25 - x) ^^^ c (25 - x))) (gf (pwm x)) hxy (erL bt c 26) hnd hin 18 (by rw [hes]; omega)
      have a1 : gf (hvL VL 17 (pwm x) 17) = gf (bt (25 - x) ^^^ c (25 - x)) * c0 := by
        rw [hvL_all hvlt (pwm_lt x), ← f1, ev_upto (n := 17) (m := 18) (by decide) (fun i hi => omg_deg _ i (by rw [hes]; omega))]
        unfold ev
        exact fsum_congr (fun j hj => by show gf (VL j) * _ = omg (erL bt c 26) j * _; rw [hom j hj])
      have a2 : gf (spL LC x 9) = gf (pw x) * c0 := by
        rw [spL_slp h1 x 9 (Nat.le_refl _), hlf]
        exact f2
      have b1 := hvL_lt hvlt (pwm_lt x) 17 (Or.inl (by decide))
      have b2 := spL_lt h1 x 9 (Nat.le_refl _)
      have hsp : spL LC x 9 ≠ 0 := by
        intro z
        rw [z] at a2
        rcases gf_dom _ _ a2.symm with q | q
        · exact pw_ne x (gf_inj (pw_lt x) (by decide) q)
        · exact hc0 q
      have hq := qt_mul b1 b2 hsp
      rw [a1, a2] at hq
      have hq2 : gf (qtN (hvL VL 17 (pwm x) 17) (spL LC x 9)) * (gf (pw x) * c0) = gf (bt (25 - x) ^^^ c (25 - x)) * c0 := hq
      have hq3 : (gf (qtN (hvL VL 17 (pwm x) 17) (spL LC x 9)) * gf (pw x) - gf (bt (25 - x) ^^^ c (25 - x))) * c0 = 0 := by grind
      have hqb := qtN_lt _ _ b1 b2
      unfold caN
      refine gf_inj (gm_lt _ hqb) (xor_lt (hbt _ (by omega)) (hc _ (by omega))) ?_
      rw [gf_gm hqb (pw_lt x)]
      rcases gf_dom _ _ hq3 with q | q
      · have q2 : gf (qtN (hvL VL 17 (pwm x) 17) (spL LC x 9)) * gf (pw x) - gf (bt (25 - x) ^^^ c (25 - x)) = 0 := q
        show gf (qtN (hvL VL 17 (pwm x) 17) (spL LC x 9)) * gf (pw x) = _
        grind
      · exact absurd q hc0
  intro j hj
  rw [cwB_at, if_pos hj, hchg (25 - j) (by omega), show 25 - (25 - j) = j by omega, ← Nat.xor_assoc, Nat.xor_self, Nat.zero_xor]
end RSREP
