/-! What is read depends on the bytes below 26 alone; what is found, below the count alone -/
section SPEC_L1
def rdS (a b : Nat × Nat × Nat × (Nat → Nat)) : Prop := a.1 = b.1 ∧ a.2.1 = b.2.1 ∧ a.2.2.1 = b.2.2.1 ∧ ∀ j, j < a.2.2.1 → a.2.2.2 j = b.2.2.2 j
theorem nxL_congr {t t' : Nat → Nat} (h : ∀ j, j < 26 → t j = t' j) (p : Nat) : ∀ k, p + k ≤ 208 → nxL t p k = nxL t' p k := by
  intro k
  induction k with
  | zero => intro _; rfl
  | succ k ih =>
    intro hk
    rw [nxL, nxL, ih (by omega), h _ (by omega)]
theorem gpR_congr {r r' : Nat → Nat} {f x b v : Nat} (h : ∀ j, j < f → r j = r' j) : ∀ i, i ≤ x → ∀ j, (j < f ∨ f + (x - i) ≤ j) → j < f + x → gpR r f x b v i j = gpR r' f x b v i j := by
  intro i
  induction i with
  | zero =>
    intro _ j hj h2
    exact h j (by omega)
  | succ i ih =>
    intro hi j hj h2
    rw [gpR, gpR]
    unfold va_up
    by_cases e : j = f + (x - (i + 1))
    · rw [if_pos e, if_pos e]
    · rw [if_neg e, if_neg e]
      exact ih (by omega) j (by omega) h2
theorem tp_congr {tr tr' : Nat → Nat} {dt kd : Nat} (hdt : dt ≤ 26) (h : ∀ j, j < 26 → tr j = tr' j) : ∀ n l p f r r', (∀ j, j < f → r j = r' j) → rdS (tpW tr kd dt n l p f r) (tpW tr' kd dt n l p f r') := by
  intro n
  induction n with
  | zero => intro l p f r r' hr; exact ⟨rfl, rfl, rfl, hr⟩
  | succ n ih =>
    intro l p f r r' hr
    rw [tpW, tpW]
    by_cases h0 : l = 0
    · rw [if_pos h0, if_pos h0]; exact ⟨rfl, rfl, rfl, hr⟩
    rw [if_neg h0, if_neg h0]
    by_cases h1 : 8 * dt < p + gsz kd (min l (gmo kd))
    · rw [if_pos h1, if_pos h1]; exact ⟨rfl, rfl, rfl, hr⟩
    rw [if_neg h1, if_neg h1]
    rw [nxL_congr h p (gsz kd (min l (gmo kd))) (by omega)]
    by_cases h2 : gva kd ^ min l (gmo kd) ≤ nxL tr' p (gsz kd (min l (gmo kd)))
    · rw [if_pos h2, if_pos h2]; exact ⟨rfl, rfl, rfl, hr⟩
    rw [if_neg h2, if_neg h2]
    refine ih _ _ _ _ _ (fun j hj => gpR_congr hr _ (Nat.le_refl _) j (by omega) hj)
theorem dc_congr {tr tr' : Nat → Nat} {dt : Nat} (hdt : dt ≤ 26) (h : ∀ j, j < 26 → tr j = tr' j) : ∀ n p f r r', (∀ j, j < f → r j = r' j) → rdS (dcW tr dt n p f r) (dcW tr' dt n p f r') := by
  intro n
  induction n with
  | zero => intro p f r r' hr; exact ⟨rfl, rfl, rfl, hr⟩
  | succ n ih =>
    intro p f r r' hr
    rw [dcW, dcW]
    by_cases h0 : 8 * dt - p < 4
    · rw [if_pos h0, if_pos h0]; exact ⟨rfl, rfl, rfl, hr⟩
    rw [if_neg h0, if_neg h0]
    rw [nxL_congr h p 4 (by omega)]
    by_cases h1 : nxL tr' p 4 = 0
    · rw [if_pos h1, if_pos h1]; exact ⟨rfl, rfl, rfl, hr⟩
    rw [if_neg h1, if_neg h1]
    by_cases h2 : ¬ (nxL tr' p 4 = 1 ∨ nxL tr' p 4 = 2 ∨ nxL tr' p 4 = 4)
    · rw [if_pos h2, if_pos h2]; exact ⟨rfl, rfl, rfl, hr⟩
    rw [if_neg h2, if_neg h2]
    by_cases h3 : 8 * dt < p + 4 + wdN (nxL tr' p 4)
    · rw [if_pos h3, if_pos h3]; exact ⟨rfl, rfl, rfl, hr⟩
    rw [if_neg h3, if_neg h3]
    rw [nxL_congr h (p + 4) (wdN (nxL tr' p 4)) (by omega)]
    have hc := tp_congr (kd := nxL tr' p 4) hdt h (nxL tr' (p + 4) (wdN (nxL tr' p 4))) (nxL tr' (p + 4) (wdN (nxL tr' p 4))) (p + 4 + wdN (nxL tr' p 4)) f r r' hr
    generalize tpW tr (nxL tr' p 4) dt (nxL tr' (p + 4) (wdN (nxL tr' p 4))) (nxL tr' (p + 4) (wdN (nxL tr' p 4))) (p + 4 + wdN (nxL tr' p 4)) f r = a at hc ⊢
    generalize tpW tr' (nxL tr' p 4) dt (nxL tr' (p + 4) (wdN (nxL tr' p 4))) (nxL tr' (p + 4) (wdN (nxL tr' p 4))) (p + 4 + wdN (nxL tr' p 4)) f r' = b at hc ⊢
    obtain ⟨e1, e2, e3, e4⟩ := hc
    rw [← e1]
    by_cases h4 : a.1 = 0
    · rw [if_pos h4, if_pos h4]; exact ⟨e1, e2, e3, e4⟩
    rw [if_neg h4, if_neg h4, ← e2, ← e3]
    exact ih _ _ _ _ e4
/-- what the class reads, and what the reference reads, of the same bytes -/
theorem rd_both {tr tr' : Nat → Nat} {dt : Nat} (hdt : dt ≤ 26) (h : ∀ j, j < 26 → tr j = tr' j) (n : Nat) (r r' : Nat → Nat) : (dcW tr dt n 0 0 r).1 = (rtW tr' dt n 0 0 r').1 ∧ ((rtW tr' dt n 0 0 r').1 ≠ 0 → (dcW tr dt n 0 0 r).2.2.1 = (rtW tr' dt n 0 0 r').2.2.1 ∧ ∀ j, j < (rtW tr' dt n 0 0 r').2.2.1 → (dcW tr dt n 0 0 r).2.2.2 j = (rtW tr' dt n 0 0 r').2.2.2 j) := by
  obtain ⟨e1, e2, e3, e4⟩ := dc_congr hdt h n 0 0 r r' (fun j hj => absurd hj (Nat.not_lt_zero j))
  obtain ⟨d1, d2⟩ := dc_rt tr' dt n 0 0 r'
  refine ⟨e1.trans d1, fun h0 => ?_⟩
  rw [← d2 h0]
  exact ⟨e3, fun j hj => e4 j (by rw [e3]; exact hj)⟩
end SPEC_L1
/-! The class's repair and the reference's tries, on the same bytes -/
section SPEC_L2
theorem rp_both {B B' yd su0 vl lc fm sp tr sy sl sq : Nat → Nat} {e n9 : Nat} (he : e ≤ 17) (h9 : n9 = 9) (hB : lt256 26 B) (hBB : ∀ j, j < 26 → B j = B' j) (hyd : lt256 17 yd) (hS : ∀ k, k < e → yd k = hrn B' (pw k) 26) (hsu : lt256 17 su0) (hsy : lt256 72 sy) :
    (irL B e ≠ 0 ∧ (mnW B' yd e n9 0 tr sy sl sq).1 = 0 ∧ ∀ j, j < 26 → (mnW B' yd e n9 0 tr sy sl sq).2.1 j = B j) ∨
    (irL B e = 0 ∧ (bmS (smL su0 B e) lc fm sp e).2.2.2.2.1 ≤ e / 2 ∧ cwC (bmS (smL su0 B e) lc fm sp e).1 (feI (flL vl 0 17) (bmS (smL su0 B e) lc fm sp e).1 (smL su0 B e) e) 26 ≤ e / 2 ∧
      irL (cwB B (bmS (smL su0 B e) lc fm sp e).1 (feI (flL vl 0 17) (bmS (smL su0 B e) lc fm sp e).1 (smL su0 B e) e) 26) e ≠ 0 ∧
      (mnW B' yd e n9 0 tr sy sl sq).1 = cwC (bmS (smL su0 B e) lc fm sp e).1 (feI (flL vl 0 17) (bmS (smL su0 B e) lc fm sp e).1 (smL su0 B e) e) 26 ∧
      ∀ j, j < 26 → (mnW B' yd e n9 0 tr sy sl sq).2.1 j = cwB B (bmS (smL su0 B e) lc fm sp e).1 (feI (flL vl 0 17) (bmS (smL su0 B e) lc fm sp e).1 (smL su0 B e) e) 26 j) ∨
    (irL B e = 0 ∧ e / 2 < (mnW B' yd e n9 0 tr sy sl sq).1 ∧ (e / 2 < (bmS (smL su0 B e) lc fm sp e).2.2.2.2.1 ∨
      ((bmS (smL su0 B e) lc fm sp e).2.2.2.2.1 ≤ e / 2 ∧ e / 2 < cwC (bmS (smL su0 B e) lc fm sp e).1 (feI (flL vl 0 17) (bmS (smL su0 B e) lc fm sp e).1 (smL su0 B e) e) 26) ∨
      ((bmS (smL su0 B e) lc fm sp e).2.2.2.2.1 ≤ e / 2 ∧ cwC (bmS (smL su0 B e) lc fm sp e).1 (feI (flL vl 0 17) (bmS (smL su0 B e) lc fm sp e).1 (smL su0 B e) e) 26 ≤ e / 2 ∧
        irL (cwB B (bmS (smL su0 B e) lc fm sp e).1 (feI (flL vl 0 17) (bmS (smL su0 B e) lc fm sp e).1 (smL su0 B e) e) 26) e = 0))) := by
  subst h9
  have hB' : lt256 26 B' := fun j hj => by rw [← hBB j hj]; exact hB j hj
  by_cases h0 : ∃ c, lt256 26 c ∧ okW c e ∧ dN B c 26 ≤ e / 2
  · obtain ⟨c, hc, ho, hd⟩ := h0
    have hd' : dN B' c 26 ≤ e / 2 := by rw [← dN_congrL hBB 26]; exact hd
    obtain ⟨t1, t2⟩ := tries_ok he hB' hyd hS hc ho hd' 9 0 tr sy sl sq (by omega) (Nat.zero_le _) hsy
    by_cases hr : irL B e = 0
    · obtain ⟨r1, r2⟩ := rep_ok (vl := vl) lc fm sp he hB hsu hc ho hd
      have r3 := dN_cw B (bmS (smL su0 B e) lc fm sp e).1 (feI (flL vl 0 17) (bmS (smL su0 B e) lc fm sp e).1 (smL su0 B e) e)
      have r4 := dN_congr (w := B) r2 26
      refine Or.inr (Or.inl ⟨hr, r1, by omega, (irL_iff _ e).mpr (okW_congr (fun j hj => (r2 j hj).symm) ho), ?_, fun j hj => (t2 j hj).trans (r2 j hj).symm⟩)
      rw [t1, ← dN_congrL hBB 26, ← r4, r3]
    · have hoB := (irL_iff B e).mp hr
      have hu := ok_uniq hB hc hoB ho (Nat.le_trans hd (by omega))
      refine Or.inl ⟨hr, ?_, fun j hj => (t2 j hj).trans (hu j hj).symm⟩
      rw [t1, ← dN_congrL hBB 26, ← dN_congr (w := B) hu 26]
      exact dN_self B 26
  · have hno : ∀ c, lt256 26 c → okW c e → ¬ dN B' c 26 ≤ e / 2 := fun c hc ho hd => h0 ⟨c, hc, ho, by rw [dN_congrL hBB 26]; exact hd⟩
    have t1 := tries_no he hB' hyd hno 9 0 tr sy sl sq (by omega) hsy
    have hr : irL B e = 0 := Classical.byContradiction (fun hr => h0 ⟨B, hB, (irL_iff B e).mp hr, by rw [dN_self]; exact Nat.zero_le _⟩)
    refine Or.inr (Or.inr ⟨hr, t1, ?_⟩)
    by_cases h1 : e / 2 < (bmS (smL su0 B e) lc fm sp e).2.2.2.2.1
    · exact Or.inl h1
    by_cases h2 : e / 2 < cwC (bmS (smL su0 B e) lc fm sp e).1 (feI (flL vl 0 17) (bmS (smL su0 B e) lc fm sp e).1 (smL su0 B e) e) 26
    · exact Or.inr (Or.inl ⟨by omega, h2⟩)
    refine Or.inr (Or.inr ⟨by omega, by omega, ?_⟩)
    refine Classical.byContradiction (fun hg => ?_)
    have hs := smL_lt hsu hB e
    obtain ⟨k1, k2, k3, k4, k5⟩ := bm_ok lc fm sp hs e he
    have hv := feI_lt vl k1 hs e he
    refine h0 ⟨_, cwB_lt hB k1 hv 26 (Nat.le_refl _), (irL_iff _ e).mp hg, ?_⟩
    rw [dN_cw]
    omega
end SPEC_L2
/-! What both write -/
section SPEC_L3
theorem first_no {P : Nat → Prop} : ∀ n, (∀ j, j < n → P j) ∨ ∃ x, x < n ∧ ¬ P x ∧ ∀ j, j < x → P j := by
  intro n
  induction n with
  | zero => exact Or.inl (fun j h => absurd h (Nat.not_lt_zero j))
  | succ n ih =>
    rcases ih with h | ⟨x, h1, h2, h3⟩
    · by_cases hp : P n
      · refine Or.inl (fun j hj => ?_)
        by_cases e : j = n
        · rw [e]; exact hp
        · exact h j (by omega)
      · exact Or.inr ⟨n, Nat.lt_succ_self n, hp, h⟩
    · exact Or.inr ⟨x, by omega, h2, h3⟩
/-- the kinds, as the class asks them -/
theorem kd_cases (t : Nat → Nat) (n : Nat) : ((∀ j, j < n → (0 ≤ plI (t j) ∧ plI (t j) ≤ nI 9)) ∧ kdL t n = 1) ∨
    (∃ x0, x0 < n ∧ ¬ (0 ≤ plI (t x0) ∧ plI (t x0) ≤ nI 9) ∧ (∀ j, j < x0 → (0 ≤ plI (t j) ∧ plI (t j) ≤ nI 9)) ∧ (∀ j, j < n → (0 ≤ plI (t j))) ∧ kdL t n = 2) ∨
    (∃ x0 x2, x0 < n ∧ ¬ (0 ≤ plI (t x0) ∧ plI (t x0) ≤ nI 9) ∧ (∀ j, j < x0 → (0 ≤ plI (t j) ∧ plI (t j) ≤ nI 9)) ∧ x2 < n ∧ ¬ (0 ≤ plI (t x2)) ∧ (∀ j, j < x2 → (0 ≤ plI (t j))) ∧ kdL t n = 4) := by
  rcases first_no (P := fun j => 0 ≤ plI (t j) ∧ plI (t j) ≤ nI 9) n with h | ⟨x0, h1, h2, h3⟩
  · exact Or.inl ⟨h, kd_1 n h⟩
  rcases first_no (P := fun j => 0 ≤ plI (t j)) n with h | ⟨x2, h4, h5, h6⟩
  · refine Or.inr (Or.inl ⟨x0, h1, h2, h3, h, ?_⟩)
    exact (kd_2 n h).resolve_left (kd_no1 h1 h2)
  · exact Or.inr (Or.inr ⟨x0, x2, h1, h2, h3, h4, h5, h6, kd_4 h4 h5⟩)
theorem ck_db : ∀ v, v < 4 → 26 - ckN v = dbT v ∧ 7 ≤ ckN v ∧ ckN v ≤ 17 ∧ dbT v ≤ 19 ∧ 9 ≤ dbT v := by decide
/-- what the class puts into the bytes -/
abbrev apN (kd lv tc : Nat) (tx bt ge re : Nat → Nat) : Nat → Nat := va_cpy (dvI (va_cpy (frL (cxR kd tx tc (flL bt 0 26)).2 ((min ((cxR kd tx tc (flL bt 0 26)).1 + 4) (8 * dbT lv) + 7) / 8) (dbT lv - ((min ((cxR kd tx tc (flL bt 0 26)).1 + 4) (8 * dbT lv) + 7) / 8))) (flL re 0 26) 0 0 (dbT lv)) (gnI (va_up (flL ge 0 18) 0 1) (26 - dbT lv)) (26 - dbT lv) (dbT lv)) (frL (cxR kd tx tc (flL bt 0 26)).2 ((min ((cxR kd tx tc (flL bt 0 26)).1 + 4) (8 * dbT lv) + 7) / 8) (dbT lv - ((min ((cxR kd tx tc (flL bt 0 26)).1 + 4) (8 * dbT lv) + 7) / 8))) (dbT lv) (dbT lv) (26 - dbT lv)
/-- what the reference puts into the bytes -/
abbrev wpN (kd lv tc : Nat) (tx bi bt tr sy : Nat → Nat) : Nat → Nat := wbB bt tr sy ((flR (26 - ckN lv) (pxR kd tx tc bi).1 (pxR kd tx tc bi).2).2) (ckN lv)
theorem wr_bytes {kd lv tc : Nat} {tx bt ge re bi bt' tr sy : Nat → Nat} (hlv : lv < 4) (htc : tc ≤ 45) (hbi : ∀ j, j < 208 → bi j ≤ 1) (hfit : (pxR kd tx tc bi).1 ≤ 8 * (26 - ckN lv)) : ∀ j, j < 26 → apN kd lv tc tx bt ge re j = wpN kd lv tc tx bi bt' tr sy j := by
  obtain ⟨h1, h2, h3, h4, h5⟩ := ck_db lv hlv
  have hz : ∀ j, j < 26 → flL bt 0 26 j = 0 := fun j hj => flL_at 26 j hj
  obtain ⟨e1, e2⟩ := BR_text (y := flL bt 0 26) hz (show (pxR kd tx tc bi).1 ≤ 208 by omega)
  rw [h1] at hfit
  have e3 := BR_end (dt := dbT lv) (by omega) e2 hfit
  have hs := flR_le (dt := dbT lv) (m := (pxR kd tx tc bi).1) (pxR_in (kd := kd) (t := tx) htc hbi).1
  have e4 := BR_bytes (bt := bt') (show dbT lv ≤ 26 by omega) e3 hs
  unfold apN wpN
  rw [e1, h1]
  generalize frL (cxR kd tx tc (flL bt 0 26)).2 ((min ((pxR kd tx tc bi).1 + 4) (8 * dbT lv) + 7) / 8) (dbT lv - (min ((pxR kd tx tc bi).1 + 4) (8 * dbT lv) + 7) / 8) = Y at e4 ⊢
  generalize (flR (dbT lv) (pxR kd tx tc bi).1 (pxR kd tx tc bi).2).2 = s9 at e4 ⊢
  have e5 := append_eq (y := Y) (re := re) (ge := ge) (bt := bt') (tr := tr) (sy := sy) (s := s9) (ck := ckN lv) ⟨h2, h3⟩ (by rw [h1]; exact e4)
  rw [h1] at e5
  exact e5
end SPEC_L3
