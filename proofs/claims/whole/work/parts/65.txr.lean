/-! What the class reads of the data bytes is what the reference reads -/
section TXR
theorem gpV_div (v b : Nat) : ∀ i, gpV v b i = v / b ^ i := by
  intro i
  induction i with
  | zero => rw [Nat.pow_zero, Nat.div_one]; rfl
  | succ i ih => rw [gpV, ih, Nat.pow_succ, Nat.div_div_eq_div_mul]
theorem gpV_z {v b i : Nat} (hb : 0 < b) : gpV v b i = 0 ↔ v < b ^ i := by
  rw [gpV_div]
  have hp : 0 < b ^ i := Nat.pow_pos hb
  constructor
  · intro h
    rcases Nat.lt_or_ge v (b ^ i) with q | q
    · exact q
    · have := (Nat.one_le_div_iff hp).mpr q; omega
  · exact fun h => Nat.div_eq_of_lt h
theorem gva_pos (kd : Nat) : 0 < gva kd := by unfold gva; (repeat' split) <;> omega
/-- a part's characters, as the class takes them: good, place, found, what is read -/
def tpW (tr : Nat → Nat) (kd dt : Nat) : Nat → Nat → Nat → Nat → (Nat → Nat) → Nat × Nat × Nat × (Nat → Nat)
  | 0, _, p, f, r => (1, p, f, r)
  | n + 1, l, p, f, r => if l = 0 then (1, p, f, r) else if 8 * dt < p + gsz kd (min l (gmo kd)) then (0, p, f, r) else
      if gva kd ^ min l (gmo kd) ≤ nxL tr p (gsz kd (min l (gmo kd))) then (0, p + gsz kd (min l (gmo kd)), f, r)
      else tpW tr kd dt n (l - min l (gmo kd)) (p + gsz kd (min l (gmo kd))) (f + min l (gmo kd)) (gpR r f (min l (gmo kd)) (gva kd) (nxL tr p (gsz kd (min l (gmo kd)))) (min l (gmo kd)))
theorem tpW_z {tr : Nat → Nat} {kd dt n l p f : Nat} {r : Nat → Nat} (h : l = 0) : tpW tr kd dt n l p f r = (1, p, f, r) := by
  cases n with
  | zero => rfl
  | succ n => rw [tpW, if_pos h]
theorem tpW_no {tr : Nat → Nat} {kd dt n l p f x z : Nat} {r : Nat → Nat} (h : l ≠ 0) (hx : min l (gmo kd) = x) (hz : gsz kd x = z) (hr : 8 * dt < p + z) : tpW tr kd dt (n + 1) l p f r = (0, p, f, r) := by
  subst hx; subst hz
  rw [tpW, if_neg h, if_pos hr]
theorem tpW_bad {tr : Nat → Nat} {kd dt n l p f x z : Nat} {r : Nat → Nat} (h : l ≠ 0) (hx : min l (gmo kd) = x) (hz : gsz kd x = z) (hr : p + z ≤ 8 * dt) (hg : gva kd ^ x ≤ nxL tr p z) : tpW tr kd dt (n + 1) l p f r = (0, p + z, f, r) := by
  subst hx; subst hz
  rw [tpW, if_neg h, if_neg (by omega), if_pos hg]
theorem tpW_s {tr : Nat → Nat} {kd dt n l p f x z : Nat} {r : Nat → Nat} (h : l ≠ 0) (hx : min l (gmo kd) = x) (hz : gsz kd x = z) (hr : p + z ≤ 8 * dt) (hg : nxL tr p z < gva kd ^ x) : tpW tr kd dt (n + 1) l p f r = tpW tr kd dt n (l - x) (p + z) (f + x) (gpR r f x (gva kd) (nxL tr p z) x) := by
  subst hx; subst hz
  rw [tpW, if_neg h, if_neg (by omega), if_neg (by omega)]
theorem tp_ch (tr : Nat → Nat) (kd dt : Nat) : ∀ n l p f r, (tpW tr kd dt n l p f r).1 = (chW tr kd dt n l p f r).1 ∧ ((chW tr kd dt n l p f r).1 ≠ 0 → tpW tr kd dt n l p f r = chW tr kd dt n l p f r) := by
  intro n
  induction n with
  | zero => intro l p f r; exact ⟨rfl, fun _ => rfl⟩
  | succ n ih =>
    intro l p f r
    by_cases h : l = 0
    · rw [tpW_z h, chW_z h]; exact ⟨rfl, fun _ => rfl⟩
    · by_cases hr : 8 * dt < p + gsz kd (min l (gmo kd))
      · rw [tpW_no h rfl rfl hr, chW_no h rfl rfl hr]; exact ⟨rfl, fun _ => rfl⟩
      · by_cases hg : nxL tr p (gsz kd (min l (gmo kd))) < gva kd ^ min l (gmo kd)
        · rw [tpW_s h rfl rfl (by omega) hg, chW_s h rfl rfl (by omega) ((gpV_z (gva_pos kd)).mpr hg)]
          exact ih _ _ _ _
        · rw [tpW_bad h rfl rfl (by omega) (by omega), chW_bad h rfl rfl (by omega) (fun z => hg ((gpV_z (gva_pos kd)).mp z))]
          exact ⟨rfl, fun z => absurd rfl z⟩
/-- all parts, as the class takes them -/
def dcW (tr : Nat → Nat) (dt : Nat) : Nat → Nat → Nat → (Nat → Nat) → Nat × Nat × Nat × (Nat → Nat)
  | 0, p, f, r => (1, p, f, r)
  | n + 1, p, f, r => if 8 * dt - p < 4 then (1, p, f, r) else if nxL tr p 4 = 0 then (1, p + 4, f, r) else
      if ¬ (nxL tr p 4 = 1 ∨ nxL tr p 4 = 2 ∨ nxL tr p 4 = 4) then (0, p + 4, f, r) else
      if 8 * dt < p + 4 + wdN (nxL tr p 4) then (0, p + 4, f, r) else
      if (tpW tr (nxL tr p 4) dt (nxL tr (p + 4) (wdN (nxL tr p 4))) (nxL tr (p + 4) (wdN (nxL tr p 4))) (p + 4 + wdN (nxL tr p 4)) f r).1 = 0 then tpW tr (nxL tr p 4) dt (nxL tr (p + 4) (wdN (nxL tr p 4))) (nxL tr (p + 4) (wdN (nxL tr p 4))) (p + 4 + wdN (nxL tr p 4)) f r
      else dcW tr dt n (tpW tr (nxL tr p 4) dt (nxL tr (p + 4) (wdN (nxL tr p 4))) (nxL tr (p + 4) (wdN (nxL tr p 4))) (p + 4 + wdN (nxL tr p 4)) f r).2.1 (tpW tr (nxL tr p 4) dt (nxL tr (p + 4) (wdN (nxL tr p 4))) (nxL tr (p + 4) (wdN (nxL tr p 4))) (p + 4 + wdN (nxL tr p 4)) f r).2.2.1 (tpW tr (nxL tr p 4) dt (nxL tr (p + 4) (wdN (nxL tr p 4))) (nxL tr (p + 4) (wdN (nxL tr p 4))) (p + 4 + wdN (nxL tr p 4)) f r).2.2.2
theorem dc_rt (tr : Nat → Nat) (dt : Nat) : ∀ n p f r, (dcW tr dt n p f r).1 = (rtW tr dt n p f r).1 ∧ ((rtW tr dt n p f r).1 ≠ 0 → dcW tr dt n p f r = rtW tr dt n p f r) := by
  intro n
  induction n with
  | zero => intro p f r; exact ⟨rfl, fun _ => rfl⟩
  | succ n ih =>
    intro p f r
    rw [dcW, rtW]
    by_cases h1 : 8 * dt - p < 4
    · rw [if_pos h1, if_pos h1]; exact ⟨rfl, fun _ => rfl⟩
    rw [if_neg h1, if_neg h1]
    by_cases h2 : nxL tr p 4 = 0
    · rw [if_pos h2, if_pos h2]; exact ⟨rfl, fun _ => rfl⟩
    rw [if_neg h2, if_neg h2]
    by_cases h3 : ¬ (nxL tr p 4 = 1 ∨ nxL tr p 4 = 2 ∨ nxL tr p 4 = 4)
    · rw [if_pos h3, if_pos h3]; exact ⟨rfl, fun _ => rfl⟩
    rw [if_neg h3, if_neg h3]
    by_cases h4 : 8 * dt < p + 4 + wdN (nxL tr p 4)
    · rw [if_pos h4, if_pos h4]; exact ⟨rfl, fun _ => rfl⟩
    rw [if_neg h4, if_neg h4]
    obtain ⟨t1, t2⟩ := tp_ch tr (nxL tr p 4) dt (nxL tr (p + 4) (wdN (nxL tr p 4))) (nxL tr (p + 4) (wdN (nxL tr p 4))) (p + 4 + wdN (nxL tr p 4)) f r
    by_cases h5 : (chW tr (nxL tr p 4) dt (nxL tr (p + 4) (wdN (nxL tr p 4))) (nxL tr (p + 4) (wdN (nxL tr p 4))) (p + 4 + wdN (nxL tr p 4)) f r).1 = 0
    · rw [if_pos h5, if_pos (t1.trans h5)]
      exact ⟨t1, fun z => absurd h5 z⟩
    · rw [if_neg h5, if_neg (by rw [t1]; exact h5), t2 h5]
      exact ih _ _ _
end TXR
