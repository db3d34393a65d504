/-! Words of 26 bytes: right ones, how far apart, what is wrong in them -/
section RSWORD
def okW (w : Nat → Nat) (e : Nat) : Prop := ∀ k, k < e → hrn w (pw k) 26 = 0
theorem irL_iff (w : Nat → Nat) : ∀ e, irL w e ≠ 0 ↔ okW w e := by
  intro e
  induction e with
  | zero => exact ⟨fun _ k h => absurd h (Nat.not_lt_zero k), fun _ => Nat.one_ne_zero⟩
  | succ e ih =>
    constructor
    · intro h k hk
      by_cases h1 : irL w e = 0
      · exact absurd (irL_f h1) h
      · by_cases h3 : hrn w (pw e) 26 = 0
        · by_cases e1 : k = e
          · rw [e1]; exact h3
          · exact ih.mp h1 k (by omega)
        · exact absurd (irL_g h3) h
    · intro h
      rw [irL_t (ih.mpr (fun k hk => h k (by omega))) (h e (by omega))]
      exact Nat.one_ne_zero
theorem hrn_congr {w c : Nat → Nat} {x : Nat} : ∀ n, (∀ j, j < n → w j = c j) → hrn w x n = hrn c x n := by
  intro n
  induction n with
  | zero => intro _; rfl
  | succ n ih => intro h; rw [hrn, hrn, ih (fun j hj => h j (by omega)), h n (by omega)]
theorem okW_congr {w c : Nat → Nat} {e : Nat} (h : ∀ j, j < 26 → w j = c j) (ho : okW w e) : okW c e := fun k hk => (hrn_congr 26 h).symm.trans (ho k hk)
theorem gfPow_pw (a : Nat) : ∀ n, gfPow (gf (pw a)) n = gf (pw (a * n)) := by
  intro n
  induction n with
  | zero => rfl
  | succ n ih =>
    show gfMul (gfPow (gf (pw a)) n) (gf (pw a)) = _
    rw [ih, ← show gf (gm _ _) = gfMul _ _ from gf_gm (pw_lt _) (pw_lt _), gm_pp]
    rfl
theorem gfPow_sw (a b : Nat) : gfPow (gf (pw a)) b = gfPow (gf (pw b)) a := by rw [gfPow_pw, gfPow_pw, Nat.mul_comm]
theorem hrn_ev {t : Nat → Nat} {x : Nat} (ht : lt256 26 t) (hx : x < 256) : ∀ n, n ≤ 26 → gf (hrn t x n) = @fsum GF gfRing (fun p => gfMul (gf (t (n - 1 - p))) (gfPow (gf x) p)) n := by
  letI := gfRing
  intro n
  induction n with
  | zero => intro _; rfl
  | succ n ih =>
    intro hn
    have hl := hrn_lt ht hx n (by omega)
    rw [hrn, gf_xor (gm_lt x hl) (ht n (by omega)), gf_gm hl hx, ih (by omega), fsum_first]
    have e : fsum (fun i => gfMul (gf (t (n + 1 - 1 - (i + 1)))) (gfPow (gf x) (i + 1))) n = fsum (fun p => gf x * (gfMul (gf (t (n - 1 - p))) (gfPow (gf x) p))) n := by
      refine fsum_congr (fun i hi => ?_)
      rw [show n + 1 - 1 - (i + 1) = n - 1 - i by omega]
      show gf (t (n - 1 - i)) * (gfPow (gf x) i * gf x) = gf x * (gf (t (n - 1 - i)) * gfPow (gf x) i)
      grind
    rw [e, fsum_mul, show n + 1 - 1 - 0 = n by omega]
    show fsum _ n * gf x + gf (t n) = gf (t n) * 1 + gf x * fsum _ n
    grind
/-- in how many of the first n places they differ, counted from the last byte -/
def dN (w c : Nat → Nat) : Nat → Nat
  | 0 => 0
  | p + 1 => dN w c p + (if w (25 - p) = c (25 - p) then 0 else 1)
def erL (w c : Nat → Nat) : Nat → List (GF × GF)
  | 0 => []
  | p + 1 => if w (25 - p) = c (25 - p) then erL w c p else (gf (pw p), gf (w (25 - p) ^^^ c (25 - p))) :: erL w c p
theorem erL_len (w c : Nat → Nat) : ∀ n, (erL w c n).length = dN w c n := by
  intro n
  induction n with
  | zero => rfl
  | succ n ih =>
    rw [erL, dN]
    split
    · rw [ih]; rfl
    · rw [List.length_cons, ih]
theorem erL_mem (w c : Nat → Nat) : ∀ n, ∀ e ∈ erL w c n, ∃ p, p < n ∧ w (25 - p) ≠ c (25 - p) ∧ e = (gf (pw p), gf (w (25 - p) ^^^ c (25 - p))) := by
  intro n
  induction n with
  | zero => intro e h; cases h
  | succ n ih =>
    intro e h
    rw [erL] at h
    split at h
    · obtain ⟨p, h1, h2⟩ := ih e h
      exact ⟨p, by omega, h2⟩
    · rename_i hne
      rcases List.mem_cons.mp h with h1 | h1
      · exact ⟨n, by omega, hne, h1⟩
      · obtain ⟨p, h2, h3⟩ := ih e h1
        exact ⟨p, by omega, h3⟩
theorem erL_in (w c : Nat → Nat) : ∀ n p, p < n → w (25 - p) ≠ c (25 - p) → (gf (pw p), gf (w (25 - p) ^^^ c (25 - p))) ∈ erL w c n := by
  intro n
  induction n with
  | zero => intro p h; omega
  | succ n ih =>
    intro p h hne
    rw [erL]
    by_cases e : p = n
    · subst e
      rw [if_neg hne]
      exact List.mem_cons_self
    · split
      · exact ih p (by omega) hne
      · exact List.mem_cons_of_mem _ (ih p (by omega) hne)
theorem erL_nd (w c : Nat → Nat) : ∀ n, n ≤ 26 → ((erL w c n).map Prod.fst).Nodup := by
  intro n
  induction n with
  | zero => intro _; exact List.nodup_nil
  | succ n ih =>
    intro hn
    rw [erL]
    split
    · exact ih (by omega)
    · rw [List.map_cons]
      refine List.nodup_cons.mpr ⟨fun h => ?_, ih (by omega)⟩
      obtain ⟨e, he, h1⟩ := List.mem_map.mp h
      obtain ⟨p, hp, _, h3⟩ := erL_mem w c n e he
      rw [h3] at h1
      have := pw_inj26 p (by omega) n (by omega) (gf_inj (pw_lt p) (pw_lt n) h1)
      omega
theorem xor_ne {a b : Nat} (h : a ≠ b) : a ^^^ b ≠ 0 := by
  intro h0
  refine h (Nat.eq_of_testBit_eq (fun i => ?_))
  have h1 : (a ^^^ b).testBit i = false := by rw [h0]; exact Nat.zero_testBit i
  rw [Nat.testBit_xor] at h1
  cases ha : a.testBit i <;> cases hb : b.testBit i <;> simp_all
theorem erL_ne {w c : Nat → Nat} (hw : lt256 26 w) (hc : lt256 26 c) {n : Nat} : ∀ e ∈ erL w c n, e.2 ≠ gf 0 := by
  intro e he
  obtain ⟨p, _, hne, h3⟩ := erL_mem w c n e he
  rw [h3]
  intro h
  exact xor_ne hne (gf_inj (xor_lt (hw _ (by omega)) (hc _ (by omega))) (by decide) h)
theorem erL_syn {w c : Nat → Nat} (hw : lt256 26 w) (hc : lt256 26 c) (k : Nat) : ∀ n, @syn GF gfRing (erL w c n) k = @fsum GF gfRing (fun p => gfMul (gf (w (25 - p) ^^^ c (25 - p))) (gfPow (gf (pw p)) k)) n := by
  letI := gfRing
  intro n
  induction n with
  | zero => rfl
  | succ n ih =>
    rw [erL, fsum]
    split
    · rename_i h
      rw [ih, h, Nat.xor_self]
      show _ = _ + gfMul (gf 0) _
      rw [gfMul_comm, gfMul_zero]
      show _ = _ + (0 : GF)
      grind
    · rw [syn, ih]
      show gf (w (25 - n) ^^^ c (25 - n)) * gfPow (gf (pw n)) k + _ = _ + gf (w (25 - n) ^^^ c (25 - n)) * gfPow (gf (pw n)) k
      grind
/-- the sums of a word are the syndromes of what is wrong in it -/
theorem syn_of {w c : Nat → Nat} {e k : Nat} (hw : lt256 26 w) (hc : lt256 26 c) (ho : okW c e) (hk : k < e) : gf (hrn w (pw k) 26) = @syn GF gfRing (erL w c 26) k := by
  letI := gfRing
  have h1 := hrn_ev hw (pw_lt k) 26 (Nat.le_refl _)
  have h2 := hrn_ev hc (pw_lt k) 26 (Nat.le_refl _)
  rw [ho k hk] at h2
  rw [h1, erL_syn hw hc k 26]
  have h3 : fsum (fun p => gfMul (gf (w (26 - 1 - p))) (gfPow (gf (pw k)) p)) 26 = fsum (fun p => gfMul (gf (w (26 - 1 - p))) (gfPow (gf (pw k)) p)) 26 + fsum (fun p => gfMul (gf (c (26 - 1 - p))) (gfPow (gf (pw k)) p)) 26 := by
    rw [← h2]
    show _ = _ + (0 : GF)
    grind
  rw [h3, ← fsum_add]
  refine fsum_congr (fun p hp => ?_)
  rw [gfPow_sw k p, gf_xor (hw _ (by omega)) (hc _ (by omega))]
  show gf (w (25 - p)) * gfPow (gf (pw p)) k + gf (c (25 - p)) * gfPow (gf (pw p)) k = (gf (w (25 - p)) + gf (c (25 - p))) * gfPow (gf (pw p)) k
  grind
theorem dN_tri (w c d : Nat → Nat) : ∀ n, dN c d n ≤ dN w c n + dN w d n := by
  intro n
  induction n with
  | zero => exact Nat.le_refl 0
  | succ n ih =>
    rw [dN, dN, dN]
    by_cases h1 : w (25 - n) = c (25 - n)
    · by_cases h2 : w (25 - n) = d (25 - n)
      · rw [if_pos h1, if_pos h2, if_pos (h1.symm.trans h2)]; omega
      · rw [if_pos h1, if_neg h2]; split <;> omega
    · rw [if_neg h1]; (repeat' split) <;> omega
theorem dN_congr {w c d : Nat → Nat} (h : ∀ j, j < 26 → c j = d j) : ∀ n, dN w c n = dN w d n := by
  intro n
  induction n with
  | zero => rfl
  | succ n ih => rw [dN, dN, ih, h (25 - n) (by omega)]
theorem dN_zero {w c : Nat → Nat} : ∀ n, dN w c n = 0 → ∀ p, p < n → w (25 - p) = c (25 - p) := by
  intro n
  induction n with
  | zero => intro _ p h; omega
  | succ n ih =>
    intro h p hp
    rw [dN] at h
    by_cases e : w (25 - n) = c (25 - n)
    · by_cases e1 : p = n
      · rw [e1]; exact e
      · exact ih (by omega) p (by omega)
    · rw [if_neg e] at h; omega
/-- right words that are near each other are one -/
theorem ok_uniq {c d : Nat → Nat} {e : Nat} (hc : lt256 26 c) (hd : lt256 26 d) (ho : okW c e) (hp : okW d e) (h : dN c d 26 ≤ e) : ∀ j, j < 26 → c j = d j := by
  letI := gfRing
  intro j hj
  refine Classical.byContradiction (fun hne => ?_)
  have hz := syn_zero (F := GF) gf_dom (erL c d 26).length (erL c d 26) rfl (erL_nd c d 26 (Nat.le_refl _)) (fun i hi => by
    rw [← syn_of (k := i) hc hd hp (by rw [erL_len] at hi; omega), ho i (by rw [erL_len] at hi; omega)]
    rfl)
  have hin := erL_in c d 26 (25 - j) (by omega) (by rw [show 25 - (25 - j) = j by omega]; exact hne)
  exact erL_ne hc hd _ hin (hz _ hin)
end RSWORD
