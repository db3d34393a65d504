/-! GF(256) as a commutative ring; the roots that spots finds are at most as many as the degree -/
section GF_RING2
theorem gfNat_0 : gfNat 0 = gf 0 := rfl
theorem gfNat_1 : gfNat 1 = gf 1 := rfl
def gfRing : Lean.Grind.CommRing GF :=
  { gfSemi with
    neg := fun a => a
    sub := gfAdd
    intCast := ⟨fun i => gfNat i.natAbs⟩
    zsmul := ⟨fun i a => gfMul (gfNat i.natAbs) a⟩
    neg_add_cancel := fun a => gfAdd_self a
    sub_eq_add_neg := fun _ _ => rfl
    neg_zsmul := fun i a => by
      show gfMul (gfNat (-i).natAbs) a = gfMul (gfNat i.natAbs) a
      rw [Int.natAbs_neg]
    zsmul_natCast_eq_nsmul := fun n a => rfl
    intCast_ofNat := fun n => rfl
    intCast_neg := fun i => by
      show gfNat (-i).natAbs = gfNat i.natAbs
      rw [Int.natAbs_neg]
    mul_comm := gfMul_comm }
theorem gf_xor {a b : Nat} (ha : a < 256) (hb : b < 256) : gf (a ^^^ b) = gfRing.add (gf a) (gf b) := gv_inj (by
  show gv (gf (a ^^^ b)) = gv (gfAdd (gf a) (gf b))
  rw [gv_add, gv_gf (xor_lt ha hb), gv_gf ha, gv_gf hb])
theorem gf_gm {a b : Nat} (ha : a < 256) (hb : b < 256) : gf (gm a b) = gfRing.mul (gf a) (gf b) := gv_inj (by
  show gv (gf (gm a b)) = gv (gfMul (gf a) (gf b))
  rw [gv_mul, gv_gf (gm_lt b ha), gv_gf ha, gv_gf hb])
theorem gf_dom (a b : GF) (h : gfMul a b = gf 0) : a = gf 0 ∨ b = gf 0 := by
  have h1 : gm (gv a) (gv b) = 0 := by
    have := congrArg gv h
    rw [gv_mul, gv_gf (by decide)] at this
    exact this
  rcases gm_ne (gv_lt a) (gv_lt b) h1 with h2 | h2
  · exact Or.inl (gv_inj (by rw [h2, gv_gf (by decide)]))
  · exact Or.inr (gv_inj (by rw [h2, gv_gf (by decide)]))
theorem gf_inj {a b : Nat} (ha : a < 256) (hb : b < 256) (h : gf a = gf b) : a = b := by
  have := congrArg gv h
  rwa [gv_gf ha, gv_gf hb] at this
/-- the polynomial whose value hvS is, after i terms -/
def hvQ (so : Nat → Nat) (x i : Nat) : Nat → GF := fun j => if j = i then gf 1 else gf (so (x - i + j))
theorem hvS_ev {so : Nat → Nat} {y x : Nat} (hs : lt256 x so) (hy : y < 256) : ∀ i, i ≤ x → gf (hvS so y x i) = @ev GF gfRing (hvQ so x i) (i + 1) (gf y) := by
  letI := gfRing
  intro i
  induction i with
  | zero =>
    intro _
    show gf 1 = ev (hvQ so x 0) 1 (gf y)
    rw [ev_first]
    show gf 1 = gf 1 + gf y * 0
    grind
  | succ i ih =>
    intro h
    have hlt := hvS_lt hs hy i (by omega)
    rw [show hvS so y x (i + 1) = gm (hvS so y x i) y ^^^ so (x - (i + 1)) from rfl, gf_xor (gm_lt y hlt) (hs _ (by omega)), gf_gm hlt hy, ih (by omega), ev_first (hvQ so x (i + 1)) (i + 1) (gf y)]
    have e1 : hvQ so x (i + 1) 0 = gf (so (x - (i + 1))) := by
      unfold hvQ
      rw [if_neg (by omega), Nat.add_zero]
    have e2 : (fun j => hvQ so x (i + 1) (j + 1)) = hvQ so x i := by
      funext j
      unfold hvQ
      by_cases hj : j = i
      · rw [if_pos hj, if_pos (by omega)]
      · rw [if_neg hj, if_neg (by omega)]
        by_cases hx : i + 1 ≤ x
        · rw [show x - (i + 1) + (j + 1) = x - i + j by omega]
        · omega
    rw [e1, e2]
    show ev (hvQ so x i) (i + 1) (gf y) * gf y + gf (so (x - (i + 1))) = gf (so (x - (i + 1))) + gf y * ev (hvQ so x i) (i + 1) (gf y)
    grind
/-- the roots among the first q powers, as a list -/
def rtL (so : Nat → Nat) (x : Nat) : Nat → List Nat
  | 0 => []
  | q + 1 => if hvS so (pw q) x x = 0 then q :: rtL so x q else rtL so x q
theorem rtL_len (so : Nat → Nat) (x : Nat) : ∀ q, (rtL so x q).length = spC so x q := by
  intro q
  induction q with
  | zero => rfl
  | succ q ih =>
    rw [rtL, spC]
    split
    · rw [List.length_cons, ih]
    · rw [ih, Nat.add_zero]
theorem rtL_mem (so : Nat → Nat) (x : Nat) : ∀ q, ∀ a ∈ rtL so x q, a < q ∧ hvS so (pw a) x x = 0 := by
  intro q
  induction q with
  | zero => intro a h; cases h
  | succ q ih =>
    intro a h
    rw [rtL] at h
    split at h
    · rcases List.mem_cons.mp h with h1 | h1
      · subst h1; exact ⟨by omega, by assumption⟩
      · have := ih a h1; exact ⟨by omega, this.2⟩
    · have := ih a h; exact ⟨by omega, this.2⟩
theorem rtL_nd (so : Nat → Nat) (x : Nat) : ∀ q, (rtL so x q).Nodup := by
  intro q
  induction q with
  | zero => exact List.nodup_nil
  | succ q ih =>
    rw [rtL]
    split
    · refine List.nodup_cons.mpr ⟨fun h => ?_, ih⟩
      have := (rtL_mem so x q q h).1
      omega
    · exact ih
theorem pw_inj26 : ∀ i, i < 26 → ∀ j, j < 26 → pw i = pw j → i = j := by decide +kernel
theorem nodup_map {α β : Type} (f : α → β) : ∀ (l : List α), l.Nodup → (∀ a ∈ l, ∀ b ∈ l, f a = f b → a = b) → (l.map f).Nodup := by
  intro l
  induction l with
  | nil => intro _ _; exact List.nodup_nil
  | cons a l ih =>
    intro hn hf
    rw [List.map_cons]
    refine List.nodup_cons.mpr ⟨fun h => ?_, ih (List.nodup_cons.mp hn).2 (fun x hx y hy => hf x (List.mem_cons_of_mem _ hx) y (List.mem_cons_of_mem _ hy))⟩
    obtain ⟨b, hb, e⟩ := List.mem_map.mp h
    have := hf b (List.mem_cons_of_mem _ hb) a List.mem_cons_self e
    subst this
    exact (List.nodup_cons.mp hn).1 hb
/-- spots finds no more places than the degree -/
theorem spC_le {so : Nat → Nat} {x : Nat} (hs : lt256 x so) : ∀ q, q ≤ 26 → spC so x q ≤ x := by
  intro q hq
  refine Nat.not_lt.mp (fun hlt => ?_)
  letI := gfRing
  have hz := ev_roots (F := GF) gf_dom (x + 1) (hvQ so x x) ((rtL so x q).map (fun a => gf (pw a)))
    (nodup_map _ _ (rtL_nd so x q) (fun a ha b hb e => pw_inj26 a (Nat.lt_of_lt_of_le (rtL_mem so x q a ha).1 hq) b (Nat.lt_of_lt_of_le (rtL_mem so x q b hb).1 hq) (gf_inj (pw_lt a) (pw_lt b) e)))
    (by rw [List.length_map, rtL_len]; exact hlt)
    (fun z hz => by
      obtain ⟨a, ha, rfl⟩ := List.mem_map.mp hz
      have h1 := (rtL_mem so x q a ha).2
      rw [← hvS_ev hs (pw_lt a) x (Nat.le_refl _), h1]
      rfl)
    x (by omega)
  have h1 : hvQ so x x x = gf 1 := if_pos rfl
  rw [h1] at hz
  exact absurd (gf_inj (by decide) (by decide) (show gf 1 = gf 0 from hz)) (by decide)
end GF_RING2
