/-! The mathematics of the check bytes: finite sums, locators, syndromes, Vandermonde, Berlekamp and Massey, Forney; over any commutative ring without divisors of zero (of characteristic 2 where it says so). -/
section RS_SUM
/-- f 0 + .. + f (n - 1) -/
def fsum {F : Type} [Lean.Grind.CommRing F] (f : Nat → F) : Nat → F
  | 0 => 0
  | n + 1 => fsum f n + f n
theorem fsum_congr {F : Type} [Lean.Grind.CommRing F] {f g : Nat → F} : ∀ {n : Nat}, (∀ i, i < n → f i = g i) → fsum f n = fsum g n := by
  intro n
  induction n with
  | zero => intro _; rfl
  | succ n ih =>
    intro h
    rw [fsum, fsum, ih (fun i hi => h i (by omega)), h n (by omega)]
theorem fsum_zero {F : Type} [Lean.Grind.CommRing F] {f : Nat → F} : ∀ {n : Nat}, (∀ i, i < n → f i = 0) → fsum f n = 0 := by
  intro n
  induction n with
  | zero => intro _; rfl
  | succ n ih =>
    intro h
    rw [fsum, ih (fun i hi => h i (by omega)), h n (by omega)]
    grind
theorem fsum_add {F : Type} [Lean.Grind.CommRing F] (f g : Nat → F) (n : Nat) : fsum (fun i => f i + g i) n = fsum f n + fsum g n := by
  induction n with
  | zero => simp only [fsum]; grind
  | succ n ih => simp only [fsum, ih]; grind
theorem fsum_sub {F : Type} [Lean.Grind.CommRing F] (f g : Nat → F) (n : Nat) : fsum (fun i => f i - g i) n = fsum f n - fsum g n := by
  induction n with
  | zero => simp only [fsum]; grind
  | succ n ih => simp only [fsum, ih]; grind
theorem fsum_mul {F : Type} [Lean.Grind.CommRing F] (c : F) (f : Nat → F) (n : Nat) : fsum (fun i => c * f i) n = c * fsum f n := by
  induction n with
  | zero => simp only [fsum]; grind
  | succ n ih => simp only [fsum, ih]; grind
theorem fsum_first {F : Type} [Lean.Grind.CommRing F] (f : Nat → F) (n : Nat) : fsum f (n + 1) = f 0 + fsum (fun i => f (i + 1)) n := by
  induction n with
  | zero => simp only [fsum]; grind
  | succ n ih => rw [fsum, ih, fsum]; grind
theorem fsum_swap {F : Type} [Lean.Grind.CommRing F] (f : Nat → Nat → F) (n m : Nat) : fsum (fun i => fsum (fun j => f i j) m) n = fsum (fun j => fsum (fun i => f i j) n) m := by
  induction n with
  | zero => simp only [fsum]; exact (fsum_zero (fun _ _ => rfl)).symm
  | succ n ih => simp only [fsum, ih]; rw [fsum_add]
theorem fsum_grow {F : Type} [Lean.Grind.CommRing F] {f : Nat → F} {n : Nat} (k : Nat) (h : ∀ i, n ≤ i → f i = 0) : fsum f (n + k) = fsum f n := by
  induction k with
  | zero => rfl
  | succ k ih => rw [← Nat.add_assoc, fsum, ih, h (n + k) (by omega)]; grind
theorem fsum_upto {F : Type} [Lean.Grind.CommRing F] {f : Nat → F} {n m : Nat} (hnm : n ≤ m) (h : ∀ i, n ≤ i → f i = 0) : fsum f m = fsum f n := by
  obtain ⟨k, rfl⟩ : ∃ k, m = n + k := ⟨m - n, by omega⟩
  exact fsum_grow k h
theorem fsum_upto' {F : Type} [Lean.Grind.CommRing F] {f : Nat → F} {n m : Nat} (hnm : n ≤ m) (h : ∀ i, n ≤ i → i < m → f i = 0) : fsum f m = fsum f n := by
  have e : fsum f m = fsum (fun i => if i < m then f i else 0) m := fsum_congr (fun i hi => by rw [if_pos hi])
  have e2 : fsum f n = fsum (fun i => if i < m then f i else 0) n := fsum_congr (fun i hi => by rw [if_pos (by omega)])
  rw [e, e2]
  refine fsum_upto hnm (fun i hi => ?_)
  by_cases h2 : i < m
  · rw [if_pos h2]; exact h i hi h2
  · rw [if_neg h2]
theorem fsum_one {F : Type} [Lean.Grind.CommRing F] {f : Nat → F} {n k : Nat} (hk : k < n) (h : ∀ i, i < n → i ≠ k → f i = 0) : fsum f n = f k := by
  induction n with
  | zero => omega
  | succ n ih =>
    rw [fsum]
    by_cases hn : k = n
    · subst hn
      rw [fsum_zero (fun i hi => h i (by omega) (by omega))]
      grind
    · rw [ih (by omega) (fun i hi hne => h i (by omega) hne), h n (by omega) (fun q => hn q.symm)]
      grind
end RS_SUM
section RS_CONV
/-- a sequence moved up by one -/
def shf {F : Type} [Lean.Grind.CommRing F] (f : Nat → F) : Nat → F
  | 0 => 0
  | i + 1 => f i
/-- the product of two sequences: its n-th term -/
def conv {F : Type} [Lean.Grind.CommRing F] (a b : Nat → F) (n : Nat) : F := fsum (fun i => a i * b (n - i)) (n + 1)
theorem conv_congr {F : Type} [Lean.Grind.CommRing F] {a a' b b' : Nat → F} {n : Nat} (h : ∀ i, i ≤ n → a i = a' i) (h2 : ∀ i, i ≤ n → b i = b' i) : conv a b n = conv a' b' n :=
  fsum_congr (fun i hi => by rw [h i (by omega), h2 (n - i) (by omega)])
theorem conv_subL {F : Type} [Lean.Grind.CommRing F] (a a' b : Nat → F) (n : Nat) : conv (fun i => a i - a' i) b n = conv a b n - conv a' b n := by
  unfold conv
  rw [← fsum_sub]
  exact fsum_congr (fun i _ => by grind)
theorem conv_mulL {F : Type} [Lean.Grind.CommRing F] (c : F) (a b : Nat → F) (n : Nat) : conv (fun i => c * a i) b n = c * conv a b n := by
  unfold conv
  rw [← fsum_mul]
  exact fsum_congr (fun i _ => by grind)
theorem conv_addR {F : Type} [Lean.Grind.CommRing F] (a b b' : Nat → F) (n : Nat) : conv a (fun i => b i + b' i) n = conv a b n + conv a b' n := by
  unfold conv
  rw [← fsum_add]
  exact fsum_congr (fun i _ => by grind)
theorem conv_mulR {F : Type} [Lean.Grind.CommRing F] (c : F) (a b : Nat → F) (n : Nat) : conv a (fun i => c * b i) n = c * conv a b n := by
  unfold conv
  rw [← fsum_mul]
  exact fsum_congr (fun i _ => by grind)
theorem conv_shf0 {F : Type} [Lean.Grind.CommRing F] (a b : Nat → F) : conv (shf a) b 0 = 0 := by
  unfold conv
  simp only [fsum, shf]
  grind
theorem conv_shf {F : Type} [Lean.Grind.CommRing F] (a b : Nat → F) (n : Nat) : conv (shf a) b (n + 1) = conv a b n := by
  unfold conv
  rw [fsum_first]
  have e : fsum (fun i => shf a (i + 1) * b (n + 1 - (i + 1))) (n + 1) = fsum (fun i => a i * b (n - i)) (n + 1) := by
    refine fsum_congr (fun i hi => ?_)
    rw [show n + 1 - (i + 1) = n - i by omega]
    rfl
  rw [e]
  simp only [shf]
  grind
/-- only the first L + 1 terms count where the rest is 0 -/
theorem conv_cut {F : Type} [Lean.Grind.CommRing F] {a b : Nat → F} {n L : Nat} (hL : L ≤ n) (h : ∀ i, L < i → a i = 0) : conv a b n = fsum (fun i => a i * b (n - i)) (L + 1) := by
  unfold conv
  refine fsum_upto (by omega) (fun i hi => ?_)
  rw [h i (by omega)]
  grind
/-- a sequence moved up by k -/
def shk {F : Type} [Lean.Grind.CommRing F] (k : Nat) (f : Nat → F) : Nat → F := fun i => if k ≤ i then f (i - k) else 0
theorem conv_shk_lo {F : Type} [Lean.Grind.CommRing F] (a b : Nat → F) {k n : Nat} (h : n < k) : conv (shk k a) b n = 0 := by
  unfold conv
  refine fsum_zero (fun i hi => ?_)
  rw [shk, if_neg (by omega)]
  grind
theorem conv_shk {F : Type} [Lean.Grind.CommRing F] (a b : Nat → F) (k n : Nat) : conv (shk k a) b (n + k) = conv a b n := by
  induction k with
  | zero =>
    show conv (shk 0 a) b n = conv a b n
    exact conv_congr (fun i _ => by rw [shk, if_pos (Nat.zero_le _)]; rfl) (fun _ _ => rfl)
  | succ k ih =>
    show conv (shk (k + 1) a) b (n + k + 1) = conv a b n
    rw [← ih, ← conv_shf (shk k a) b (n + k)]
    refine conv_congr (F := F) (a := shk (k + 1) a) (a' := shf (shk k a)) (b := b) (b' := b) (fun i _ => ?_) (fun _ _ => rfl)
    cases i with
    | zero => rw [shk, if_neg (by omega)]; rfl
    | succ i =>
      show shk (k + 1) a (i + 1) = shk k a i
      by_cases h : k ≤ i
      · rw [shk, shk, if_pos (by omega), if_pos h, show i + 1 - (k + 1) = i - k by omega]
      · rw [shk, shk, if_neg (by omega), if_neg h]
end RS_CONV
section RS_LOC
/-- the product of all 1 - X x, lowest power first -/
def lam {F : Type} [Lean.Grind.CommRing F] : List F → Nat → F
  | [] => fun i => if i = 0 then 1 else 0
  | X :: xs => fun i => lam xs i - X * shf (lam xs) i
/-- the syndromes of wrong places X with values Y -/
def syn {F : Type} [Lean.Grind.CommRing F] : List (F × F) → Nat → F
  | [], _ => 0
  | (X, Y) :: es, i => Y * X ^ i + syn es i
/-- the evaluator -/
def omg {F : Type} [Lean.Grind.CommRing F] : List (F × F) → Nat → F
  | [] => fun _ => 0
  | (X, Y) :: es => fun i => Y * lam (es.map Prod.fst) i + (omg es i - X * shf (omg es) i)
theorem lam_0 {F : Type} [Lean.Grind.CommRing F] (xs : List F) : lam xs 0 = 1 := by
  induction xs with
  | nil => rfl
  | cons X xs ih => show lam xs 0 - X * 0 = 1; rw [ih]; grind
theorem lam_deg {F : Type} [Lean.Grind.CommRing F] (xs : List F) : ∀ i, xs.length < i → lam xs i = 0 := by
  induction xs with
  | nil => intro i h; show (if i = 0 then (1 : F) else 0) = 0; rw [if_neg (by simp at h; omega)]
  | cons X xs ih =>
    intro i h
    simp only [List.length_cons] at h
    cases i with
    | zero => omega
    | succ i =>
      show lam xs (i + 1) - X * lam xs i = 0
      rw [ih (i + 1) (by omega), ih i (by omega)]
      grind
theorem omg_deg {F : Type} [Lean.Grind.CommRing F] (es : List (F × F)) : ∀ i, es.length ≤ i → omg es i = 0 := by
  induction es with
  | nil => intro i _; rfl
  | cons e es ih =>
    obtain ⟨X, Y⟩ := e
    intro i h
    simp only [List.length_cons] at h
    cases i with
    | zero => omega
    | succ i =>
      show Y * lam (es.map Prod.fst) (i + 1) + (omg es (i + 1) - X * omg es i) = 0
      rw [lam_deg _ (i + 1) (by simp; omega), ih (i + 1) (by omega), ih i (by omega)]
      grind
theorem conv_pow {F : Type} [Lean.Grind.CommRing F] (a : Nat → F) (X : F) (n : Nat) : conv a (fun i => X ^ i) (n + 1) = X * conv a (fun i => X ^ i) n + a (n + 1) := by
  unfold conv
  rw [fsum, ← fsum_mul]
  show fsum (fun i => a i * X ^ (n + 1 - i)) (n + 1) + a (n + 1) * X ^ (n + 1 - (n + 1)) = fsum (fun i => X * (a i * X ^ (n - i))) (n + 1) + a (n + 1)
  rw [show n + 1 - (n + 1) = 0 by omega, Lean.Grind.Semiring.pow_zero, Lean.Grind.Semiring.mul_one]
  congr 1
  refine fsum_congr (fun i hi => ?_)
  rw [show n + 1 - i = (n - i) + 1 by omega, Lean.Grind.Semiring.pow_succ]
  grind
/-- syndromes times locator: the evaluator, to every power -/
theorem conv_lam {F : Type} [Lean.Grind.CommRing F] (es : List (F × F)) : ∀ n, conv (lam (es.map Prod.fst)) (syn es) n = omg es n := by
  induction es with
  | nil =>
    intro n
    show conv _ (fun _ => (0 : F)) n = 0
    exact fsum_zero (fun i _ => by grind)
  | cons e es ih =>
    obtain ⟨X, Y⟩ := e
    intro n
    have hs : ∀ k, conv (lam (es.map Prod.fst)) (syn ((X, Y) :: es)) k = Y * conv (lam (es.map Prod.fst)) (fun i => X ^ i) k + omg es k := by
      intro k
      show conv _ (fun i => Y * X ^ i + syn es i) k = _
      rw [conv_addR, conv_mulR, ih k]
    show conv (fun i => lam (es.map Prod.fst) i - X * shf (lam (es.map Prod.fst)) i) (syn ((X, Y) :: es)) n = Y * lam (es.map Prod.fst) n + (omg es n - X * shf (omg es) n)
    rw [conv_subL, conv_mulL]
    cases n with
    | zero =>
      rw [conv_shf0, hs 0]
      have e1 : conv (lam (es.map Prod.fst)) (fun i => X ^ i) 0 = lam (es.map Prod.fst) 0 := by
        unfold conv
        simp only [fsum]
        rw [Lean.Grind.Semiring.pow_zero]
        grind
      rw [e1]
      show _ = Y * lam (es.map Prod.fst) 0 + (omg es 0 - X * 0)
      grind
    | succ n =>
      rw [conv_shf, hs (n + 1), hs n, conv_pow]
      show _ = Y * lam (es.map Prod.fst) (n + 1) + (omg es (n + 1) - X * omg es n)
      grind
end RS_LOC
section RS_EV
/-- the value of a polynomial of n coefficients -/
def ev {F : Type} [Lean.Grind.CommRing F] (q : Nat → F) (n : Nat) (x : F) : F := fsum (fun i => q i * x ^ i) n
theorem ev_first {F : Type} [Lean.Grind.CommRing F] (q : Nat → F) (n : Nat) (x : F) : ev q (n + 1) x = q 0 + x * ev (fun i => q (i + 1)) n x := by
  unfold ev
  rw [fsum_first, Lean.Grind.Semiring.pow_zero, ← fsum_mul]
  rw [Lean.Grind.Semiring.mul_one]
  congr 1
  refine fsum_congr (fun i _ => ?_)
  rw [Lean.Grind.Semiring.pow_succ]
  grind
theorem ev_upto {F : Type} [Lean.Grind.CommRing F] {q : Nat → F} {n m : Nat} (hnm : n ≤ m) (h : ∀ i, n ≤ i → q i = 0) (x : F) : ev q m x = ev q n x :=
  fsum_upto hnm (fun i hi => by rw [h i hi]; grind)
/-- a sequence with a first term -/
def cns {F : Type} (a : F) (r : Nat → F) : Nat → F
  | 0 => a
  | j + 1 => r j
/-- q (x) - q (X) is (x - X) times a polynomial -/
theorem ev_div {F : Type} [Lean.Grind.CommRing F] (X : F) : ∀ (n : Nat) (q : Nat → F), ∃ q' : Nat → F, (∀ x, ev q (n + 2) x - ev q (n + 2) X = (x - X) * ev q' (n + 1) x) ∧ ((∀ i, i < n + 1 → q' i = 0) → ∀ i, 1 ≤ i → i < n + 2 → q i = 0) := by
  intro n
  induction n with
  | zero =>
    intro q
    refine ⟨fun _ => q 1, fun x => ?_, fun h i h1 h2 => ?_⟩
    · simp only [ev, fsum]
      grind
    · rw [show i = 1 by omega]
      exact h 0 (by omega)
  | succ n ih =>
    intro q
    obtain ⟨r', h1, h2⟩ := ih (fun i => q (i + 1))
    refine ⟨cns (ev (fun i => q (i + 1)) (n + 2) X) r', fun x => ?_, fun h i hi hi2 => ?_⟩
    · have e1 := h1 x
      have e2 : ev (cns (ev (fun i => q (i + 1)) (n + 2) X) r') (n + 1 + 1) x = ev (fun i => q (i + 1)) (n + 2) X + x * ev r' (n + 1) x := ev_first _ (n + 1) x
      rw [ev_first q (n + 2) x, ev_first q (n + 2) X, e2]
      grind
    · have hz : ∀ i, i < n + 1 → r' i = 0 := fun i hi => h (i + 1) (by omega)
      have h0 : ev (fun i => q (i + 1)) (n + 2) X = 0 := h 0 (by omega)
      have hq := h2 hz
      by_cases h3 : i = 1
      · subst h3
        rw [ev_first] at h0
        have e0 : ev (fun i => q (i + 1 + 1)) (n + 1) X = 0 := fsum_zero (fun i hi => by
          have := hq (i + 1) (by omega) (by omega)
          simp only at this ⊢
          rw [this]; grind)
        rw [e0] at h0
        have h0' : q 1 + X * 0 = 0 := h0
        grind
      · have this : q (i - 1 + 1) = 0 := hq (i - 1) (by omega) (by omega)
        rwa [show i - 1 + 1 = i by omega] at this
/-- more roots than the degree: all coefficients are 0 -/
theorem ev_roots {F : Type} [Lean.Grind.CommRing F] (hdom : ∀ a b : F, a * b = 0 → a = 0 ∨ b = 0) : ∀ (n : Nat) (q : Nat → F) (xs : List F), xs.Nodup → n ≤ xs.length → (∀ x ∈ xs, ev q n x = 0) → ∀ i, i < n → q i = 0 := by
  intro n
  induction n with
  | zero => intro q xs _ _ _ i hi; omega
  | succ n ih =>
    intro q xs hnd hlen hr i hi
    cases xs with
    | nil => simp at hlen
    | cons X xs =>
      simp only [List.length_cons] at hlen
      have hX := hr X List.mem_cons_self
      cases n with
      | zero =>
        rw [show i = 0 by omega]
        simp only [ev, fsum] at hX
        rw [Lean.Grind.Semiring.pow_zero] at hX
        grind
      | succ n =>
        obtain ⟨q', h1, h2⟩ := ev_div X n q
        have hq' : ∀ i, i < n + 1 → q' i = 0 := by
          refine ih q' xs (List.nodup_cons.mp hnd).2 (by omega) (fun x hx => ?_)
          have e1 := h1 x
          rw [hr x (List.mem_cons_of_mem _ hx), hX] at e1
          have e2 : (x - X) * ev q' (n + 1) x = 0 := by grind
          rcases hdom _ _ e2 with h | h
          · exfalso
            have : x = X := by grind
            subst this
            exact (List.nodup_cons.mp hnd).1 hx
          · exact h
        by_cases h0 : i = 0
        · subst h0
          rw [ev_first] at hX
          have e0 : ev (fun i => q (i + 1)) (n + 1) X = 0 := fsum_zero (fun i hi => by
            have := h2 hq' (i + 1) (by omega) (by omega)
            simp only at this ⊢
            rw [this]; grind)
          rw [e0] at hX
          grind
        · exact h2 hq' i (by omega) (by omega)
end RS_EV
section RS_VDM
theorem syn_down {F : Type} [Lean.Grind.CommRing F] (X : F) (es : List (F × F)) (i : Nat) : syn (es.map (fun e => (e.1, e.2 * (e.1 - X)))) i = syn es (i + 1) - X * syn es i := by
  induction es with
  | nil => show (0 : F) = 0 - X * 0; grind
  | cons e es ih =>
    show e.2 * (e.1 - X) * e.1 ^ i + syn (es.map _) i = e.2 * e.1 ^ (i + 1) + syn es (i + 1) - X * (e.2 * e.1 ^ i + syn es i)
    rw [ih, Lean.Grind.Semiring.pow_succ]
    grind
/-- Vandermonde: as many syndromes as places, all 0: all values are 0 -/
theorem syn_zero {F : Type} [Lean.Grind.CommRing F] (hdom : ∀ a b : F, a * b = 0 → a = 0 ∨ b = 0) : ∀ (n : Nat) (es : List (F × F)), es.length = n → (es.map Prod.fst).Nodup → (∀ i, i < n → syn es i = 0) → ∀ e ∈ es, e.2 = 0 := by
  intro n
  induction n with
  | zero =>
    intro es hl _ _ e he
    rw [List.length_eq_zero_iff.mp hl] at he
    cases he
  | succ n ih =>
    intro es hl hnd hs
    cases es with
    | nil => simp at hl
    | cons e0 es =>
      obtain ⟨X, Y⟩ := e0
      simp only [List.length_cons] at hl
      simp only [List.map_cons] at hnd
      have hno := (List.nodup_cons.mp hnd).1
      have hall : ∀ e ∈ es.map (fun e => (e.1, e.2 * (e.1 - X))), e.2 = 0 := by
        refine ih _ (by simp; omega) ?_ (fun i hi => ?_)
        · rw [List.map_map]
          exact (List.nodup_cons.mp hnd).2
        · rw [syn_down]
          have a := hs i (by omega)
          have b := hs (i + 1) (by omega)
          have a' : Y * X ^ i + syn es i = 0 := a
          have b' : Y * X ^ (i + 1) + syn es (i + 1) = 0 := b
          rw [Lean.Grind.Semiring.pow_succ] at b'
          grind
      have hes : ∀ e ∈ es, e.2 = 0 := by
        intro e he
        have h1 := hall (e.1, e.2 * (e.1 - X)) (List.mem_map.mpr ⟨e, he, rfl⟩)
        rcases hdom _ _ h1 with h | h
        · exact h
        · exfalso
          have : e.1 = X := by grind
          exact hno (List.mem_map.mpr ⟨e, he, this⟩)
      have hz : ∀ es : List (F × F), (∀ e ∈ es, e.2 = 0) → ∀ i, syn es i = 0 := by
        intro es
        induction es with
        | nil => intro _ i; rfl
        | cons e es ih2 =>
          intro h i
          show e.2 * e.1 ^ i + syn es i = 0
          rw [h e List.mem_cons_self, ih2 (fun e he => h e (List.mem_cons_of_mem _ he)) i]
          grind
      intro e he
      rcases List.mem_cons.mp he with h | h
      · subst h
        have h0 : Y * X ^ 0 + syn es 0 = 0 := hs 0 (by omega)
        rw [hz es hes 0, Lean.Grind.Semiring.pow_zero] at h0
        show Y = 0
        grind
      · exact hes e h
end RS_VDM
section RS_KER
/-- the sum over the wrong places of Y times what q makes of X, times X to the r -/
theorem syn_scale {F : Type} [Lean.Grind.CommRing F] (q : F → F) (es : List (F × F)) (r : Nat) : syn (es.map (fun e => (e.1, e.2 * q e.1))) r = syn (es.map (fun e => (e.1, q e.1 * e.2))) r := by
  induction es with
  | nil => rfl
  | cons e es ih =>
    show e.2 * q e.1 * e.1 ^ r + syn (es.map _) r = q e.1 * e.2 * e.1 ^ r + syn (es.map _) r
    rw [ih]
    grind
theorem pow_add' {F : Type} [Lean.Grind.CommRing F] (x : F) (a b : Nat) : x ^ (a + b) = x ^ a * x ^ b := by
  induction b with
  | zero => rw [Nat.add_zero, Lean.Grind.Semiring.pow_zero]; grind
  | succ b ih => rw [← Nat.add_assoc, Lean.Grind.Semiring.pow_succ, ih, Lean.Grind.Semiring.pow_succ]; grind
/-- a vector against a window of the syndromes -/
theorem syn_window {F : Type} [Lean.Grind.CommRing F] (v : Nat → F) (n r : Nat) (es : List (F × F)) : fsum (fun k => v k * syn es (r + k)) n = syn (es.map (fun e => (e.1, e.2 * ev v n e.1))) r := by
  induction es with
  | nil => exact fsum_zero (fun k _ => by show v k * 0 = 0; grind)
  | cons e es ih =>
    show fsum (fun k => v k * (e.2 * e.1 ^ (r + k) + syn es (r + k))) n = e.2 * ev v n e.1 * e.1 ^ r + syn (es.map _) r
    rw [← ih]
    have e1 : fsum (fun k => v k * (e.2 * e.1 ^ (r + k) + syn es (r + k))) n = fsum (fun k => e.2 * e.1 ^ r * (v k * e.1 ^ k) + v k * syn es (r + k)) n := fsum_congr (fun k _ => by rw [pow_add']; grind)
    rw [e1, fsum_add, fsum_mul]
    unfold ev
    grind
/-- the square of syndromes has no kernel, where the wrong places are apart and really wrong -/
theorem hankel_ker {F : Type} [Lean.Grind.CommRing F] (hdom : ∀ a b : F, a * b = 0 → a = 0 ∨ b = 0) (es : List (F × F)) (hnd : (es.map Prod.fst).Nodup) (hY : ∀ e ∈ es, e.2 ≠ 0) (v : Nat → F)
    (h : ∀ r, r < es.length → fsum (fun k => v k * syn es (r + k)) es.length = 0) : ∀ k, k < es.length → v k = 0 := by
  have hz : ∀ e ∈ es.map (fun e => (e.1, e.2 * ev v es.length e.1)), e.2 = 0 := by
    refine syn_zero hdom es.length _ (by simp) ?_ (fun r hr => ?_)
    · rw [List.map_map]; exact hnd
    · rw [← syn_window]; exact h r hr
  refine ev_roots hdom es.length v (es.map Prod.fst) hnd (by simp) (fun x hx => ?_)
  obtain ⟨e, he, rfl⟩ := List.mem_map.mp hx
  rcases hdom _ _ (hz (e.1, e.2 * ev v es.length e.1) (List.mem_map.mpr ⟨e, he, rfl⟩)) with h1 | h1
  · exact absurd h1 (hY e he)
  · exact h1
theorem fsum_rev {F : Type} [Lean.Grind.CommRing F] (f : Nat → F) (n : Nat) : fsum (fun i => f (n - 1 - i)) n = fsum f n := by
  induction n with
  | zero => rfl
  | succ n ih =>
    rw [fsum_first, fsum]
    have e : fsum (fun i => f (n + 1 - 1 - (i + 1))) n = fsum (fun i => f (n - 1 - i)) n := fsum_congr (fun i _ => by rw [show n + 1 - 1 - (i + 1) = n - 1 - i by omega])
    rw [e, ih, show n + 1 - 1 - 0 = n by omega]
    grind
/-- a recurrence that the syndromes keep from d on, as long as half of them, is the locator -/
theorem lam_unique {F : Type} [Lean.Grind.CommRing F] (hdom : ∀ a b : F, a * b = 0 → a = 0 ∨ b = 0) (es : List (F × F)) (hnd : (es.map Prod.fst).Nodup) (hY : ∀ e ∈ es, e.2 ≠ 0) (C : Nat → F) (S : Nat → F) (e : Nat) (he : 2 * es.length ≤ e)
    (hS : ∀ i, i < e → S i = syn es i) (h0 : C 0 = 1) (hdeg : ∀ i, es.length < i → C i = 0) (hc : ∀ j, es.length ≤ j → j < e → conv C S j = 0) : ∀ i, C i = lam (es.map Prod.fst) i := by
  let d := es.length
  have hd : es.length = d := rfl
  let P : Nat → F := fun i => C i - lam (es.map Prod.fst) i
  have hP0 : P 0 = 0 := by show C 0 - lam _ 0 = 0; rw [h0, lam_0]; grind
  have hPdeg : ∀ i, d < i → P i = 0 := by
    intro i hi
    show C i - lam _ i = 0
    rw [hdeg i hi, lam_deg _ i (by simpa using hi)]
    grind
  have hPc : ∀ j, d ≤ j → j < e → conv P (syn es) j = 0 := by
    intro j h1 h2
    show conv (fun i => C i - lam (es.map Prod.fst) i) (syn es) j = 0
    rw [conv_subL, conv_lam, omg_deg es j h1]
    rw [← conv_congr (a := C) (b := S) (fun _ _ => rfl) (fun i hi => hS i (by omega)), hc j h1 h2]
    grind
  have hv : ∀ k, k < d → (fun k => P (d - k)) k = 0 := by
    refine hankel_ker hdom es hnd hY (fun k => P (d - k)) (fun r hr => ?_)
    rw [hd] at hr
    have h1 := hPc (d + r) (by omega) (by omega)
    rw [conv_cut (L := d) (by omega) hPdeg, ← fsum_rev] at h1
    rw [fsum] at h1
    rw [show d + 1 - 1 - d = 0 by omega, hP0] at h1
    rw [hd]
    have e1 : fsum (fun i => P (d + 1 - 1 - i) * syn es (d + r - (d + 1 - 1 - i))) d = fsum (fun k => P (d - k) * syn es (r + k)) d := by
      refine fsum_congr (fun i hi => ?_)
      rw [show d + 1 - 1 - i = d - i by omega, show d + r - (d - i) = r + i by omega]
    rw [e1] at h1
    grind
  intro i
  have hPi : P i = 0 := by
    by_cases h1 : d < i
    · exact hPdeg i h1
    · by_cases h2 : i = 0
      · rw [h2]; exact hP0
      · have := hv (d - i) (by omega)
        simp only at this
        rwa [show d - (d - i) = i by omega] at this
  have : C i - lam (es.map Prod.fst) i = 0 := hPi
  grind
end RS_KER
section RS_BM
/-- Massey's bound -/
theorem massey {F : Type} [Lean.Grind.CommRing F] {C Lm S : Nat → F} {L d n : Nat} (hC : ∀ i, L < i → C i = 0) (hCz : ∀ j, L ≤ j → j < n → conv C S j = 0) (hCn : conv C S n ≠ 0)
    (hL0 : Lm 0 = 1) (hL : ∀ i, d < i → Lm i = 0) (hLz : ∀ j, d ≤ j → j ≤ n → conv Lm S j = 0) : n + 1 ≤ L + d := by
  refine Nat.not_lt.mp (fun hlt => hCn ?_)
  have a1 : fsum (fun i => fsum (fun k => C i * (Lm k * S (n - i - k))) (d + 1)) (L + 1) = 0 := by
    refine fsum_zero (fun i hi => ?_)
    rw [fsum_mul, ← conv_cut (n := n - i) (by omega) hL, hLz (n - i) (by omega) (by omega)]
    grind
  have a2 : fsum (fun k => fsum (fun i => C i * (Lm k * S (n - i - k))) (L + 1)) (d + 1) = conv C S n := by
    have e : ∀ k, k < d + 1 → fsum (fun i => C i * (Lm k * S (n - i - k))) (L + 1) = Lm k * conv C S (n - k) := by
      intro k hk
      rw [conv_cut (n := n - k) (by omega) hC, ← fsum_mul]
      refine fsum_congr (fun i hi => ?_)
      rw [show n - i - k = n - k - i by omega]
      grind
    rw [fsum_congr e, fsum_one (k := 0) (by omega) (fun k hk hne => by rw [hCz (n - k) (by omega) (by omega)]; grind), hL0]
    rw [Nat.sub_zero]
    grind
  rw [← a2, ← fsum_swap]
  exact a1
/-- what holds before the n-th step of Berlekamp's and Massey's way -/
def bmI {F : Type} [Lean.Grind.CommRing F] (S : Nat → F) (n : Nat) (C B : Nat → F) (b : F) (L sh : Nat) : Prop :=
  C 0 = 1 ∧ (∀ i, L < i → C i = 0) ∧ L ≤ n ∧ (∀ j, L ≤ j → j < n → conv C S j = 0) ∧ b ≠ 0 ∧ 1 ≤ sh ∧
  ((L = 0 ∧ sh = n + 1 ∧ B 0 = 1 ∧ ∀ i, 0 < i → B i = 0) ∨
    ∃ LB m, m + sh = n ∧ L + LB = m + 1 ∧ LB ≤ m ∧ (∀ i, LB < i → B i = 0) ∧ (∀ j, LB ≤ j → j < m → conv B S j = 0) ∧ conv B S m = b)
theorem bm_start {F : Type} [Lean.Grind.CommRing F] (h10 : (1 : F) ≠ 0) (S C B : Nat → F) (hC : C 0 = 1) (hC2 : ∀ i, 0 < i → C i = 0) (hB : B 0 = 1) (hB2 : ∀ i, 0 < i → B i = 0) : bmI S 0 C B 1 0 1 :=
  ⟨hC, hC2, Nat.le_refl 0, fun _ _ h => absurd h (Nat.not_lt_zero _), h10, Nat.le_refl 1, Or.inl ⟨rfl, rfl, hB, hB2⟩⟩
/-- nothing is amiss: only the distance grows -/
theorem bm_stay {F : Type} [Lean.Grind.CommRing F] {S C B : Nat → F} {b : F} {n L sh : Nat} (h : bmI S n C B b L sh) (hm : conv C S n = 0) : bmI S (n + 1) C B b L (sh + 1) := by
  obtain ⟨h1, h2, h3, h4, h5, h6, h7⟩ := h
  refine ⟨h1, h2, by omega, fun j hj hj2 => ?_, h5, by omega, ?_⟩
  · by_cases hjn : j = n
    · rw [hjn]; exact hm
    · exact h4 j hj (by omega)
  · rcases h7 with ⟨a1, a2, a3, a4⟩ | ⟨LB, m, a1, a2, a3, a4, a5, a6⟩
    · exact Or.inl ⟨a1, by omega, a3, a4⟩
    · exact Or.inr ⟨LB, m, by omega, a2, a3, a4, a5, a6⟩
/-- what is taken away at a miss -/
theorem bm_conv {F : Type} [Lean.Grind.CommRing F] (S C B : Nat → F) (f : F) (sh j : Nat) : conv (fun i => C i - f * shk sh B i) S j = conv C S j - f * conv (shk sh B) S j := by
  rw [conv_subL, conv_mulL]
theorem bm_step {F : Type} [Lean.Grind.CommRing F] {S C B : Nat → F} {b dl f : F} {n L sh : Nat} (h : bmI S n C B b L sh) (hd : conv C S n = dl) (hf : f * b = dl) :
    (L ≤ n ∧ n < 2 * L → bmI S (n + 1) (fun i => C i - f * shk sh B i) B b L (sh + 1)) ∧ (2 * L ≤ n → dl ≠ 0 → bmI S (n + 1) (fun i => C i - f * shk sh B i) C dl (n + 1 - L) 1) := by
  obtain ⟨h1, h2, h3, h4, h5, h6, h7⟩ := h
  refine ⟨fun hg => ?_, fun hg hne => ?_⟩
  · rcases h7 with ⟨a1, a2, a3, a4⟩ | ⟨LB, m, a1, a2, a3, a4, a5, a6⟩
    · omega
    · refine ⟨?_, fun i hi => ?_, by omega, fun j hj hj2 => ?_, h5, by omega, Or.inr ⟨LB, m, by omega, a2, a3, a4, a5, a6⟩⟩
      · show C 0 - f * shk sh B 0 = 1
        rw [h1, shk, if_neg (by omega)]
        grind
      · show C i - f * shk sh B i = 0
        rw [h2 i hi, shk]
        by_cases hs : sh ≤ i
        · rw [if_pos hs, a4 (i - sh) (by omega)]; grind
        · rw [if_neg hs]; grind
      · rw [bm_conv]
        obtain ⟨j', rfl⟩ : ∃ j', j = j' + sh := ⟨j - sh, by omega⟩
        rw [conv_shk]
        by_cases hjn : j' = m
        · subst hjn
          rw [a6, show j' + sh = n by omega, hd, hf]
          grind
        · rw [h4 _ hj (by omega), a5 j' (by omega) (by omega)]
          grind
  · rcases h7 with ⟨a1, a2, a3, a4⟩ | ⟨LB, m, a1, a2, a3, a4, a5, a6⟩
    · subst a1
      refine ⟨?_, fun i hi => ?_, by omega, fun j hj hj2 => by omega, hne, Nat.le_refl 1, Or.inr ⟨0, n, rfl, by omega, by omega, h2, h4, hd⟩⟩
      · show C 0 - f * shk sh B 0 = 1
        rw [h1, shk, if_neg (by omega)]
        grind
      · show C i - f * shk sh B i = 0
        rw [h2 i (by omega), shk]
        by_cases hs : sh ≤ i
        · rw [if_pos hs, a4 (i - sh) (by omega)]; grind
        · rw [if_neg hs]; grind
    · refine ⟨?_, fun i hi => ?_, by omega, fun j hj hj2 => ?_, hne, Nat.le_refl 1, Or.inr ⟨L, n, rfl, by omega, by omega, h2, h4, hd⟩⟩
      · show C 0 - f * shk sh B 0 = 1
        rw [h1, shk, if_neg (by omega)]
        grind
      · show C i - f * shk sh B i = 0
        rw [h2 i (by omega), shk]
        by_cases hs : sh ≤ i
        · rw [if_pos hs, a4 (i - sh) (by omega)]; grind
        · rw [if_neg hs]; grind
      · rw [bm_conv]
        obtain ⟨j', rfl⟩ : ∃ j', j = j' + sh := ⟨j - sh, by omega⟩
        rw [conv_shk]
        by_cases hjn : j' = m
        · subst hjn
          rw [a6, show j' + sh = n by omega, hd, hf]
          grind
        · rw [h4 _ (by omega) (by omega), a5 j' (by omega) (by omega)]
          grind
end RS_BM
section RS_FORNEY
/-- the product of all 1 - X x at x -/
def prd {F : Type} [Lean.Grind.CommRing F] : List F → F → F
  | [], _ => 1
  | X :: xs, x => (1 - X * x) * prd xs x
theorem ev_sub_shf {F : Type} [Lean.Grind.CommRing F] (f : Nat → F) (X : F) (N : Nat) (x : F) : ev (fun i => f i - X * shf f i) (N + 1) x = ev f (N + 1) x - X * x * ev f N x := by
  have e : ev (shf f) (N + 1) x = x * ev f N x := by
    rw [ev_first]
    show 0 + x * ev (fun i => f i) N x = _
    grind
  have e2 : ev (fun i => f i - X * shf f i) (N + 1) x = ev f (N + 1) x - X * ev (shf f) (N + 1) x := by
    unfold ev
    rw [← fsum_mul, ← fsum_sub]
    exact fsum_congr (fun i _ => by grind)
  rw [e2, e]
  grind
theorem ev_lam {F : Type} [Lean.Grind.CommRing F] (xs : List F) (x : F) : ∀ N, xs.length < N → ev (lam xs) N x = prd xs x := by
  induction xs with
  | nil =>
    intro N hN
    obtain ⟨M, rfl⟩ : ∃ M, N = M + 1 := ⟨N - 1, by simp at hN; omega⟩
    rw [ev_first]
    show (1 : F) + x * ev (fun i => lam [] (i + 1)) M x = 1
    have e : ev (fun i => lam ([] : List F) (i + 1)) M x = 0 := fsum_zero (fun i _ => by show (if i + 1 = 0 then (1 : F) else 0) * _ = 0; rw [if_neg (by omega)]; grind)
    rw [e]
    grind
  | cons X xs ih =>
    intro N hN
    simp only [List.length_cons] at hN
    obtain ⟨M, rfl⟩ : ∃ M, N = M + 1 := ⟨N - 1, by omega⟩
    show ev (fun i => lam xs i - X * shf (lam xs) i) (M + 1) x = (1 - X * x) * prd xs x
    rw [ev_sub_shf, ih (M + 1) (by omega), ih M (by omega)]
    grind
theorem ev_omg {F : Type} [Lean.Grind.CommRing F] (X Y : F) (es : List (F × F)) (x : F) (N : Nat) (hN : es.length < N) : ev (omg ((X, Y) :: es)) N x = Y * prd (es.map Prod.fst) x + (1 - X * x) * ev (omg es) N x := by
  obtain ⟨M, rfl⟩ : ∃ M, N = M + 1 := ⟨N - 1, by omega⟩
  have e1 : ev (omg ((X, Y) :: es)) (M + 1) x = Y * ev (lam (es.map Prod.fst)) (M + 1) x + ev (fun i => omg es i - X * shf (omg es) i) (M + 1) x := by
    show ev (fun i => Y * lam (es.map Prod.fst) i + (omg es i - X * shf (omg es) i)) (M + 1) x = _
    unfold ev
    rw [← fsum_mul, ← fsum_add]
    exact fsum_congr (fun i _ => by grind)
  rw [e1, ev_lam _ x (M + 1) (by simp; omega), ev_sub_shf, ev_upto (n := M) (m := M + 1) (by omega) (fun i hi => omg_deg es i (by omega))]
  grind
/-- the slope, characteristic 2: the odd powers, each one lower -/
def slp {F : Type} [Lean.Grind.CommRing F] (q : Nat → F) (n : Nat) (x : F) : F := fsum (fun i => if i % 2 = 1 then q i * x ^ (i - 1) else 0) n
def evn {F : Type} [Lean.Grind.CommRing F] (q : Nat → F) (n : Nat) (x : F) : F := fsum (fun i => if i % 2 = 0 then q i * x ^ i else 0) n
theorem ev_parts {F : Type} [Lean.Grind.CommRing F] (q : Nat → F) (n : Nat) (x : F) : ev q n x = evn q n x + x * slp q n x := by
  unfold ev evn slp
  rw [← fsum_mul, ← fsum_add]
  refine fsum_congr (fun i _ => ?_)
  by_cases h : i % 2 = 1
  · rw [if_pos h, if_neg (by omega)]
    obtain ⟨j, rfl⟩ : ∃ j, i = j + 1 := ⟨i - 1, by omega⟩
    rw [show j + 1 - 1 = j by omega, Lean.Grind.Semiring.pow_succ]
    grind
  · rw [if_neg h, if_pos (by omega)]
    grind
theorem slp_shf {F : Type} [Lean.Grind.CommRing F] (q : Nat → F) (n : Nat) (x : F) : slp (shf q) (n + 1) x = evn q n x := by
  unfold slp evn
  rw [fsum_first]
  have e : fsum (fun i => if (i + 1) % 2 = 1 then shf q (i + 1) * x ^ (i + 1 - 1) else 0) n = fsum (fun i => if i % 2 = 0 then q i * x ^ i else 0) n := by
    refine fsum_congr (fun i _ => ?_)
    by_cases h : i % 2 = 0
    · rw [if_pos (by omega), if_pos h, show i + 1 - 1 = i by omega]; rfl
    · rw [if_neg (by omega), if_neg h]
  rw [e, if_neg (by omega)]
  grind
theorem slp_upto {F : Type} [Lean.Grind.CommRing F] {q : Nat → F} {n m : Nat} (hnm : n ≤ m) (h : ∀ i, n ≤ i → q i = 0) (x : F) : slp q m x = slp q n x :=
  fsum_upto hnm (fun i hi => by rw [h i hi]; by_cases h2 : i % 2 = 1 <;> simp [h2] <;> grind)
theorem slp_lam {F : Type} [Lean.Grind.CommRing F] (h2 : ∀ a : F, a + a = 0) (X : F) (xs : List F) (x : F) (N : Nat) (hN : xs.length + 1 < N) : slp (lam (X :: xs)) N x = X * prd xs x + (1 - X * x) * slp (lam xs) N x := by
  obtain ⟨M, rfl⟩ : ∃ M, N = M + 1 := ⟨N - 1, by omega⟩
  have e1 : slp (lam (X :: xs)) (M + 1) x = slp (lam xs) (M + 1) x - X * slp (shf (lam xs)) (M + 1) x := by
    show slp (fun i => lam xs i - X * shf (lam xs) i) (M + 1) x = _
    unfold slp
    rw [← fsum_mul, ← fsum_sub]
    refine fsum_congr (fun i _ => ?_)
    by_cases h : i % 2 = 1
    · rw [if_pos h, if_pos h, if_pos h]; grind
    · rw [if_neg h, if_neg h, if_neg h]; grind
  rw [e1, slp_shf]
  have e2 := ev_parts (lam xs) M x
  rw [ev_lam xs x M (by omega)] at e2
  rw [slp_upto (n := M) (m := M + 1) (by omega) (fun i hi => lam_deg xs i (by omega))]
  have e3 := h2 (X * evn (lam xs) M x)
  rw [e2]
  grind
theorem prd_zero {F : Type} [Lean.Grind.CommRing F] (xs : List F) (X x : F) (hX : X ∈ xs) (hx : X * x = 1) : prd xs x = 0 := by
  induction xs with
  | nil => cases hX
  | cons Z xs ih =>
    show (1 - Z * x) * prd xs x = 0
    rcases List.mem_cons.mp hX with h | h
    · rw [← h, hx]; grind
    · rw [ih h]; grind
theorem prd_ne {F : Type} [Lean.Grind.CommRing F] (hdom : ∀ a b : F, a * b = 0 → a = 0 ∨ b = 0) (h10 : (1 : F) ≠ 0) (xs : List F) (X x : F) (hX : X ∉ xs) (hx : X * x = 1) : prd xs x ≠ 0 := by
  induction xs with
  | nil => exact h10
  | cons Z xs ih =>
    intro h
    rcases hdom _ _ h with h1 | h1
    · refine hX (List.mem_cons.mpr (Or.inl ?_))
      have a : Z * x = 1 := by grind
      have b : X * (Z * x) = Z * (X * x) := by grind
      rw [a, hx] at b
      grind
    · exact ih (fun h2 => hX (List.mem_cons_of_mem _ h2)) h1
/-- Forney: at a wrong place the evaluator is Y times what the slope is X times -/
theorem forney {F : Type} [Lean.Grind.CommRing F] (hdom : ∀ a b : F, a * b = 0 → a = 0 ∨ b = 0) (h10 : (1 : F) ≠ 0) (h2 : ∀ a : F, a + a = 0) (X Y x : F) (hx : X * x = 1) : ∀ (es : List (F × F)), (es.map Prod.fst).Nodup → (X, Y) ∈ es → ∀ N, es.length < N →
    ∃ c, c ≠ 0 ∧ ev (omg es) N x = Y * c ∧ slp (lam (es.map Prod.fst)) N x = X * c := by
  intro es
  induction es with
  | nil => intro _ h; cases h
  | cons e es ih =>
    obtain ⟨Z, V⟩ := e
    intro hnd hin N hN
    simp only [List.length_cons] at hN
    simp only [List.map_cons] at hnd ⊢
    have hno := (List.nodup_cons.mp hnd).1
    rw [ev_omg Z V es x N (by omega), slp_lam h2 Z (es.map Prod.fst) x N (by simp; omega)]
    rcases List.mem_cons.mp hin with h | h
    · cases h
      refine ⟨prd (es.map Prod.fst) x, prd_ne hdom h10 _ X x hno hx, ?_, ?_⟩
      · rw [hx]; grind
      · rw [hx]; grind
    · obtain ⟨c, hc, e1, e3⟩ := ih (List.nodup_cons.mp hnd).2 h N (by omega)
      have hXin : X ∈ es.map Prod.fst := List.mem_map.mpr ⟨(X, Y), h, rfl⟩
      have hp : prd (es.map Prod.fst) x = 0 := prd_zero _ X x hXin hx
      refine ⟨(1 - Z * x) * c, fun h0 => ?_, ?_, ?_⟩
      · rcases hdom _ _ h0 with h1 | h1
        · have a : Z * x = 1 := by grind
          have b : X * (Z * x) = Z * (X * x) := by grind
          rw [a, hx] at b
          have : Z = X := by grind
          exact hno (this ▸ hXin)
        · exact hc h1
      · rw [hp, e1]; grind
      · rw [hp, e3]; grind
end RS_FORNEY
