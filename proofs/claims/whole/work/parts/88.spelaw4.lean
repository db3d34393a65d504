/-! What both have written; what both read -/
section SPEC_L4
variable {fx so fn da dx dy : Nat → Nat}
theorem wr_mk {b b' ro gr dr : Nat → Nat} {lv mk : Nat} (hfx : ∀ r, r < 21 → fx r = frT r) (hso : ∀ j, j < 441 → so j = soT j) (hfn : ∀ j, j < 30 → fn j = foT j) (hda : ∀ j, j < 208 → da j = daT j) (hdx : ∀ j, j < 208 → 21 * dx j + dy j = daT j ∧ dx j < 21 ∧ dy j < 21) (hb : ∀ j, j < 26 → b j = b' j) :
    grR (ptD (va_cpy fx ro 0 0 21) b dx dy (fmN lv mk) mk) (cpL gr (drN so fn da b' lv mk dr) 441) := by
  have h := draw_eq (bt := b) (dr := dr) (lv := lv) (mk := mk) (cpy_fx (ro := ro) hfx) hso hfn hda hdx rfl
  rw [drN_bt hb] at h
  exact grR_congr h (fun j hj => (cpL_at 441 j hj).symm)
theorem wr_any {b b' ro r9 gr dr d9 : Nat → Nat} {lv : Nat} (hfx : ∀ r, r < 21 → fx r = frT r) (hso : ∀ j, j < 441 → so j = soT j) (hfn : ∀ j, j < 30 → fn j = foT j) (hda : ∀ j, j < 208 → da j = daT j) (hdx : ∀ j, j < 208 → 21 * dx j + dy j = daT j ∧ dx j < 21 ∧ dy j < 21) (hb : ∀ j, j < 26 → b j = b' j) :
    grR (ptD (va_cpy fx r9 0 0 21) b dx dy (fmN lv ((bmC (peF fx b dx dy lv ro) 8).1)) ((bmC (peF fx b dx dy lv ro) 8).1)) (cpL gr (drN so fn da b' lv (bsN (ugF so fn da b' lv dr) 8) d9) 441) := by
  rw [best_eq (dr := dr) hfx hso hfn hda hdx hb]
  exact wr_mk hfx hso hfn hda hdx hb
theorem gnJ_hi {s : Nat → Nat} (i : Nat) (hi : i < 17) (j : Nat) (hj : 18 ≤ j) : ∀ n, gnJ s i n j = s j := by
  intro n
  induction n with
  | zero => rfl
  | succ n ih =>
    rw [gnJ]
    unfold va_up
    rw [if_neg (by omega), ih]
theorem gnI_hi {s : Nat → Nat} : ∀ i, i ≤ 17 → ∀ j, 18 ≤ j → gnI s i j = s j := by
  intro i
  induction i with
  | zero => intro _ j _; rfl
  | succ i ih => intro hi j hj; rw [gnI, gnJ_hi i (by omega) j hj, ih (by omega) j hj]
theorem ckS_hi {s : Nat → Nat} : ∀ n j, n ≤ j → ckS s n j = s j := by
  intro n
  induction n with
  | zero => intro j _; rfl
  | succ n ih =>
    intro j hj
    rw [ckS]
    unfold va_up
    rw [if_neg (by omega), ih j (by omega)]
theorem gn72 {s : Nat → Nat} (hs : lt256 72 s) (i : Nat) (hi : i ≤ 17) : lt256 72 (gnI (ckS s 18) i) := by
  intro j hj
  by_cases h : j < 18
  · exact gnI_lt (ckS_lt s) i hi j h
  · rw [gnI_hi i hi j (by omega), ckS_hi 18 j (by omega)]
    exact hs j hj
theorem swF_lv : ∀ g, g < 32 → lcT (swF g / 8) = g / 8 ∧ swF g % 8 = g % 8 ∧ swF g < 32 ∧ ckN (g / 8) = 26 - dbT (lcT (swF g / 8)) ∧ 26 - ckN (g / 8) = dbT (lcT (swF g / 8)) ∧ ckN (g / 8) ≤ 17 ∧ dbT (lcT (swF g / 8)) ≤ 19 := by decide +kernel
theorem snL_at {yd t : Nat → Nat} : ∀ n k, k < n → snL yd t n k = hrn t (pw k) 26 := by
  intro n
  induction n with
  | zero => intro k h; omega
  | succ n ih =>
    intro k h
    rw [snL]
    unfold va_up
    by_cases e : k = n
    · rw [if_pos e, e]
    · rw [if_neg e, ih k (by omega)]
end SPEC_L4
/-! The law: its own rows; what holds between two calls -/
section OWN_LAW
theorem met_sw {l : Launch} {y : MethodName} {ws : List Cond} {rm : Room} {As : List Value} {D : va_G} {w : va_W} {tys : List (ClassId × FieldType)} {sz mc ms : Nat} {t : Nat → Nat} {Qc : Array Value → State → Outcome → State → Prop} {free : Addr → Prop} (h : Met l y ws rm (va_Pc As (wP D w tys sz)) Qc mc ms free) : Met l y ws rm (va_Pc As (swP t D w tys sz)) Qc mc ms free :=
  fun p e ha hc hk s m args below hf hap hP hK => h p e ha hc hk s m args below hf hap ⟨hP.1, hP.2.1⟩ hK
section ROWS
variable {p : Program} {l : Launch} {e : Env} {R : Room} {s : State} {m : MethodId} {args : Array Value} {below : List Frame} {meth : Method} {c : Code} {H : Heap} {locs : List Loc} {cells slots : Nat} {Q : State → Prop}
variable {cc : ByteArray} {pc : Nat} {ls : Array Slot} {rest : List Value}
theorem W_wide {k n : Nat} {g : JFrame} (h1 : cells ≤ k) (h2 : slots ≤ n) (w : W p l e R s m args below meth c H locs k n Q g) : W p l e R s m args below meth c H locs cells slots Q g := fun T hT X => w T hT (stand_widen X h1 h2)
theorem lv_lcmpE (hexec : p.tables.exec = Jvm.exec) (hb : c.code = cc) {x : Int64} (hdg : decode cc pc = .ok (.lcmp, 1))
    (k : W p l e R s m args below meth c H locs cells slots Q (F0 m (pc + 1) ls (.int (nI 0) :: rest))) : W p l e R s m args below meth c H locs cells slots Q (F0 m pc ls (.long x :: .long x :: rest)) := by
  intro T hT X
  obtain ⟨t, a, b⟩ := k T hT X
  rw [show nI 0 = 0 from by decide] at a
  refine ⟨t, ?_, b⟩
  jvm_step X.here [X.here.top, hexec, hb, hdg, lcmp.wp_sem]
  exact a
theorem W_long {x y : Int64} (h : x = y) (k : W p l e R s m args below meth c H locs cells slots Q (F0 m pc ls (.long y :: rest))) : W p l e R s m args below meth c H locs cells slots Q (F0 m pc ls (.long x :: rest)) := h ▸ k
end ROWS
theorem i32_in {x : Int32} {n : Nat} (hn : n < 2 ^ 31) (h0 : ¬ x < 0) (h1 : ¬ nI n ≤ x) : ∃ r, r < n ∧ x = nI r := by
  have a0 : 0 ≤ x.toInt := by
    rw [Int32.lt_iff_toInt_lt, Int32.toInt_zero] at h0
    omega
  have a1 : x.toInt < n := by
    rw [Int32.le_iff_toInt_le, nI_toInt hn] at h1
    omega
  refine ⟨x.toInt.toNat, by omega, ?_⟩
  apply Int32.toInt_inj.mp
  rw [nI_toInt (by omega)]
  omega
theorem lt_of_leN {n : Nat} {x : Int32} (hn : n + 1 < 2 ^ 31) (h : nI (n + 1) ≤ x) : nI n < x := by
  rw [Int32.le_iff_toInt_le, nI_toInt hn] at h
  rw [Int32.lt_iff_toInt_lt, nI_toInt (by omega)]
  omega
theorem mk_in {x : Int32} (h0 : ¬ x < -1) (h1 : ¬ nI 8 ≤ x) : x = -1 ∨ ∃ r, r < 8 ∧ x = nI r := by
  by_cases h : x < 0
  · refine Or.inl ?_
    apply Int32.toInt_inj.mp
    rw [Int32.lt_iff_toInt_lt] at h0 h
    have e1 : (-1 : Int32).toInt = -1 := by decide
    have e2 : (0 : Int32).toInt = 0 := by decide
    rw [e1] at h0 ⊢
    rw [e2] at h
    omega
  · exact Or.inr (i32_in (by decide) h h1)
theorem i2c_in (x : Int32) : ∃ y, y < 65536 ∧ (x.toUInt32 % 65536).toInt32 = nI y := by
  refine ⟨(x.toUInt32 % 65536).toNat, ?_, ?_⟩
  · rw [UInt32.toNat_mod]
    exact Nat.mod_lt _ (by decide)
  · have h : (x.toUInt32 % 65536).toNat < 65536 := by
      rw [UInt32.toNat_mod]
      exact Nat.mod_lt _ (by decide)
    generalize x.toUInt32 % 65536 = z at h ⊢
    apply Int32.toInt_inj.mp
    rw [nI_toInt (by omega)]
    have h2 : z.toBitVec.toNat < 65536 := h
    show z.toBitVec.toInt = (z.toBitVec.toNat : Int)
    rw [BitVec.toInt_eq_toNat_of_lt (by omega)]
theorem sw_in (x : Int32) : ∃ y, y < 16 ∧ x &&& nI 15 = nI y := by
  refine ⟨x.toUInt32.toNat % 16, Nat.mod_lt _ (by decide), ?_⟩
  apply Int32.toBitVec_inj.mp
  apply BitVec.eq_of_toNat_eq
  have h : (nI 15).toBitVec.toNat = 2 ^ 4 - 1 := by decide
  rw [Int32.toBitVec_and, BitVec.toNat_and, h, Nat.and_two_pow_sub_one_eq_mod]
  show x.toBitVec.toNat % 16 = (BitVec.ofNat 32 (x.toBitVec.toNat % 16)).toNat
  rw [BitVec.toNat_ofNat]
  omega
/-- the loop's question -/
theorem lw_gt {L k : Nat} (hL : L ≤ 100000) (hk : k ≤ 100000) : (nI L - nI 3 < nI (3 * k)) ↔ L < 3 * k + 3 := by
  have e : (nI L - nI 3).toInt = (L : Int) - 3 := by
    rw [Int32.toInt_sub, nI_toInt (by omega), nI_toInt (by decide)]
    rw [Int.bmod_def]
    omega
  rw [Int32.lt_iff_toInt_lt, e, nI_toInt (by omega)]
  omega
/-- what never changes -/
def LC (fx dx dy po lo so fn da : Nat → Nat) : Prop := (∀ r, r < 21 → fx r = frT r) ∧ (∀ j, j < 208 → 21 * dx j + dy j = daT j ∧ dx j < 21 ∧ dy j < 21) ∧ fldOK po lo ∧ (∀ j, j < 441 → so j = soT j) ∧ (∀ j, j < 30 → fn j = foT j) ∧ ∀ j, j < 208 → da j = daT j
/-- what is kept of the last reading -/
def LRd (i22 : Nat) (fa rb ab ke : Nat → Nat) : Prop := (i22 = 0 ∧ (∀ j, j < 4 → fa j = 4294967295) ∧ ∀ j, j < 26 → rb j = 4294967295) ∨ (i22 = 1 ∧ (∀ j, j < 4 → fa j = ab j) ∧ ∀ j, j < 26 → rb j = ke j)
/-- what holds between two calls -/
def LInv (n1 n2 i22 : Nat) (tx ro gr su ch fa rb rh bi bb sy yd kn ab ke : Nat → Nat) : Prop :=
  n1 ≤ 45 ∧ (∀ j, j < 45 → tx j < 127) ∧ grR ro gr ∧ lt256 17 su ∧ (∀ j, j < 64 → ch j < 65536) ∧ (∀ j, j < 208 → bi j ≤ 1) ∧ lt256 26 bb ∧ lt256 72 sy ∧ lt256 17 yd ∧ n2 ≤ 64 ∧ (∀ j, j < n2 → rh j = kn j) ∧ LRd i22 fa rb ab ke
end OWN_LAW
