section START
theorem eq_int {args : Array Value} {s : State} {t : Term} {z : Int32} (h : (Cond.eq t (.int z)).before args s = true) : t.eval args s none [] s = some (.int z) := by
  cases hv : t.eval args s none [] s with
  | none => simp [Cond.before, Cond.holds, Cond.value, hv] at h
  | some w =>
    cases w <;> simp [Cond.before, Cond.holds, Cond.value, hv, Term.eval] at h
    rw [h]
theorem eq_ref {args : Array Value} {s : State} {t u : Term} {v : Nat} (h : (Cond.eq t u).before args s = true) (hu : u.eval args s none [] s = some (.ref v)) : t.eval args s none [] s = some (.ref v) := by
  cases hv : t.eval args s none [] s with
  | none => simp [Cond.before, Cond.holds, Cond.value, hv] at h
  | some w =>
    cases w <;> simp [Cond.before, Cond.holds, Cond.value, hv, hu] at h
    rw [h]
theorem st_of {args : Array Value} {s : State} {C n : String} {N : Nat} {f : Nat → Nat} {A : Nat → Prop} (hN : N < 2 ^ 31) (hl : (Cond.laysStatic C n "[I").before args s = true) (hini : (Cond.initialized C).before args s = true) (harr : (Cond.arrayOf (.static C n "[I") .int).before args s = true) (hlen : (Cond.eq (.length (.static C n "[I")) (.int (Int32.ofNat N))).before args s = true) (hel : ∀ j, j < N → (Cond.eq (.elem (.static C n "[I") (.int (Int32.ofNat j))) (.int (nI (f j)))).before args s = true) (hA : ∀ a : Nat, a < s.heap.size → ¬ A a) : ∃ t, stI C n t N f A s s.heap := by
  obtain ⟨t, h1, h2⟩ := va_Tof (f := fun j => .int (nI (f j))) hN harr (eq_int hlen) (fun j hj => eq_int (hel j hj)) hA
  exact ⟨t, va_Zof hl hini h1 hA, h2⟩
theorem vk_one {len : List Nat} {byt : List (List Int32)} {adK adV : Nat → Nat} {A : Nat → Prop} {U : State} {H : Heap} (h : vk_S 1 len byt adK adV A U H) : vk_S 1 len byt (fun _ => adK 0) (fun _ => adV 0) A U H :=
  ⟨fun i hi => by obtain rfl : i = 0 := by omega
                  exact h.1 0 hi, fun i j hi hj _ => by omega⟩
theorem en_re {E d : String} {nm : List String} {F : List (String × String × String × List Int32)} {ad ad2 : Nat → Nat} {A : Nat → Prop} {U : State} {H : Heap} (h : va_En E d nm F ad A U H) (he : ∀ i, i < nm.length → ad2 i = ad i) : va_En E d nm F ad2 A U H :=
  ⟨fun i hi => by rw [he i hi]; exact h.1 i hi, fun i j hi hj hij => h.2 i j hi hj (by rw [← he i hi, ← he j hj]; exact hij)⟩
abbrev FL1 : List Cond := flatC (Jvm.Cond.and given_1 narrow_1)
set_option maxRecDepth 100000 in
set_option maxHeartbeats 4000000 in
theorem lw_SB {s : State} {args : Array Value} {A : Nat → Prop} (hA : ∀ a : Nat, a < s.heap.size → ¬ A a) (hts : ∀ w ∈ lw_tbl, w.before args s = true) (hgv : (Jvm.Cond.and given_1 narrow_1).before args s = true) : ∃ t : Nat → Nat, SB t A s s.heap := by
  have hs := flat_of_before _ hgv
  have hn : ∀ {c : Cond} (i : Nat), FL1[i]? = some c → c.before args s = true := fun i h => hs _ (List.mem_of_getElem? h)
  have ht : ∀ {w : Cond} (i : Nat), tables_1[i]? = some w → w.before args s = true := fun i h => hts _ (List.mem_append_right _ (List.mem_of_getElem? h))
  obtain ⟨t0, h0⟩ := st_of (args := args) (A := A) (C := "SquareCodes") (n := "DATA_BYTES") (N := 4) (f := dbT) (by decide) (ht 377 (by decide +kernel)) (ht 1 (by decide +kernel)) (hn 7 (by decide +kernel)) (hn 8 (by decide +kernel)) (fun j hj => hn (9 + j) ((show ∀ j, j < 4 → FL1[9 + j]? = some (Cond.eq (.elem (.static "SquareCodes" "DATA_BYTES" "[I") (.int (Int32.ofNat j))) (.int (nI (dbT j)))) by decide +kernel) j hj)) hA
  obtain ⟨t1, h1⟩ := st_of (args := args) (A := A) (C := "SquareCodes$Form") (n := "LEVEL_CODES") (N := 4) (f := lcT) (by decide) (ht 564 (by decide +kernel)) (ht 25 (by decide +kernel)) (hn 35 (by decide +kernel)) (hn 36 (by decide +kernel)) (fun j hj => hn (37 + j) ((show ∀ j, j < 4 → FL1[37 + j]? = some (Cond.eq (.elem (.static "SquareCodes$Form" "LEVEL_CODES" "[I") (.int (Int32.ofNat j))) (.int (nI (lcT j)))) by decide +kernel) j hj)) hA
  obtain ⟨t2, h2⟩ := st_of (args := args) (A := A) (C := "SquareCodes$Layout") (n := "FIRST_ROWS") (N := 15) (f := f1R) (by decide) (ht 569 (by decide +kernel)) (ht 3 (by decide +kernel)) (hn 42 (by decide +kernel)) (hn 43 (by decide +kernel)) (fun j hj => hn (44 + j) ((show ∀ j, j < 15 → FL1[44 + j]? = some (Cond.eq (.elem (.static "SquareCodes$Layout" "FIRST_ROWS" "[I") (.int (Int32.ofNat j))) (.int (nI (f1R j)))) by decide +kernel) j hj)) hA
  obtain ⟨t3, h3⟩ := st_of (args := args) (A := A) (C := "SquareCodes$Layout") (n := "FIRST_COLUMNS") (N := 15) (f := f1C) (by decide) (ht 571 (by decide +kernel)) (ht 3 (by decide +kernel)) (hn 60 (by decide +kernel)) (hn 61 (by decide +kernel)) (fun j hj => hn (62 + j) ((show ∀ j, j < 15 → FL1[62 + j]? = some (Cond.eq (.elem (.static "SquareCodes$Layout" "FIRST_COLUMNS" "[I") (.int (Int32.ofNat j))) (.int (nI (f1C j)))) by decide +kernel) j hj)) hA
  obtain ⟨t4, h4⟩ := st_of (args := args) (A := A) (C := "SquareCodes$Layout") (n := "SECOND_ROWS") (N := 15) (f := f2R) (by decide) (ht 576 (by decide +kernel)) (ht 3 (by decide +kernel)) (hn 78 (by decide +kernel)) (hn 79 (by decide +kernel)) (fun j hj => hn (80 + j) ((show ∀ j, j < 15 → FL1[80 + j]? = some (Cond.eq (.elem (.static "SquareCodes$Layout" "SECOND_ROWS" "[I") (.int (Int32.ofNat j))) (.int (nI (f2R j)))) by decide +kernel) j hj)) hA
  obtain ⟨t5, h5⟩ := st_of (args := args) (A := A) (C := "SquareCodes$Layout") (n := "SECOND_COLUMNS") (N := 15) (f := f2C) (by decide) (ht 578 (by decide +kernel)) (ht 3 (by decide +kernel)) (hn 96 (by decide +kernel)) (hn 97 (by decide +kernel)) (fun j hj => hn (98 + j) ((show ∀ j, j < 15 → FL1[98 + j]? = some (Cond.eq (.elem (.static "SquareCodes$Layout" "SECOND_COLUMNS" "[I") (.int (Int32.ofNat j))) (.int (nI (f2C j)))) by decide +kernel) j hj)) hA
  have hf : ∀ q ∈ kdF, ∀ i, i < kdNm.length → (Cond.eq (.field (.static "SquareCodes$Kind" (kdNm.getD i "") "LSquareCodes$Kind;") q.1 q.2.1 q.2.2.1) (.int (q.2.2.2.getD i 0))).before args s = true := by
    intro q hq i hi
    simp only [kdF, List.mem_cons, List.not_mem_nil, or_false] at hq
    rcases hq with rfl | rfl | rfl | rfl | rfl | rfl
    · rcases (show i = 0 ∨ i = 1 ∨ i = 2 by have h9 : i < 3 := hi; omega) with rfl | rfl | rfl
      · exact hn 115 (by decide +kernel)
      · exact hn 124 (by decide +kernel)
      · exact hn 23 (by decide +kernel)
    · rcases (show i = 0 ∨ i = 1 ∨ i = 2 by have h9 : i < 3 := hi; omega) with rfl | rfl | rfl
      · exact hn 116 (by decide +kernel)
      · exact hn 125 (by decide +kernel)
      · exact hn 24 (by decide +kernel)
    · rcases (show i = 0 ∨ i = 1 ∨ i = 2 by have h9 : i < 3 := hi; omega) with rfl | rfl | rfl
      · exact hn 117 (by decide +kernel)
      · exact hn 126 (by decide +kernel)
      · exact hn 25 (by decide +kernel)
    · rcases (show i = 0 ∨ i = 1 ∨ i = 2 by have h9 : i < 3 := hi; omega) with rfl | rfl | rfl
      · exact hn 118 (by decide +kernel)
      · exact hn 127 (by decide +kernel)
      · exact hn 26 (by decide +kernel)
    · rcases (show i = 0 ∨ i = 1 ∨ i = 2 by have h9 : i < 3 := hi; omega) with rfl | rfl | rfl
      · exact hn 119 (by decide +kernel)
      · exact hn 128 (by decide +kernel)
      · exact hn 27 (by decide +kernel)
    · rcases (show i = 0 ∨ i = 1 ∨ i = 2 by have h9 : i < 3 := hi; omega) with rfl | rfl | rfl
      · exact hn 120 (by decide +kernel)
      · exact hn 129 (by decide +kernel)
      · exact hn 28 (by decide +kernel)
  have hd : ∀ i j, i < kdNm.length → j < kdNm.length → i ≠ j → (Cond.not (.eq (.static "SquareCodes$Kind" (kdNm.getD i "") "LSquareCodes$Kind;") (.static "SquareCodes$Kind" (kdNm.getD j "") "LSquareCodes$Kind;"))).before args s = true ∨ (Cond.not (.eq (.static "SquareCodes$Kind" (kdNm.getD j "") "LSquareCodes$Kind;") (.static "SquareCodes$Kind" (kdNm.getD i "") "LSquareCodes$Kind;"))).before args s = true := by
    intro i j hi hj hij
    have hi : i < 3 := hi
    have hj : j < 3 := hj
    rcases (show (i = 0 ∧ j = 1) ∨ (i = 0 ∧ j = 2) ∨ (i = 1 ∧ j = 0) ∨ (i = 1 ∧ j = 2) ∨ (i = 2 ∧ j = 0) ∨ (i = 2 ∧ j = 1) by omega) with ⟨rfl, rfl⟩ | ⟨rfl, rfl⟩ | ⟨rfl, rfl⟩ | ⟨rfl, rfl⟩ | ⟨rfl, rfl⟩ | ⟨rfl, rfl⟩
    · exact Or.inl (hn 131 (by decide +kernel))
    · exact Or.inr (hn 121 (by decide +kernel))
    · exact Or.inr (hn 131 (by decide +kernel))
    · exact Or.inr (hn 130 (by decide +kernel))
    · exact Or.inl (hn 121 (by decide +kernel))
    · exact Or.inl (hn 130 (by decide +kernel))
  obtain ⟨ad, hE, hEv⟩ := va_Enof2 (E := "SquareCodes$Kind") (d := "LSquareCodes$Kind;") (nm := kdNm) (F := kdF) (A := A) (by
    intro i hi
    rcases (show i = 0 ∨ i = 1 ∨ i = 2 by have h9 : i < 3 := hi; omega) with rfl | rfl | rfl
    · exact ht 1024 (by decide +kernel)
    · exact ht 1025 (by decide +kernel)
    · exact ht 397 (by decide +kernel)) (ht 16 (by decide +kernel)) (by
    intro i hi
    rcases (show i = 0 ∨ i = 1 ∨ i = 2 by have h9 : i < 3 := hi; omega) with rfl | rfl | rfl
    · exact hn 113 (by decide +kernel)
    · exact hn 122 (by decide +kernel)
    · exact hn 21 (by decide +kernel)) hf hd hA
  obtain ⟨t6, hk1, hk2⟩ := va_Tof (tm := .static "SquareCodes$Kind" "KINDS" "[LSquareCodes$Kind;") (ty := .object "SquareCodes$Kind") (N := 3) (f := fun j => .ref (ad j)) (A := A) (by decide) (hn 15 (by decide +kernel)) (eq_int (hn 16 (by decide +kernel))) (by
    intro i hi
    rcases (show i = 0 ∨ i = 1 ∨ i = 2 by have h9 : i < 3 := hi; omega) with rfl | rfl | rfl
    · exact eq_ref (hn 18 (by decide +kernel)) (hEv 0 (by decide))
    · exact eq_ref (hn 19 (by decide +kernel)) (hEv 1 (by decide))
    · exact eq_ref (hn 20 (by decide +kernel)) (hEv 2 (by decide))) hA
  obtain ⟨adK, adV, hS0, hS1⟩ := vk_Sof (args := args) (s := s) (N := 1) (tm := fun _ => .string "SquareCodes$Kind" 64) (len := [45]) (byt := [plBy]) (A := A) (by
    intro i hi
    obtain rfl : i = 0 := by omega
    exact by decide) (by
    intro i hi
    obtain rfl : i = 0 := by omega
    exact hn 193 (by decide +kernel)) (by
    intro i hi
    obtain rfl : i = 0 := by omega
    exact hn 194 (by decide +kernel)) (by
    intro i hi
    obtain rfl : i = 0 := by omega
    exact hn 195 (by decide +kernel)) (by
    intro i hi
    obtain rfl : i = 0 := by omega
    exact hn 196 (by decide +kernel)) (by
    intro i hi
    obtain rfl : i = 0 := by omega
    intro j hj
    exact hn (197 + j) ((show ∀ j, j < 45 → FL1[197 + j]? = some (Cond.eq (.elem (.field (.string "SquareCodes$Kind" 64) "java/lang/String" "value" "[B") (.int (Int32.ofNat j))) (.int (plBy.getD j 0))) by decide +kernel) j hj)) (fun i j hi hj hij => by omega) hA
  obtain ⟨m0, -, -, -, hm0, -⟩ := Cond.exactly_spec (args := args) (first := s) (o := none) (s := s) (idx := []) (hn (c := .exactly (.string "SquareCodes" 65) "java/lang/String") 168 (by decide +kernel))
  obtain ⟨m1, -, -, -, hm1, -⟩ := Cond.exactly_spec (args := args) (first := s) (o := none) (s := s) (idx := []) (hn (c := .exactly (.string "SquareCodes" 79) "java/lang/String") 243 (by decide +kernel))
  obtain ⟨m2, -, -, -, hm2, -⟩ := Cond.exactly_spec (args := args) (first := s) (o := none) (s := s) (idx := []) (hn (c := .exactly (.string "SquareCodes" 102) "java/lang/String") 289 (by decide +kernel))
  obtain ⟨m3, -, -, -, hm3, -⟩ := Cond.exactly_spec (args := args) (first := s) (o := none) (s := s) (idx := []) (hn (c := .exactly (.string "SquareCodes" 131) "java/lang/String") 315 (by decide +kernel))
  obtain ⟨m4, -, -, -, hm4, -⟩ := Cond.exactly_spec (args := args) (first := s) (o := none) (s := s) (idx := []) (hn (c := .exactly (.string "SquareCodes" 147) "java/lang/String") 343 (by decide +kernel))
  obtain ⟨m5, -, -, -, hm5, -⟩ := Cond.exactly_spec (args := args) (first := s) (o := none) (s := s) (idx := []) (hn (c := .exactly (.string "SquareCodes" 155) "java/lang/String") 388 (by decide +kernel))
  refine ⟨fun k => match k with | 0 => t0 | 1 => t1 | 2 => t2 | 3 => t3 | 4 => t4 | 5 => t5 | 6 => t6 | 7 => ad 0 | 8 => ad 1 | 9 => ad 2 | 10 => adK 0 | 11 => adV 0 | 12 => m0 | 13 => m1 | 14 => m2 | 15 => m3 | 16 => m4 | _ => m5, ⟨h0, h1, h2, h3, h4, h5, ?_, ?_, ?_, vk_one hS0, ?_, ?_, ?_, ?_⟩, ⟨?_, ?_, ?_⟩⟩
  · exact en_re hE (by
    intro i hi
    rcases (show i = 0 ∨ i = 1 ∨ i = 2 by have h9 : i < 3 := hi; omega) with rfl | rfl | rfl <;> rfl)
  · exact va_Zof (ht 386 (by decide +kernel)) (ht 16 (by decide +kernel)) hk1 hA
  · obtain ⟨cell, q1, q2, q3, q4, q5, q6, q7⟩ := hk2
    refine ⟨cell, q1, q2, q3, q4, q5, fun j hj => (q6 j hj).trans ?_, q7⟩
    rcases (show j = 0 ∨ j = 1 ∨ j = 2 by omega) with rfl | rfl | rfl <;> rfl
  · exact va_Zof (ht 412 (by decide +kernel)) (ht 17 (by decide +kernel)) (va_eqi (hn 29 (by decide +kernel))) hA
  · exact va_Zqof (ht 335 (by decide +kernel)) (ht 11 (by decide +kernel)) (hn 4 (by decide +kernel)) hA
  · exact va_Zqof (ht 337 (by decide +kernel)) (ht 11 (by decide +kernel)) (hn 5 (by decide +kernel)) hA
  · exact va_Zqof (ht 455 (by decide +kernel)) (ht 21 (by decide +kernel)) (hn 30 (by decide +kernel)) hA
  · exact ⟨va_Nw.of rfl (ht 1021 (by decide +kernel)), va_Nw.of rfl (ht 1022 (by decide +kernel)), va_Nw.of rfl (ht 1023 (by decide +kernel)), va_Nw.of rfl (ht 1016 (by decide +kernel)), va_Nw.of rfl (ht 1017 (by decide +kernel)), va_Nw.of rfl (ht 1018 (by decide +kernel)), va_Nw.of rfl (ht 1019 (by decide +kernel))⟩
  · exact ⟨va_Nw.of rfl (ht 135 (by decide +kernel)), va_Nw.of rfl (ht 582 (by decide +kernel)), va_Nw.of rfl (ht 680 (by decide +kernel))⟩
  · exact ⟨vk_R.of (ht 398 (by decide +kernel)) (hS1 0 (by decide)), vk_R.of (ht 349 (by decide +kernel)) hm0, vk_R.of (ht 517 (by decide +kernel)) hm1, vk_R.of (ht 592 (by decide +kernel)) hm2, vk_R.of (ht 619 (by decide +kernel)) hm3, vk_R.of (ht 671 (by decide +kernel)) hm4, vk_R.of (ht 731 (by decide +kernel)) hm5⟩
set_option maxRecDepth 100000 in
set_option maxHeartbeats 4000000 in
theorem lw_TB {s : State} {args : Array Value} {A : Nat → Prop} (hA : ∀ a : Nat, a < s.heap.size → ¬ A a) (hts : ∀ w ∈ lw_tbl, w.before args s = true) (hgv : (Jvm.Cond.and given_1 narrow_1).before args s = true) : TB A s s.heap := by
  have hs := flat_of_before _ hgv
  have hn : ∀ {c : Cond} (i : Nat), FL1[i]? = some c → c.before args s = true := fun i h => hs _ (List.mem_of_getElem? h)
  have ht : ∀ {w : Cond} (i : Nat), tables_1[i]? = some w → w.before args s = true := fun i h => hts _ (List.mem_append_right _ (List.mem_of_getElem? h))
  refine ⟨fun w hw => ?_, fun q hq => ?_, LSt.of (ht 335 (by decide +kernel)) hA, LSt.of (ht 337 (by decide +kernel)) hA⟩
  · simp only [thD, thC, thM, List.map_cons, List.map_nil, List.cons_append, List.nil_append, List.mem_cons, List.not_mem_nil, or_false] at hw
    rcases hw with rfl | rfl | rfl | rfl | rfl | rfl
    · exact va_any rfl (ht 310 (by decide +kernel))
    · exact va_any rfl (ht 510 (by decide +kernel))
    · exact va_any rfl (ht 724 (by decide +kernel))
    · exact va_any rfl (ht 312 (by decide +kernel))
    · exact va_any rfl (ht 314 (by decide +kernel))
    · exact va_any rfl (ht 316 (by decide +kernel))
  · simp only [thN, List.mem_cons, List.not_mem_nil, or_false] at hq
    rcases hq with rfl | rfl | rfl | rfl
    · exact nc_warm (Vm.Alike.refl _) (hn 142 (by decide +kernel))
    · exact nc_warm (Vm.Alike.refl _) (hn 153 (by decide +kernel))
    · exact nc_warm (Vm.Alike.refl _) (hn 155 (by decide +kernel))
    · exact nc_warm (Vm.Alike.refl _) (hn 143 (by decide +kernel))
theorem ar_of {s : State} {args : Array Value} {ty : FieldType} (hty : ty = .int ∨ ty = .char ∨ ty = .long) (h : (Cond.arrayClass ty).before args s = true) : ∃ cA : ClassId, ArrOfT s cA ty ∧ va_RA s cA ty := by
  obtain ⟨cA, kA, comp, h1, h2, h3⟩ := Cond.arrayClass_spec h
  refine ⟨cA, fun n z => ⟨fun k h => (by cases h), kA, h2, comp, h3⟩, ?_⟩
  rcases hty with rfl | rfl | rfl <;> exact h1
theorem lw_K {s : State} {args : Array Value} (hts : ∀ w ∈ WS, w.before args s = true) (h8 : (Cond.arrayClass .long).before args s = true) (h6 : (Cond.arrayClass .int).before args s = true) (h7 : (Cond.arrayClass .char).before args s = true) (i0 : (Cond.instantiable "SquareCodes$Checks" 8).before args s = true) (i1 : (Cond.instantiable "SquareCodes$Field" 2).before args s = true) (i2 : (Cond.instantiable "SquareCodes$Grid" 1).before args s = true) (i3 : (Cond.instantiable "SquareCodes$Layout" 3).before args s = true) (i4 : (Cond.instantiable "SquareCodes$Reading" 4).before args s = true) (i5 : (Cond.instantiable "SquareCodes$TextReader" 4).before args s = true) (i6 : (Cond.instantiable "SquareCodes$TextWriter" 1).before args s = true) (i7 : (Cond.instantiable "SquareCodes" 9).before args s = true) (i8 : (Cond.instantiable "SquareCodesModel" 24).before args s = true) : ∃ (D : va_G) (cI cC cL : ClassId), va_K D classes [(cI, .int), (cC, .char), (cL, .long)] s := by
  obtain ⟨cI, a1, a2⟩ := ar_of (Or.inl rfl) h6
  obtain ⟨cC, b1, b2⟩ := ar_of (Or.inr (Or.inl rfl)) h7
  obtain ⟨cL, e1, e2⟩ := ar_of (Or.inr (Or.inr rfl)) h8
  obtain ⟨c0, s0, k0⟩ := u_known hts u_Checks_in i0
  obtain ⟨c1, s1, k1⟩ := u_known hts u_Field_in i1
  obtain ⟨c2, s2, k2⟩ := u_known hts u_Grid_in i2
  obtain ⟨c3, s3, k3⟩ := u_known hts u_Layout_in i3
  obtain ⟨c4, s4, k4⟩ := u_known hts u_Reading_in i4
  obtain ⟨c5, s5, k5⟩ := u_known hts u_TextReader_in i5
  obtain ⟨c6, s6, k6⟩ := u_known hts u_TextWriter_in i6
  obtain ⟨c7, s7, k7⟩ := u_known hts u_SquareCodes_in i7
  obtain ⟨c8, s8, k8⟩ := u_known hts u_Model_in i8
  refine ⟨⟨fun k => match k with | 0 => c0 | 1 => c1 | 2 => c2 | 3 => c3 | 4 => c4 | 5 => c5 | 6 => c6 | 7 => c7 | _ => c8, fun k => match k with | 0 => s0 | 1 => s1 | 2 => s2 | 3 => s3 | 4 => s4 | 5 => s5 | 6 => s6 | 7 => s7 | _ => s8⟩, cI, cC, cL, fun c q hq => ?_, fun k q hq => ?_⟩
  · have hlt : c < 9 := (List.getElem?_eq_some_iff.mp hq).1
    rcases (show c = 0 ∨ c = 1 ∨ c = 2 ∨ c = 3 ∨ c = 4 ∨ c = 5 ∨ c = 6 ∨ c = 7 ∨ c = 8 by omega) with rfl | rfl | rfl | rfl | rfl | rfl | rfl | rfl | rfl
    · cases hq; exact k0
    · cases hq; exact k1
    · cases hq; exact k2
    · cases hq; exact k3
    · cases hq; exact k4
    · cases hq; exact k5
    · cases hq; exact k6
    · cases hq; exact k7
    · cases hq; exact k8
  · have hlt : k < 3 := (List.getElem?_eq_some_iff.mp hq).1
    rcases (show k = 0 ∨ k = 1 ∨ k = 2 by omega) with rfl | rfl | rfl
    · cases hq; exact ⟨a1, a2⟩
    · cases hq; exact ⟨b1, b2⟩
    · cases hq; exact ⟨e1, e2⟩
end START
section OWN_LAW2
variable {p : Program} {l : Launch} {e : Env} {R : Room} {s : State} {m : MethodId} {args : Array Value} {below : List Frame} {meth : Method} {c : Code} {H : Heap} {locs : List Loc} {cells slots : Nat} {Q : State → Prop}
variable {cc : ByteArray} {pc : Nat} {ls : Array Slot} {rest : List Value}
theorem n_newl {D : va_G} {A : Nat → Prop} {H0 : Heap} {cI cC cL : ClassId} {ws : va_W} {c0 : Cond} (hx : p.tables.exec = Jvm.exec) (hb : c.code = cc) (hts : ∀ w ∈ c0 :: WS, w.before args s = true) (harr : Cond.arrayClass .long ∈ WS) (hK : va_K D classes [(cI, .int), (cC, .char), (cL, .long)] s) (hP : va_P D classes ws H) (hD : va_D A ws) (hS : va_S A H0 H locs) (hA : ∀ q, H0.size ≤ q → A q) (hcells : cells + 1 ≤ R.cells) (hslots : slots + 1 ≤ R.slots) (hdg : decode cc pc = .ok (.newarray .long, 2))
    (kk : ∀ (q : Nat) (H1 : Heap), va_P D classes (ws ++ [(q, .inl (cL, 1, .inr (.inl (fun _ => 0))))]) H1 → va_D A (ws ++ [(q, .inl (cL, 1, .inr (.inl (fun _ => 0))))]) → va_S A H0 H1 locs → W p l e R s m args below meth c H1 locs (cells + 1) (slots + 1) Q (F0 m (pc + 2) ls (.ref q :: rest))) : W p l e R s m args below meth c H locs cells slots Q (F0 m pc ls (.int (nI 1) :: rest)) := by
  refine va_newa (atype := .long) hx hb (hts _ (List.mem_cons_of_mem _ harr)) rfl hK hP hD hS hA (a0 := (1, .inr (.inl (fun _ => 0)))) (fun _ => rfl) (nI_pos (by omega)) (nI_clamp (by omega)) (by show 1 * 8 ≤ 536870912; omega) hcells hslots hdg (fun q cA H1 hK1 hP1 hD1 hS1 => ?_)
  have h1 := (hK1.2 3 (cA, .long) rfl).2
  have h2 := (hK.2 2 (cL, .long) rfl).2
  have e1 : cA = cL := Option.some.inj ((show s.vm.findClass _ = some cA from h1).symm.trans (show s.vm.findClass _ = some cL from h2))
  subst e1
  exact kk q H1 hP1 hD1 hS1
end OWN_LAW2
