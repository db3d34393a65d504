theorem kw_563 : (Jvm.Cond.fieldLink "SquareCodes$Form" (9 : Nat) "SquareCodes$Form" "LEVEL_CODES" "[I") ∈ WS := WS_tbl 563 (by decide +kernel) rfl
theorem kw_613 : (Jvm.Cond.methodLink "SquareCodes$Form" (15 : Nat) ({ cls := "SquareCodes$Form", name := "bitsOf", desc := "(I)I" } : Jvm.MethodName)) ∈ WS := WS_tbl 613 (by decide +kernel) rfl
theorem kw_566 : (Jvm.Cond.static ({ cls := "SquareCodes$Form", name := "bitsOf", desc := "(I)I" } : Jvm.MethodName)) ∈ WS := WS_tbl 566 (by decide +kernel) rfl
theorem kw_25 : (Jvm.Cond.initialized "SquareCodes$Form") ∈ WS := WS_tbl 25 (by decide +kernel) rfl
set_option maxRecDepth 1000000 in
theorem kw_567 : cd_q_Form_bitsOf ∈ WS := WS_tbl 567 rfl rfl
theorem kw_614 : (Jvm.Cond.methodLink "SquareCodes$Form" (19 : Nat) ({ cls := "java/lang/Integer", name := "bitCount", desc := "(I)I" } : Jvm.MethodName)) ∈ WS := WS_tbl 614 (by decide +kernel) rfl
theorem kw_568 : (Jvm.Cond.fieldLink "SquareCodes$Layout" (64 : Nat) "SquareCodes$Layout" "FIRST_ROWS" "[I") ∈ WS := WS_tbl 568 (by decide +kernel) rfl
theorem kw_570 : (Jvm.Cond.fieldLink "SquareCodes$Layout" (67 : Nat) "SquareCodes$Layout" "FIRST_COLUMNS" "[I") ∈ WS := WS_tbl 570 (by decide +kernel) rfl
theorem kw_606 : (Jvm.Cond.methodLink "SquareCodes$Layout" (97 : Nat) ({ cls := "SquareCodes$Layout", name := "formAt", desc := "(LSquareCodes$Grid;[I[I)I" } : Jvm.MethodName)) ∈ WS := WS_tbl 606 (by decide +kernel) rfl
theorem kw_607 : (Jvm.Cond.static ({ cls := "SquareCodes$Layout", name := "formAt", desc := "(LSquareCodes$Grid;[I[I)I" } : Jvm.MethodName)) ∈ WS := WS_tbl 607 (by decide +kernel) rfl
set_option maxRecDepth 1000000 in
theorem kw_608 : cd_q_Layout_formAt ∈ WS := WS_tbl 608 rfl rfl
theorem kw_575 : (Jvm.Cond.fieldLink "SquareCodes$Layout" (74 : Nat) "SquareCodes$Layout" "SECOND_ROWS" "[I") ∈ WS := WS_tbl 575 (by decide +kernel) rfl
theorem kw_577 : (Jvm.Cond.fieldLink "SquareCodes$Layout" (77 : Nat) "SquareCodes$Layout" "SECOND_COLUMNS" "[I") ∈ WS := WS_tbl 577 (by decide +kernel) rfl
set_option maxRecDepth 1000000 in
theorem kw_584 : cd_q_bitOf ∈ WS := WS_tbl 584 rfl rfl
theorem kw_583 : (Jvm.Cond.static ({ cls := "SquareCodes", name := "bitOf", desc := "([II)I" } : Jvm.MethodName)) ∈ WS := WS_tbl 583 (by decide +kernel) rfl
theorem kw_79 : (Jvm.Cond.fieldLink "SquareCodes$Layout" (22 : Nat) "SquareCodes$Layout" "fixedRows" "[I") ∈ WS := WS_tbl 79 (by decide +kernel) rfl
theorem kw_555 : (Jvm.Cond.methodLink "SquareCodes$Layout" (51 : Nat) ({ cls := "SquareCodes$Grid", name := "copyRows", desc := "([I)V" } : Jvm.MethodName)) ∈ WS := WS_tbl 555 (by decide +kernel) rfl
theorem kw_556 : (Jvm.Cond.instanceMethod ({ cls := "SquareCodes$Grid", name := "copyRows", desc := "([I)V" } : Jvm.MethodName)) ∈ WS := WS_tbl 556 (by decide +kernel) rfl
theorem kw_557 : (Jvm.Cond.selects "SquareCodes$Grid" ({ cls := "SquareCodes$Grid", name := "copyRows", desc := "([I)V" } : Jvm.MethodName) ({ cls := "SquareCodes$Grid", name := "copyRows", desc := "([I)V" } : Jvm.MethodName)) ∈ WS := WS_tbl 557 (by decide +kernel) rfl
set_option maxRecDepth 1000000 in
theorem kw_558 : cd_q_Grid_copyRows ∈ WS := WS_tbl 558 rfl rfl
theorem kw_560 : (Jvm.Cond.methodLink "SquareCodes$Layout" (55 : Nat) ({ cls := "SquareCodes$Form", name := "numberOf", desc := "(II)I" } : Jvm.MethodName)) ∈ WS := WS_tbl 560 (by decide +kernel) rfl
theorem kw_561 : (Jvm.Cond.static ({ cls := "SquareCodes$Form", name := "numberOf", desc := "(II)I" } : Jvm.MethodName)) ∈ WS := WS_tbl 561 (by decide +kernel) rfl
set_option maxRecDepth 1000000 in
theorem kw_562 : cd_q_Form_numberOf ∈ WS := WS_tbl 562 rfl rfl
theorem kw_565 : (Jvm.Cond.methodLink "SquareCodes$Layout" (61 : Nat) ({ cls := "SquareCodes$Form", name := "bitsOf", desc := "(I)I" } : Jvm.MethodName)) ∈ WS := WS_tbl 565 (by decide +kernel) rfl
theorem kw_572 : (Jvm.Cond.methodLink "SquareCodes$Layout" (70 : Nat) ({ cls := "SquareCodes$Layout", name := "putForm", desc := "(LSquareCodes$Grid;I[I[I)V" } : Jvm.MethodName)) ∈ WS := WS_tbl 572 (by decide +kernel) rfl
theorem kw_573 : (Jvm.Cond.static ({ cls := "SquareCodes$Layout", name := "putForm", desc := "(LSquareCodes$Grid;I[I[I)V" } : Jvm.MethodName)) ∈ WS := WS_tbl 573 (by decide +kernel) rfl
set_option maxRecDepth 1000000 in
theorem kw_574 : cd_q_Layout_putForm ∈ WS := WS_tbl 574 rfl rfl
theorem kw_187 : (Jvm.Cond.fieldLink "SquareCodes" (23 : Nat) "SquareCodes" "layout" "LSquareCodes$Layout;") ∈ WS := WS_tbl 187 (by decide +kernel) rfl
theorem kw_186 : (Jvm.Cond.fieldLink "SquareCodes" (16 : Nat) "SquareCodes" "grid" "LSquareCodes$Grid;") ∈ WS := WS_tbl 186 (by decide +kernel) rfl
theorem kw_192 : (Jvm.Cond.fieldLink "SquareCodes" (55 : Nat) "SquareCodes" "bytes" "[I") ∈ WS := WS_tbl 192 (by decide +kernel) rfl
theorem kw_551 : (Jvm.Cond.methodLink "SquareCodes" (90 : Nat) ({ cls := "SquareCodes$Layout", name := "putDown", desc := "(LSquareCodes$Grid;[III)V" } : Jvm.MethodName)) ∈ WS := WS_tbl 551 (by decide +kernel) rfl
theorem kw_552 : (Jvm.Cond.instanceMethod ({ cls := "SquareCodes$Layout", name := "putDown", desc := "(LSquareCodes$Grid;[III)V" } : Jvm.MethodName)) ∈ WS := WS_tbl 552 (by decide +kernel) rfl
theorem kw_553 : (Jvm.Cond.selects "SquareCodes$Layout" ({ cls := "SquareCodes$Layout", name := "putDown", desc := "(LSquareCodes$Grid;[III)V" } : Jvm.MethodName) ({ cls := "SquareCodes$Layout", name := "putDown", desc := "(LSquareCodes$Grid;[III)V" } : Jvm.MethodName)) ∈ WS := WS_tbl 553 (by decide +kernel) rfl
set_option maxRecDepth 1000000 in
theorem kw_554 : cd_q_Layout_putDown ∈ WS := WS_tbl 554 rfl rfl
theorem kw_239 : (Jvm.Cond.methodLink "SquareCodes" (115 : Nat) ({ cls := "SquareCodes$Grid", name := "penalty", desc := "()I" } : Jvm.MethodName)) ∈ WS := WS_tbl 239 (by decide +kernel) rfl
theorem kw_240 : (Jvm.Cond.instanceMethod ({ cls := "SquareCodes$Grid", name := "penalty", desc := "()I" } : Jvm.MethodName)) ∈ WS := WS_tbl 240 (by decide +kernel) rfl
theorem kw_241 : (Jvm.Cond.selects "SquareCodes$Grid" ({ cls := "SquareCodes$Grid", name := "penalty", desc := "()I" } : Jvm.MethodName) ({ cls := "SquareCodes$Grid", name := "penalty", desc := "()I" } : Jvm.MethodName)) ∈ WS := WS_tbl 241 (by decide +kernel) rfl
set_option maxRecDepth 1000000 in
theorem kw_242 : cd_q_Grid_penalty ∈ WS := WS_tbl 242 rfl rfl
section
theorem d_q_Form_numberOf_0 : decode b_q_Form_numberOf 0 = .ok (.getstatic 9, 3) := by decide +kernel
theorem d_q_Form_numberOf_3 : decode b_q_Form_numberOf 3 = .ok (.iload_n 0, 1) := by decide +kernel
theorem d_q_Form_numberOf_4 : decode b_q_Form_numberOf 4 = .ok (.iaload, 1) := by decide +kernel
theorem d_q_Form_numberOf_5 : decode b_q_Form_numberOf 5 = .ok (.bipush 8, 2) := by decide +kernel
theorem d_q_Form_numberOf_7 : decode b_q_Form_numberOf 7 = .ok (.imul, 1) := by decide +kernel
theorem d_q_Form_numberOf_8 : decode b_q_Form_numberOf 8 = .ok (.iload_n 1, 1) := by decide +kernel
theorem d_q_Form_numberOf_9 : decode b_q_Form_numberOf 9 = .ok (.iadd, 1) := by decide +kernel
theorem d_q_Form_numberOf_10 : decode b_q_Form_numberOf 10 = .ok (.ireturn, 1) := by decide +kernel
end
section
variable {p : Program} {l : Launch} {e : Env} {R : Room} {s : State} {m : MethodId} {args : Array Value} {below : List Frame} {meth : Method} {c : Code} {cells slots : Nat} {Q : State → Prop} {A : Nat → Prop} {H0 : Heap} {D : va_G}
set_option maxHeartbeats 1000000 in
set_option maxRecDepth 100000 in
theorem bd_q_Form_numberOf (cI cC : ClassId) (sa : Nat → Nat) (x y : Nat) (hx0 : x < 4) (hy0 : y < 8) (S : CallFix p m c b_q_Form_numberOf 2 s args (cd_q_Form_numberOf :: WS) R_Form) (hRf : 0 ≤ R.frames) (hRl : 0 ≤ R.locals) (hRc : cells ≤ R.cells ∧ slots ≤ R.slots) (hK : va_K D classes [(cI, .int), (cC, .char)] s) (hSt : SB sa A s s.heap) (kr : ∀ (pc : Nat) (ls : Array Slot) (H : Heap) (locs : List Loc), decode b_q_Form_numberOf pc = .ok (.ireturn, 1) → va_S A s.heap H locs → W p l e R s m args below meth c H locs cells slots Q (F0 m pc ls [.int (nI (lcT x * 8 + y))])) : ∀ (ls : Array Slot) (H : Heap) (locs : List Loc), lv_has ls 2 [(0, .int (nI x)), (1, .int (nI y))] → va_S A s.heap H locs → W p l e R s m args below meth c H locs cells slots Q (F0 m 0 ls []) := by
  obtain ⟨hx, hb, hml, hown, hts⟩ := id S
  intro ls H locs hl hS
  refine n_gets hx hb hts hSt.1.2.1.1 hS hown kw_563 d_q_Form_numberOf_0 ?_
  refine lv_iload_n hx hb d_q_Form_numberOf_3 rfl (lv_at hl 0 rfl) ?_
  refine n_ti hx hb hSt.1.2.1.2 hS (by omega) (by decide) d_q_Form_numberOf_4 ?_
  refine lv_bipush (v := nI 8) hx hb d_q_Form_numberOf_5 (by decide) ?_
  refine n_imul hx hb d_q_Form_numberOf_7 ?_
  refine lv_iload_n hx hb d_q_Form_numberOf_8 rfl (lv_at hl 1 rfl) ?_
  refine n_iadd hx hb d_q_Form_numberOf_9 ?_
  refine n_topn (show ((lcT x) * 8) + y = lcT x * 8 + y from rfl) ?_
  exact kr _ ls H locs d_q_Form_numberOf_10 hS
set_option maxHeartbeats 1000000 in
set_option maxRecDepth 100000 in
theorem c_q_Form_numberOf (l : Launch) (D : va_G) (cI cC : ClassId) (sa : Nat → Nat) (x y : Nat) (hx0 : x < 4) (hy0 : y < 8) : Met l y_q_Form_numberOf (cd_q_Form_numberOf :: WS) { frames := 0, cells := 0, slots := 0, locals := 0 } (va_Pc [.int (nI x), .int (nI y)] (srP sa D [] [(cI, .int), (cC, .char)])) (pQ (nI (lcT x * 8 + y))) 0 0 noA := by
  refine Met.ofW (cc := b_q_Form_numberOf) (maxL := 2) (ret := (some .int)) (by decide) rfl ?_
  intro p e s m args below meth c s₁ B hml hv0
  obtain ⟨rfl, ⟨hP, hK⟩, hSt⟩ := hv0
  have hts := atoms_spec (ws := cd_q_Form_numberOf :: WS) B.pre
  have hown : s.vm.findClass R_Form = some m.cls := findClass_of_methodNamed B.named
  have hlocks := B.notSynchronized
  have hl := lv_entry ([.int (nI x), .int (nI y)]) (n := 2) (Nat.le_of_ble_eq_true rfl)
  rw [lg_entry_eq]
  generalize (lg_sl ([.int (nI x), .int (nI y)]) ++ List.replicate (2 - (lg_sl ([.int (nI x), .int (nI y)])).length) Slot.unset).toArray = ls at hl ⊢
  refine bd_q_Form_numberOf cI cC sa x y hx0 hy0 ⟨B.exec, B.bytes, hml, hown, hts⟩ (Nat.le_refl _) (Nat.le_refl _) ⟨Nat.le_refl _, Nat.le_refl _⟩ hK hSt (fun pc ls H locs hd hS => ?_) ls _ _ hl (va_S.rf (A := noA))
  exact W.iret B.exec B.bytes B.returns (fun t ht _ => ⟨⟨_, (), rfl, rfl, trivial⟩, hS.F ht⟩) hS.2.2 hd
end
section
theorem d_q_Form_levelOf_0 : decode b_q_Form_levelOf 0 = .ok (.getstatic 9, 3) := by decide +kernel
theorem d_q_Form_levelOf_3 : decode b_q_Form_levelOf 3 = .ok (.iload_n 0, 1) := by decide +kernel
theorem d_q_Form_levelOf_4 : decode b_q_Form_levelOf 4 = .ok (.bipush 8, 2) := by decide +kernel
theorem d_q_Form_levelOf_6 : decode b_q_Form_levelOf 6 = .ok (.idiv, 1) := by decide +kernel
theorem d_q_Form_levelOf_7 : decode b_q_Form_levelOf 7 = .ok (.iaload, 1) := by decide +kernel
theorem d_q_Form_levelOf_8 : decode b_q_Form_levelOf 8 = .ok (.ireturn, 1) := by decide +kernel
end
section
variable {p : Program} {l : Launch} {e : Env} {R : Room} {s : State} {m : MethodId} {args : Array Value} {below : List Frame} {meth : Method} {c : Code} {cells slots : Nat} {Q : State → Prop} {A : Nat → Prop} {H0 : Heap} {D : va_G}
set_option maxHeartbeats 1000000 in
set_option maxRecDepth 100000 in
theorem bd_q_Form_levelOf (cI cC : ClassId) (sa : Nat → Nat) (x : Nat) (hx0 : x < 32) (S : CallFix p m c b_q_Form_levelOf 1 s args (cd_q_Form_levelOf :: WS) R_Form) (hRf : 0 ≤ R.frames) (hRl : 0 ≤ R.locals) (hRc : cells ≤ R.cells ∧ slots ≤ R.slots) (hK : va_K D classes [(cI, .int), (cC, .char)] s) (hSt : SB sa A s s.heap) (kr : ∀ (pc : Nat) (ls : Array Slot) (H : Heap) (locs : List Loc), decode b_q_Form_levelOf pc = .ok (.ireturn, 1) → va_S A s.heap H locs → W p l e R s m args below meth c H locs cells slots Q (F0 m pc ls [.int (nI (lcT (x / 8)))])) : ∀ (ls : Array Slot) (H : Heap) (locs : List Loc), lv_has ls 1 [(0, .int (nI x))] → va_S A s.heap H locs → W p l e R s m args below meth c H locs cells slots Q (F0 m 0 ls []) := by
  obtain ⟨hx, hb, hml, hown, hts⟩ := id S
  intro ls H locs hl hS
  refine n_gets hx hb hts hSt.1.2.1.1 hS hown kw_563 d_q_Form_levelOf_0 ?_
  refine lv_iload_n hx hb d_q_Form_levelOf_3 rfl (lv_at hl 0 rfl) ?_
  refine lv_bipush (v := nI 8) hx hb d_q_Form_levelOf_4 (by decide) ?_
  refine n_idiv hx hb d_q_Form_levelOf_6 (by omega) (by omega) (by omega) ?_
  refine n_ti hx hb hSt.1.2.1.2 hS (by omega) (by decide) d_q_Form_levelOf_7 ?_
  exact kr _ ls H locs d_q_Form_levelOf_8 hS
set_option maxHeartbeats 1000000 in
set_option maxRecDepth 100000 in
theorem c_q_Form_levelOf (l : Launch) (D : va_G) (cI cC : ClassId) (sa : Nat → Nat) (x : Nat) (hx0 : x < 32) : Met l y_q_Form_levelOf (cd_q_Form_levelOf :: WS) { frames := 0, cells := 0, slots := 0, locals := 0 } (va_Pc [.int (nI x)] (srP sa D [] [(cI, .int), (cC, .char)])) (pQ (nI (lcT (x / 8)))) 0 0 noA := by
  refine Met.ofW (cc := b_q_Form_levelOf) (maxL := 1) (ret := (some .int)) (by decide) rfl ?_
  intro p e s m args below meth c s₁ B hml hv0
  obtain ⟨rfl, ⟨hP, hK⟩, hSt⟩ := hv0
  have hts := atoms_spec (ws := cd_q_Form_levelOf :: WS) B.pre
  have hown : s.vm.findClass R_Form = some m.cls := findClass_of_methodNamed B.named
  have hlocks := B.notSynchronized
  have hl := lv_entry ([.int (nI x)]) (n := 1) (Nat.le_of_ble_eq_true rfl)
  rw [lg_entry_eq]
  generalize (lg_sl ([.int (nI x)]) ++ List.replicate (1 - (lg_sl ([.int (nI x)])).length) Slot.unset).toArray = ls at hl ⊢
  refine bd_q_Form_levelOf cI cC sa x hx0 ⟨B.exec, B.bytes, hml, hown, hts⟩ (Nat.le_refl _) (Nat.le_refl _) ⟨Nat.le_refl _, Nat.le_refl _⟩ hK hSt (fun pc ls H locs hd hS => ?_) ls _ _ hl (va_S.rf (A := noA))
  exact W.iret B.exec B.bytes B.returns (fun t ht _ => ⟨⟨_, (), rfl, rfl, trivial⟩, hS.F ht⟩) hS.2.2 hd
end
section
theorem d_q_Form_maskOf_0 : decode b_q_Form_maskOf 0 = .ok (.iload_n 0, 1) := by decide +kernel
theorem d_q_Form_maskOf_1 : decode b_q_Form_maskOf 1 = .ok (.bipush 8, 2) := by decide +kernel
theorem d_q_Form_maskOf_3 : decode b_q_Form_maskOf 3 = .ok (.irem, 1) := by decide +kernel
theorem d_q_Form_maskOf_4 : decode b_q_Form_maskOf 4 = .ok (.ireturn, 1) := by decide +kernel
end
section
variable {p : Program} {l : Launch} {e : Env} {R : Room} {s : State} {m : MethodId} {args : Array Value} {below : List Frame} {meth : Method} {c : Code} {cells slots : Nat} {Q : State → Prop} {A : Nat → Prop} {H0 : Heap} {D : va_G}
set_option maxHeartbeats 1000000 in
set_option maxRecDepth 100000 in
theorem bd_q_Form_maskOf (x : Nat) (hx0 : x < 32) (S : CallFix p m c b_q_Form_maskOf 1 s args (cd_q_Form_maskOf :: WS) R_Form) (hRf : 0 ≤ R.frames) (hRl : 0 ≤ R.locals) (hRc : cells ≤ R.cells ∧ slots ≤ R.slots) (kr : ∀ (pc : Nat) (ls : Array Slot) (H : Heap) (locs : List Loc), decode b_q_Form_maskOf pc = .ok (.ireturn, 1) → va_S A H0 H locs → W p l e R s m args below meth c H locs cells slots Q (F0 m pc ls [.int (nI (x % 8))])) : ∀ (ls : Array Slot) (H : Heap) (locs : List Loc), lv_has ls 1 [(0, .int (nI x))] → va_S A H0 H locs → W p l e R s m args below meth c H locs cells slots Q (F0 m 0 ls []) := by
  obtain ⟨hx, hb, hml, hown, hts⟩ := id S
  intro ls H locs hl hS
  refine lv_iload_n hx hb d_q_Form_maskOf_0 rfl (lv_at hl 0 rfl) ?_
  refine lv_bipush (v := nI 8) hx hb d_q_Form_maskOf_1 (by decide) ?_
  refine n_irem hx hb d_q_Form_maskOf_3 (by omega) (by omega) (by omega) ?_
  exact kr _ ls H locs d_q_Form_maskOf_4 hS
set_option maxHeartbeats 1000000 in
set_option maxRecDepth 100000 in
theorem c_q_Form_maskOf (l : Launch) (x : Nat) (hx0 : x < 32) : Met l y_q_Form_maskOf (cd_q_Form_maskOf :: WS) { frames := 0, cells := 0, slots := 0, locals := 0 } (va_Pc [.int (nI x)] (fun _ => True)) (pQ ((nI (x % 8)))) 0 0 noA := by
  refine Met.ofW (cc := b_q_Form_maskOf) (maxL := 1) (ret := (some .int)) (by decide) rfl ?_
  intro p e s m args below meth c s₁ B hml hv0
  obtain ⟨rfl, -⟩ := hv0
  have hts := atoms_spec (ws := cd_q_Form_maskOf :: WS) B.pre
  have hown : s.vm.findClass R_Form = some m.cls := findClass_of_methodNamed B.named
  have hlocks := B.notSynchronized
  have hl := lv_entry ([.int (nI x)]) (n := 1) (Nat.le_of_ble_eq_true rfl)
  rw [lg_entry_eq]
  generalize (lg_sl ([.int (nI x)]) ++ List.replicate (1 - (lg_sl ([.int (nI x)])).length) Slot.unset).toArray = ls at hl ⊢
  refine bd_q_Form_maskOf x hx0 ⟨B.exec, B.bytes, hml, hown, hts⟩ (Nat.le_refl _) (Nat.le_refl _) ⟨Nat.le_refl _, Nat.le_refl _⟩ (fun pc ls H locs hd hS => ?_) ls _ _ hl (va_S.rf (A := noA))
  exact W.iret B.exec B.bytes B.returns (fun t ht _ => ⟨⟨_, (), rfl, rfl, trivial⟩, hS.F ht⟩) hS.2.2 hd
end
section
theorem d_q_Form_nearest_0 : decode b_q_Form_nearest 0 = .ok (.iconst 0, 1) := by decide +kernel
theorem d_q_Form_nearest_1 : decode b_q_Form_nearest 1 = .ok (.istore_n 1, 1) := by decide +kernel
theorem d_q_Form_nearest_2 : decode b_q_Form_nearest 2 = .ok (.iload_n 1, 1) := by decide +kernel
theorem d_q_Form_nearest_3 : decode b_q_Form_nearest 3 = .ok (.bipush 32, 2) := by decide +kernel
theorem d_q_Form_nearest_5 : decode b_q_Form_nearest 5 = .ok (.if_icmp .ge 24, 3) := by decide +kernel
theorem d_q_Form_nearest_8 : decode b_q_Form_nearest 8 = .ok (.iload_n 1, 1) := by decide +kernel
theorem d_q_Form_nearest_9 : decode b_q_Form_nearest 9 = .ok (.invokestatic 15, 3) := by decide +kernel
theorem d_q_Form_nearest_12 : decode b_q_Form_nearest 12 = .ok (.iload_n 0, 1) := by decide +kernel
theorem d_q_Form_nearest_13 : decode b_q_Form_nearest 13 = .ok (.ixor, 1) := by decide +kernel
theorem d_q_Form_nearest_14 : decode b_q_Form_nearest 14 = .ok (.invokestatic 19, 3) := by decide +kernel
theorem d_q_Form_nearest_17 : decode b_q_Form_nearest 17 = .ok (.iconst 3, 1) := by decide +kernel
theorem d_q_Form_nearest_18 : decode b_q_Form_nearest 18 = .ok (.if_icmp .gt 5, 3) := by decide +kernel
theorem d_q_Form_nearest_21 : decode b_q_Form_nearest 21 = .ok (.iload_n 1, 1) := by decide +kernel
theorem d_q_Form_nearest_22 : decode b_q_Form_nearest 22 = .ok (.ireturn, 1) := by decide +kernel
theorem d_q_Form_nearest_23 : decode b_q_Form_nearest 23 = .ok (.iinc 1 1, 3) := by decide +kernel
theorem d_q_Form_nearest_26 : decode b_q_Form_nearest 26 = .ok (.goto (-24), 3) := by decide +kernel
theorem d_q_Form_nearest_29 : decode b_q_Form_nearest 29 = .ok (.iconst (-1), 1) := by decide +kernel
theorem d_q_Form_nearest_30 : decode b_q_Form_nearest 30 = .ok (.ireturn, 1) := by decide +kernel
end
section
variable {p : Program} {l : Launch} {e : Env} {R : Room} {s : State} {m : MethodId} {args : Array Value} {below : List Frame} {meth : Method} {c : Code} {cells slots : Nat} {Q : State → Prop} {A : Nat → Prop} {H0 : Heap} {D : va_G}
set_option maxHeartbeats 1000000 in
set_option maxRecDepth 100000 in
theorem lp_q_Form_nearest_no_2 (cI cC : ClassId) (cp : Nat) (hcp : cp < 2 ^ 15) (hno : ∀ j, j < 32 → ¬ bcN (fmW j ^^^ cp) ≤ 3) (S : CallFix p m c b_q_Form_nearest 2 s args (cd_q_Form_nearest :: WS) R_Form) (hRf : 1 ≤ R.frames) (hRl : 22 ≤ R.locals) (hRc : cells ≤ R.cells ∧ slots ≤ R.slots) (hK : va_K D classes [(cI, .int), (cC, .char)] s) (kx : ∀ (ls : Array Slot) (H : Heap) (locs : List Loc), lv_has ls 2 [(0, .int (nI cp)), (1, .int (nI 32))] → va_S A H0 H locs → W p l e R s m args below meth c H locs cells slots Q (F0 m 29 ls [])) :
    ∀ k, k ≤ 32 → ∀ (ls : Array Slot) (H : Heap) (locs : List Loc), lv_has ls 2 [(0, .int (nI cp)), (1, .int (nI k))] → va_S A H0 H locs → W p l e R s m args below meth c H locs cells slots Q (F0 m 2 ls []) := by
  obtain ⟨hx, hb, hml, hown, hts⟩ := id S
  refine up_loop (fun k hkk ih => ?_)
  intro ls H locs hl hS
  refine lv_iload_n hx hb d_q_Form_nearest_2 rfl (lv_at hl 1 rfl) ?_
  refine lv_bipush (v := nI 32) hx hb d_q_Form_nearest_3 (by decide) ?_
  refine n_icmp_ge hx hb d_q_Form_nearest_5 (tgt := 29) rfl (by omega) (by omega) (fun g5 => ?_) (fun g5 => ?_)
  · skip
    obtain rfl : k = 32 := by omega
    exact kx ls H locs (lv_sub hl [0, 1] rfl) hS
  · skip
    refine lv_iload_n hx hb d_q_Form_nearest_8 rfl (lv_at hl 1 rfl) ?_
    refine q_pureS (n := 1) (As := [.int (nI k)]) (rest := []) S (c_q_Form_bitsOf l k (by omega)) (q_goodS kw_613 kw_566 kw_25 kw_567) (by decide +kernel) rfl rfl ⟨Nat.le_trans (Nat.le_of_ble_eq_true rfl) hRf, Nat.le_trans (Nat.le_of_ble_eq_true rfl) hRl⟩ rfl hl.1 rfl (Nat.le_of_ble_eq_true rfl) d_q_Form_nearest_9 hRc hS (fun H locs hkp hS => ?_)
    refine lv_iload_n hx hb d_q_Form_nearest_12 rfl (lv_at hl 0 rfl) ?_
    refine n_ixor hx hb d_q_Form_nearest_13 ?_
    refine q_pureS (n := 1) (As := [.int (nI ((fmW k) ^^^ cp))]) (rest := []) S (c_j_Integer_bitCount l ((fmW k) ^^^ cp) (Nat.lt_trans (Nat.xor_lt_two_pow (n := 15) (fmW_lt k (by omega)) hcp) (by decide))) (q_goodS kw_614 kw_249 kw_26 kw_250) (by decide +kernel) rfl rfl ⟨Nat.le_trans (Nat.le_of_ble_eq_true rfl) hRf, Nat.le_trans (Nat.le_of_ble_eq_true rfl) hRl⟩ rfl hl.1 rfl (Nat.le_of_ble_eq_true rfl) d_q_Form_nearest_14 hRc hS (fun H locs hkp hS => ?_)
    refine lv_iconst (v := nI 3) hx hb d_q_Form_nearest_17 (by decide) ?_
    refine n_icmp_gt hx hb d_q_Form_nearest_18 (tgt := 23) rfl (Nat.lt_of_le_of_lt (bcN_le _) (by decide)) (by decide) (fun g18 => ?_) (fun g18 => absurd g18 (by have h9 := hno k (by omega); omega))
    refine lv_iinc (k := 1) (v := nI (k + 1)) hx hb d_q_Form_nearest_23 hl rfl (nx_inc k 1) (Nat.le_of_ble_eq_true rfl) rfl (fun ls hl => ?_)
    have hl : lv_has ls 2 [(1, .int (nI (k + 1))), (0, .int (nI cp))] := hl
    refine lv_goto hx hb d_q_Form_nearest_26 (tgt := 2) rfl ?_
    exact ih (by omega) ls H locs (lv_sub hl [1, 0] rfl) hS
set_option maxHeartbeats 1000000 in
set_option maxRecDepth 100000 in
theorem bd_q_Form_nearest_no (cI cC : ClassId) (cp : Nat) (hcp : cp < 2 ^ 15) (hno : ∀ j, j < 32 → ¬ bcN (fmW j ^^^ cp) ≤ 3) (S : CallFix p m c b_q_Form_nearest 2 s args (cd_q_Form_nearest :: WS) R_Form) (hRf : 1 ≤ R.frames) (hRl : 22 ≤ R.locals) (hRc : cells ≤ R.cells ∧ slots ≤ R.slots) (hK : va_K D classes [(cI, .int), (cC, .char)] s) (kr : ∀ (pc : Nat) (ls : Array Slot) (H : Heap) (locs : List Loc), decode b_q_Form_nearest pc = .ok (.ireturn, 1) → va_S A H0 H locs → W p l e R s m args below meth c H locs cells slots Q (F0 m pc ls [.int (-1)])) : ∀ (ls : Array Slot) (H : Heap) (locs : List Loc), lv_has ls 2 [(0, .int (nI cp))] → va_S A H0 H locs → W p l e R s m args below meth c H locs cells slots Q (F0 m 0 ls []) := by
  obtain ⟨hx, hb, hml, hown, hts⟩ := id S
  intro ls H locs hl hS
  refine lv_iconst (v := nI 0) hx hb d_q_Form_nearest_0 (by decide) ?_
  refine lv_istore_n hx hb d_q_Form_nearest_1 rfl hl (Nat.le_of_ble_eq_true rfl) rfl (fun ls hl => ?_)
  have hl : lv_has ls 2 [(1, .int (nI 0)), (0, .int (nI cp))] := hl
  refine lp_q_Form_nearest_no_2 cI cC cp hcp hno S hRf hRl hRc hK  (fun ls H locs hl hS => ?_) 0 (by omega) ls H locs (lv_sub hl [1, 0] rfl) hS
  refine lv_iconst (v := (-1)) hx hb d_q_Form_nearest_29 (by decide) ?_
  exact kr _ ls H locs d_q_Form_nearest_30 hS
set_option maxHeartbeats 1000000 in
set_option maxRecDepth 100000 in
theorem c_q_Form_nearest_no (l : Launch) (D : va_G) (cI cC : ClassId) (cp : Nat) (hcp : cp < 2 ^ 15) (hno : ∀ j, j < 32 → ¬ bcN (fmW j ^^^ cp) ≤ 3) : Met l y_q_Form_nearest (cd_q_Form_nearest :: WS) { frames := 1, cells := 0, slots := 0, locals := 22 } (va_Pc [.int (nI cp)] (rP D [] [(cI, .int), (cC, .char)])) (pQ (-1)) 0 0 noA := by
  refine Met.ofW (cc := b_q_Form_nearest) (maxL := 2) (ret := (some .int)) (by decide) rfl ?_
  intro p e s m args below meth c s₁ B hml hv0
  obtain ⟨rfl, hP, hK⟩ := hv0
  have hts := atoms_spec (ws := cd_q_Form_nearest :: WS) B.pre
  have hown : s.vm.findClass R_Form = some m.cls := findClass_of_methodNamed B.named
  have hlocks := B.notSynchronized
  have hl := lv_entry ([.int (nI cp)]) (n := 2) (Nat.le_of_ble_eq_true rfl)
  rw [lg_entry_eq]
  generalize (lg_sl ([.int (nI cp)]) ++ List.replicate (2 - (lg_sl ([.int (nI cp)])).length) Slot.unset).toArray = ls at hl ⊢
  refine bd_q_Form_nearest_no cI cC cp hcp hno ⟨B.exec, B.bytes, hml, hown, hts⟩ (Nat.le_refl _) (Nat.le_refl _) ⟨Nat.le_refl _, Nat.le_refl _⟩ hK (fun pc ls H locs hd hS => ?_) ls _ _ hl (va_S.rf (A := noA))
  exact W.iret B.exec B.bytes B.returns (fun t ht _ => ⟨⟨_, (), rfl, rfl, trivial⟩, hS.F ht⟩) hS.2.2 hd
end
section
variable {p : Program} {l : Launch} {e : Env} {R : Room} {s : State} {m : MethodId} {args : Array Value} {below : List Frame} {meth : Method} {c : Code} {cells slots : Nat} {Q : State → Prop} {A : Nat → Prop} {H0 : Heap} {D : va_G}
set_option maxHeartbeats 1000000 in
set_option maxRecDepth 100000 in
theorem lp_q_Form_nearest_at_2 (cI cC : ClassId) (cp x0 : Nat) (hcp : cp < 2 ^ 15) (hx0 : x0 < 32) (hnr : bcN (fmW x0 ^^^ cp) ≤ 3) (hlo : ∀ j, j < x0 → ¬ bcN (fmW j ^^^ cp) ≤ 3) (S : CallFix p m c b_q_Form_nearest 2 s args (cd_q_Form_nearest :: WS) R_Form) (hRf : 1 ≤ R.frames) (hRl : 22 ≤ R.locals) (hRc : cells ≤ R.cells ∧ slots ≤ R.slots) (hK : va_K D classes [(cI, .int), (cC, .char)] s) (kr : ∀ (pc : Nat) (ls : Array Slot) (H : Heap) (locs : List Loc), decode b_q_Form_nearest pc = .ok (.ireturn, 1) → va_S A H0 H locs → W p l e R s m args below meth c H locs cells slots Q (F0 m pc ls [.int (nI x0)])) :
    ∀ k, k ≤ x0 → ∀ (ls : Array Slot) (H : Heap) (locs : List Loc), lv_has ls 2 [(0, .int (nI cp)), (1, .int (nI k))] → va_S A H0 H locs → W p l e R s m args below meth c H locs cells slots Q (F0 m 2 ls []) := by
  obtain ⟨hx, hb, hml, hown, hts⟩ := id S
  refine up_loop (fun k hkk ih => ?_)
  intro ls H locs hl hS
  refine lv_iload_n hx hb d_q_Form_nearest_2 rfl (lv_at hl 1 rfl) ?_
  refine lv_bipush (v := nI 32) hx hb d_q_Form_nearest_3 (by decide) ?_
  refine n_icmp_ge hx hb d_q_Form_nearest_5 (tgt := 29) rfl (by omega) (by omega) (fun g5 => absurd g5 (by omega)) (fun g5 => ?_)
  refine lv_iload_n hx hb d_q_Form_nearest_8 rfl (lv_at hl 1 rfl) ?_
  refine q_pureS (n := 1) (As := [.int (nI k)]) (rest := []) S (c_q_Form_bitsOf l k (by omega)) (q_goodS kw_613 kw_566 kw_25 kw_567) (by decide +kernel) rfl rfl ⟨Nat.le_trans (Nat.le_of_ble_eq_true rfl) hRf, Nat.le_trans (Nat.le_of_ble_eq_true rfl) hRl⟩ rfl hl.1 rfl (Nat.le_of_ble_eq_true rfl) d_q_Form_nearest_9 hRc hS (fun H locs hkp hS => ?_)
  refine lv_iload_n hx hb d_q_Form_nearest_12 rfl (lv_at hl 0 rfl) ?_
  refine n_ixor hx hb d_q_Form_nearest_13 ?_
  rcases Nat.lt_or_ge k x0 with hdd | hdd
  · skip
    refine q_pureS (n := 1) (As := [.int (nI ((fmW k) ^^^ cp))]) (rest := []) S (c_j_Integer_bitCount l ((fmW k) ^^^ cp) (Nat.lt_trans (Nat.xor_lt_two_pow (n := 15) (fmW_lt k (by omega)) hcp) (by decide))) (q_goodS kw_614 kw_249 kw_26 kw_250) (by decide +kernel) rfl rfl ⟨Nat.le_trans (Nat.le_of_ble_eq_true rfl) hRf, Nat.le_trans (Nat.le_of_ble_eq_true rfl) hRl⟩ rfl hl.1 rfl (Nat.le_of_ble_eq_true rfl) d_q_Form_nearest_14 hRc hS (fun H locs hkp hS => ?_)
    refine lv_iconst (v := nI 3) hx hb d_q_Form_nearest_17 (by decide) ?_
    refine n_icmp_gt hx hb d_q_Form_nearest_18 (tgt := 23) rfl (Nat.lt_of_le_of_lt (bcN_le _) (by decide)) (by decide) (fun g18 => ?_) (fun g18 => absurd g18 (by have h9 := hlo k hdd; omega))
    refine lv_iinc (k := 1) (v := nI (k + 1)) hx hb d_q_Form_nearest_23 hl rfl (nx_inc k 1) (Nat.le_of_ble_eq_true rfl) rfl (fun ls hl => ?_)
    have hl : lv_has ls 2 [(1, .int (nI (k + 1))), (0, .int (nI cp))] := hl
    refine lv_goto hx hb d_q_Form_nearest_26 (tgt := 2) rfl ?_
    exact ih (by omega) ls H locs (lv_sub hl [1, 0] rfl) hS
  · skip
    have e0 : k = x0 := by omega
    have hnk : bcN (fmW k ^^^ cp) ≤ 3 := by rw [e0]; exact hnr
    refine q_pureS (n := 1) (As := [.int (nI ((fmW k) ^^^ cp))]) (rest := []) S (c_j_Integer_bitCount l ((fmW k) ^^^ cp) (Nat.lt_trans (Nat.xor_lt_two_pow (n := 15) (fmW_lt k (by omega)) hcp) (by decide))) (q_goodS kw_614 kw_249 kw_26 kw_250) (by decide +kernel) rfl rfl ⟨Nat.le_trans (Nat.le_of_ble_eq_true rfl) hRf, Nat.le_trans (Nat.le_of_ble_eq_true rfl) hRl⟩ rfl hl.1 rfl (Nat.le_of_ble_eq_true rfl) d_q_Form_nearest_14 hRc hS (fun H locs hkp hS => ?_)
    refine lv_iconst (v := nI 3) hx hb d_q_Form_nearest_17 (by decide) ?_
    refine n_icmp_gt hx hb d_q_Form_nearest_18 (tgt := 23) rfl (Nat.lt_of_le_of_lt (bcN_le _) (by decide)) (by decide) (fun g18 => absurd g18 (by omega)) (fun g18 => ?_)
    refine lv_iload_n hx hb d_q_Form_nearest_21 rfl (lv_at hl 1 rfl) ?_
    refine n_topn (show k = x0 from (by omega)) ?_
    exact kr _ ls H locs d_q_Form_nearest_22 hS
set_option maxHeartbeats 1000000 in
set_option maxRecDepth 100000 in
theorem bd_q_Form_nearest_at (cI cC : ClassId) (cp x0 : Nat) (hcp : cp < 2 ^ 15) (hx0 : x0 < 32) (hnr : bcN (fmW x0 ^^^ cp) ≤ 3) (hlo : ∀ j, j < x0 → ¬ bcN (fmW j ^^^ cp) ≤ 3) (S : CallFix p m c b_q_Form_nearest 2 s args (cd_q_Form_nearest :: WS) R_Form) (hRf : 1 ≤ R.frames) (hRl : 22 ≤ R.locals) (hRc : cells ≤ R.cells ∧ slots ≤ R.slots) (hK : va_K D classes [(cI, .int), (cC, .char)] s) (kr : ∀ (pc : Nat) (ls : Array Slot) (H : Heap) (locs : List Loc), decode b_q_Form_nearest pc = .ok (.ireturn, 1) → va_S A H0 H locs → W p l e R s m args below meth c H locs cells slots Q (F0 m pc ls [.int (nI x0)])) : ∀ (ls : Array Slot) (H : Heap) (locs : List Loc), lv_has ls 2 [(0, .int (nI cp))] → va_S A H0 H locs → W p l e R s m args below meth c H locs cells slots Q (F0 m 0 ls []) := by
  obtain ⟨hx, hb, hml, hown, hts⟩ := id S
  intro ls H locs hl hS
  refine lv_iconst (v := nI 0) hx hb d_q_Form_nearest_0 (by decide) ?_
  refine lv_istore_n hx hb d_q_Form_nearest_1 rfl hl (Nat.le_of_ble_eq_true rfl) rfl (fun ls hl => ?_)
  have hl : lv_has ls 2 [(1, .int (nI 0)), (0, .int (nI cp))] := hl
  exact lp_q_Form_nearest_at_2 cI cC cp x0 hcp hx0 hnr hlo S hRf hRl hRc hK  kr  0 (by omega) ls H locs (lv_sub hl [1, 0] rfl) hS
set_option maxHeartbeats 1000000 in
set_option maxRecDepth 100000 in
theorem c_q_Form_nearest_at (l : Launch) (D : va_G) (cI cC : ClassId) (cp x0 : Nat) (hcp : cp < 2 ^ 15) (hx0 : x0 < 32) (hnr : bcN (fmW x0 ^^^ cp) ≤ 3) (hlo : ∀ j, j < x0 → ¬ bcN (fmW j ^^^ cp) ≤ 3) : Met l y_q_Form_nearest (cd_q_Form_nearest :: WS) { frames := 1, cells := 0, slots := 0, locals := 22 } (va_Pc [.int (nI cp)] (rP D [] [(cI, .int), (cC, .char)])) (pQ (nI x0)) 0 0 noA := by
  refine Met.ofW (cc := b_q_Form_nearest) (maxL := 2) (ret := (some .int)) (by decide) rfl ?_
  intro p e s m args below meth c s₁ B hml hv0
  obtain ⟨rfl, hP, hK⟩ := hv0
  have hts := atoms_spec (ws := cd_q_Form_nearest :: WS) B.pre
  have hown : s.vm.findClass R_Form = some m.cls := findClass_of_methodNamed B.named
  have hlocks := B.notSynchronized
  have hl := lv_entry ([.int (nI cp)]) (n := 2) (Nat.le_of_ble_eq_true rfl)
  rw [lg_entry_eq]
  generalize (lg_sl ([.int (nI cp)]) ++ List.replicate (2 - (lg_sl ([.int (nI cp)])).length) Slot.unset).toArray = ls at hl ⊢
  refine bd_q_Form_nearest_at cI cC cp x0 hcp hx0 hnr hlo ⟨B.exec, B.bytes, hml, hown, hts⟩ (Nat.le_refl _) (Nat.le_refl _) ⟨Nat.le_refl _, Nat.le_refl _⟩ hK (fun pc ls H locs hd hS => ?_) ls _ _ hl (va_S.rf (A := noA))
  exact W.iret B.exec B.bytes B.returns (fun t ht _ => ⟨⟨_, (), rfl, rfl, trivial⟩, hS.F ht⟩) hS.2.2 hd
end
section
variable {p : Program} {l : Launch} {e : Env} {R : Room} {s : State} {m : MethodId} {args : Array Value} {below : List Frame} {meth : Method} {c : Code} {cells slots : Nat} {Q : State → Prop} {A : Nat → Prop} {H0 : Heap} {D : va_G}
set_option maxHeartbeats 1000000 in
set_option maxRecDepth 100000 in
theorem c_q_Form_nearest (l : Launch) (D : va_G) (cI cC : ClassId) (cp : Nat) (hcp : cp < 2 ^ 15) : Met l y_q_Form_nearest (cd_q_Form_nearest :: WS) { frames := 1, cells := 0, slots := 0, locals := 22 } (va_Pc [.int (nI cp)] (rP D [] [(cI, .int), (cC, .char)])) (pQ (nI (nrL cp 32))) 0 0 noA := by
  rcases nrL_in cp 32 (Nat.le_refl _) with ⟨a1, a2⟩ | ⟨a1, a2⟩
  · have hlo : ∀ j, j < nrL cp 32 → ¬ bcN (fmW j ^^^ cp) ≤ 3 := by
      intro j hj z
      have h1 := near_pc (show j < 32 by omega) hcp
      have h2 := near_pc a1 hcp
      have := fm_uniq (show j < 32 by omega) a1 (by rw [← h1]; exact z) (by rw [← h2]; exact a2)
      omega
    exact c_q_Form_nearest_at l D cI cC cp (nrL cp 32) hcp a1 a2 hlo
  · rw [a1, nx_m1]
    exact c_q_Form_nearest_no l D cI cC cp hcp a2
end
section
theorem d_q_Layout_putForm_0 : decode b_q_Layout_putForm 0 = .ok (.iconst 0, 1) := by decide +kernel
theorem d_q_Layout_putForm_1 : decode b_q_Layout_putForm 1 = .ok (.istore 4, 2) := by decide +kernel
theorem d_q_Layout_putForm_3 : decode b_q_Layout_putForm 3 = .ok (.iload 4, 2) := by decide +kernel
theorem d_q_Layout_putForm_5 : decode b_q_Layout_putForm 5 = .ok (.bipush 15, 2) := by decide +kernel
theorem d_q_Layout_putForm_7 : decode b_q_Layout_putForm 7 = .ok (.if_icmp .ge 34, 3) := by decide +kernel
theorem d_q_Layout_putForm_10 : decode b_q_Layout_putForm 10 = .ok (.iload_n 1, 1) := by decide +kernel
theorem d_q_Layout_putForm_11 : decode b_q_Layout_putForm 11 = .ok (.bipush 14, 2) := by decide +kernel
theorem d_q_Layout_putForm_13 : decode b_q_Layout_putForm 13 = .ok (.iload 4, 2) := by decide +kernel
theorem d_q_Layout_putForm_15 : decode b_q_Layout_putForm 15 = .ok (.isub, 1) := by decide +kernel
theorem d_q_Layout_putForm_16 : decode b_q_Layout_putForm 16 = .ok (.ishr, 1) := by decide +kernel
theorem d_q_Layout_putForm_17 : decode b_q_Layout_putForm 17 = .ok (.iconst 1, 1) := by decide +kernel
theorem d_q_Layout_putForm_18 : decode b_q_Layout_putForm 18 = .ok (.iand, 1) := by decide +kernel
theorem d_q_Layout_putForm_19 : decode b_q_Layout_putForm 19 = .ok (.iconst 1, 1) := by decide +kernel
theorem d_q_Layout_putForm_20 : decode b_q_Layout_putForm 20 = .ok (.if_icmp .ne 15, 3) := by decide +kernel
theorem d_q_Layout_putForm_23 : decode b_q_Layout_putForm 23 = .ok (.aload_n 0, 1) := by decide +kernel
theorem d_q_Layout_putForm_24 : decode b_q_Layout_putForm 24 = .ok (.aload_n 2, 1) := by decide +kernel
theorem d_q_Layout_putForm_25 : decode b_q_Layout_putForm 25 = .ok (.iload 4, 2) := by decide +kernel
theorem d_q_Layout_putForm_27 : decode b_q_Layout_putForm 27 = .ok (.iaload, 1) := by decide +kernel
theorem d_q_Layout_putForm_28 : decode b_q_Layout_putForm 28 = .ok (.aload_n 3, 1) := by decide +kernel
theorem d_q_Layout_putForm_29 : decode b_q_Layout_putForm 29 = .ok (.iload 4, 2) := by decide +kernel
theorem d_q_Layout_putForm_31 : decode b_q_Layout_putForm 31 = .ok (.iaload, 1) := by decide +kernel
theorem d_q_Layout_putForm_32 : decode b_q_Layout_putForm 32 = .ok (.invokevirtual 44, 3) := by decide +kernel
theorem d_q_Layout_putForm_35 : decode b_q_Layout_putForm 35 = .ok (.iinc 4 1, 3) := by decide +kernel
theorem d_q_Layout_putForm_38 : decode b_q_Layout_putForm 38 = .ok (.goto (-35), 3) := by decide +kernel
theorem d_q_Layout_putForm_41 : decode b_q_Layout_putForm 41 = .ok (.return_, 1) := by decide +kernel
end
section
variable {p : Program} {l : Launch} {e : Env} {R : Room} {s : State} {m : MethodId} {args : Array Value} {below : List Frame} {meth : Method} {c : Code} {cells slots : Nat} {Q : State → Prop} {A : Nat → Prop} {H0 : Heap} {D : va_G}
set_option maxHeartbeats 1000000 in
set_option maxRecDepth 100000 in
theorem lp_q_Layout_putForm_1_3 (cI cC : ClassId) (sa : Nat → Nat) (go ga : Nat) (ro : Nat → Nat) (f : Nat) (hf0 : f < 32768) (S : CallFix p m c b_q_Layout_putForm 5 s args (cd_q_Layout_putForm :: WS) R_Layout) (hRf : 1 ≤ R.frames) (hRl : 22 ≤ R.locals) (hRc : cells ≤ R.cells ∧ slots ≤ R.slots) (hK : va_K D classes [(cI, .int), (cC, .char)] s) (hA : ∀ q, s.heap.size ≤ q → A q) (hSt : SB sa A s s.heap) (kx : ∀ (ls : Array Slot) (H : Heap) (locs : List Loc), lv_has ls 5 [(0, .ref go), (1, .int (nI f)), (2, .ref (sa 2)), (3, .ref (sa 3)), (4, .int (nI 15))] → va_P D classes [(go, .inr (2, [.ref ga])), (ga, .inl (cI, 21, .inl (fun j => nI ((pfL ro f1R f1C f 15) j))))] H → va_D A [(go, .inr (2, [.ref ga])), (ga, .inl (cI, 21, .inl (fun j => nI ((pfL ro f1R f1C f 15) j))))] → va_S A s.heap H locs → W p l e R s m args below meth c H locs cells slots Q (F0 m 41 ls [])) :
    ∀ k, k ≤ 15 → ∀ (ls : Array Slot) (H : Heap) (locs : List Loc), lv_has ls 5 [(0, .ref go), (1, .int (nI f)), (2, .ref (sa 2)), (3, .ref (sa 3)), (4, .int (nI k))] → va_P D classes [(go, .inr (2, [.ref ga])), (ga, .inl (cI, 21, .inl (fun j => nI ((pfL ro f1R f1C f k) j))))] H → va_D A [(go, .inr (2, [.ref ga])), (ga, .inl (cI, 21, .inl (fun j => nI ((pfL ro f1R f1C f k) j))))] → va_S A s.heap H locs → W p l e R s m args below meth c H locs cells slots Q (F0 m 3 ls []) := by
  obtain ⟨hx, hb, hml, hown, hts⟩ := id S
  refine up_loop (fun k hkk ih => ?_)
  intro ls H locs hl hP hD hS
  refine lv_iload hx hb d_q_Layout_putForm_3 (lv_at hl 4 rfl) ?_
  refine lv_bipush (v := nI 15) hx hb d_q_Layout_putForm_5 (by decide) ?_
  refine n_icmp_ge hx hb d_q_Layout_putForm_7 (tgt := 41) rfl (by omega) (by omega) (fun g7 => ?_) (fun g7 => ?_)
  · skip
    obtain rfl : k = 15 := by omega
    exact kx ls H locs (lv_sub hl [0, 1, 2, 3, 4] rfl) hP hD hS
  · skip
    refine lv_iload_n hx hb d_q_Layout_putForm_10 rfl (lv_at hl 1 rfl) ?_
    refine lv_bipush (v := nI 14) hx hb d_q_Layout_putForm_11 (by decide) ?_
    refine lv_iload hx hb d_q_Layout_putForm_13 (lv_at hl 4 rfl) ?_
    refine n_isub hx hb d_q_Layout_putForm_15 (by omega) ?_
    refine n_ishr hx hb d_q_Layout_putForm_16 (by omega) (by omega) ?_
    refine lv_iconst (v := nI 1) hx hb d_q_Layout_putForm_17 (by decide) ?_
    refine n_and1 hx hb d_q_Layout_putForm_18 ?_
    refine lv_iconst (v := nI 1) hx hb d_q_Layout_putForm_19 (by decide) ?_
    refine n_icmp_ne hx hb d_q_Layout_putForm_20 (tgt := 35) rfl (by omega) (by omega) (fun g20 => ?_) (fun g20 => ?_)
    · skip
      refine lv_iinc (k := 4) (v := nI (k + 1)) hx hb d_q_Layout_putForm_35 hl rfl (nx_inc k 1) (Nat.le_of_ble_eq_true rfl) rfl (fun ls hl => ?_)
      have hl : lv_has ls 5 [(4, .int (nI (k + 1))), (0, .ref go), (1, .int (nI f)), (2, .ref (sa 2)), (3, .ref (sa 3))] := hl
      refine lv_goto hx hb d_q_Layout_putForm_38 (tgt := 3) rfl ?_
      rw [show pfL ro f1R f1C f k = pfL ro f1R f1C f (k + 1) from (by first | exact (pfL_t g20).symm | exact (pfL_f g20).symm)] at hP hD
      exact ih (by omega) ls H locs (lv_sub hl [1, 2, 3, 4, 0] rfl) hP hD hS
    · skip
      refine lv_aload_n hx hb d_q_Layout_putForm_23 rfl (lv_at hl 0 rfl) ?_
      refine lv_aload_n hx hb d_q_Layout_putForm_24 rfl (lv_at hl 2 rfl) ?_
      refine lv_iload hx hb d_q_Layout_putForm_25 (lv_at hl 4 rfl) ?_
      refine n_ti hx hb hSt.1.2.2.1.2 hS (by omega) (by decide) d_q_Layout_putForm_27 ?_
      refine lv_aload_n hx hb d_q_Layout_putForm_28 rfl (lv_at hl 3 rfl) ?_
      refine lv_iload hx hb d_q_Layout_putForm_29 (lv_at hl 4 rfl) ?_
      refine n_ti hx hb hSt.1.2.2.2.1.2 hS (by omega) (by decide) d_q_Layout_putForm_31 ?_
      refine q_writeVv (n := 2) (As := [.int (nI (f1R k)), .int (nI (f1C k))]) (rest := []) (wc := [(go, .inr (2, [.ref ga])), (ga, .inl (cI, 21, .inl (fun j => nI ((pfL ro f1R f1C f k) j))))]) (wr := []) (w1 := [(go, .inr (2, [.ref ga])), (ga, .inl (cI, 21, .inl (fun j => nI ((va_up (pfL ro f1R f1C f k) (f1R k) ((pfL ro f1R f1C f k) (f1R k) ^^^ 2 ^ (20 - (f1C k)))) j))))]) S (c_q_Grid_turnOver l D cI cC go ga (pfL ro f1R f1C f k) (f1R k) (f1C k) (f1_chk k (by omega)).1 (f1_chk k (by omega)).2.1 H.size) hK hP hD hA (q0 := 0) rfl rfl [0, 1] [] rfl rfl rfl rfl (by decide) rfl (q_goodV kw_62 kw_63 kw_64 kw_2 kw_65) (by decide +kernel) rfl rfl rfl ⟨Nat.le_trans (Nat.le_of_ble_eq_true rfl) hRf, Nat.le_trans (Nat.le_of_ble_eq_true rfl) hRl⟩ rfl hl.1 rfl (Nat.le_of_ble_eq_true rfl) d_q_Layout_putForm_32 hRc hS (fun H locs hP hD hS => ?_)
      replace hP : va_P D classes [(go, .inr (2, [.ref ga])), (ga, .inl (cI, 21, .inl (fun j => nI ((va_up (pfL ro f1R f1C f k) (f1R k) ((pfL ro f1R f1C f k) (f1R k) ^^^ 2 ^ (20 - (f1C k)))) j))))] H := hP.sub [0, 1] rfl
      replace hD : va_D A [(go, .inr (2, [.ref ga])), (ga, .inl (cI, 21, .inl (fun j => nI ((va_up (pfL ro f1R f1C f k) (f1R k) ((pfL ro f1R f1C f k) (f1R k) ^^^ 2 ^ (20 - (f1C k)))) j))))] := hD.sub [0, 1] rfl rfl
      refine lv_iinc (k := 4) (v := nI (k + 1)) hx hb d_q_Layout_putForm_35 hl rfl (nx_inc k 1) (Nat.le_of_ble_eq_true rfl) rfl (fun ls hl => ?_)
      have hl : lv_has ls 5 [(4, .int (nI (k + 1))), (0, .ref go), (1, .int (nI f)), (2, .ref (sa 2)), (3, .ref (sa 3))] := hl
      refine lv_goto hx hb d_q_Layout_putForm_38 (tgt := 3) rfl ?_
      rw [show va_up (pfL ro f1R f1C f k) (f1R k) ((pfL ro f1R f1C f k) (f1R k) ^^^ 2 ^ (20 - (f1C k))) = pfL ro f1R f1C f (k + 1) from (by first | exact (pfL_t g20).symm | exact (pfL_f g20).symm)] at hP hD
      exact ih (by omega) ls H locs (lv_sub hl [1, 2, 3, 4, 0] rfl) hP hD hS
set_option maxHeartbeats 1000000 in
set_option maxRecDepth 100000 in
theorem bd_q_Layout_putForm_1 (cI cC : ClassId) (sa : Nat → Nat) (go ga : Nat) (ro : Nat → Nat) (f : Nat) (hf0 : f < 32768) (S : CallFix p m c b_q_Layout_putForm 5 s args (cd_q_Layout_putForm :: WS) R_Layout) (hRf : 1 ≤ R.frames) (hRl : 22 ≤ R.locals) (hRc : cells ≤ R.cells ∧ slots ≤ R.slots) (hK : va_K D classes [(cI, .int), (cC, .char)] s) (hA : ∀ q, s.heap.size ≤ q → A q) (hSt : SB sa A s s.heap) (kr : ∀ (pc : Nat) (ls : Array Slot) (H : Heap) (locs : List Loc), decode b_q_Layout_putForm pc = .ok (.return_, 1) → va_P D classes [(go, .inr (2, [.ref ga])), (ga, .inl (cI, 21, .inl (fun j => nI ((pfL ro f1R f1C f 15) j))))] H → va_D A [(go, .inr (2, [.ref ga])), (ga, .inl (cI, 21, .inl (fun j => nI ((pfL ro f1R f1C f 15) j))))] → va_S A s.heap H locs → W p l e R s m args below meth c H locs cells slots Q (F0 m pc ls [])) : ∀ (ls : Array Slot) (H : Heap) (locs : List Loc), lv_has ls 5 [(0, .ref go), (1, .int (nI f)), (2, .ref (sa 2)), (3, .ref (sa 3))] → va_P D classes [(go, .inr (2, [.ref ga])), (ga, .inl (cI, 21, .inl (fun j => nI (ro j))))] H → va_D A [(go, .inr (2, [.ref ga])), (ga, .inl (cI, 21, .inl (fun j => nI (ro j))))] → va_S A s.heap H locs → W p l e R s m args below meth c H locs cells slots Q (F0 m 0 ls []) := by
  obtain ⟨hx, hb, hml, hown, hts⟩ := id S
  intro ls H locs hl hP hD hS
  refine lv_iconst (v := nI 0) hx hb d_q_Layout_putForm_0 (by decide) ?_
  refine lv_istore hx hb d_q_Layout_putForm_1 hl (Nat.le_of_ble_eq_true rfl) rfl (fun ls hl => ?_)
  have hl : lv_has ls 5 [(4, .int (nI 0)), (0, .ref go), (1, .int (nI f)), (2, .ref (sa 2)), (3, .ref (sa 3))] := hl
  refine lp_q_Layout_putForm_1_3 cI cC sa go ga ro f hf0 S hRf hRl hRc hK hA hSt  (fun ls H locs hl hP hD hS => ?_) 0 (by omega) ls H locs (lv_sub hl [1, 2, 3, 4, 0] rfl) hP hD hS
  exact kr _ ls H locs d_q_Layout_putForm_41 hP hD hS
set_option maxHeartbeats 1000000 in
set_option maxRecDepth 100000 in
theorem c_q_Layout_putForm_1 (l : Launch) (D : va_G) (cI cC : ClassId) (sa : Nat → Nat) (go ga : Nat) (ro : Nat → Nat) (f : Nat) (hf0 : f < 32768) (sz : Nat) : Met l y_q_Layout_putForm (cd_q_Layout_putForm :: WS) { frames := 1, cells := 0, slots := 0, locals := 22 } (va_Pc [.ref go, .int (nI f), .ref (sa 2), .ref (sa 3)] (swP sa D [(go, .inr (2, [.ref ga])), (ga, .inl (cI, 21, .inl (fun j => nI (ro j))))] [(cI, .int), (cC, .char)] sz)) (wQv D [(go, .inr (2, [.ref ga])), (ga, .inl (cI, 21, .inl (fun j => nI (ro j))))] [(go, .inr (2, [.ref ga])), (ga, .inl (cI, 21, .inl (fun j => nI ((pfL ro f1R f1C f 15) j))))] sz) 0 0 (va_A [(go, .inr (2, [.ref ga])), (ga, .inl (cI, 21, .inl (fun j => nI (ro j))))] sz) := by
  refine Met.ofW (cc := b_q_Layout_putForm) (maxL := 5) (ret := none) (by decide) rfl ?_
  intro p e s m args below meth c s₁ B hml hv0
  obtain ⟨rfl, ⟨hP, hK, hD0, hsz⟩, hSt⟩ := hv0
  have hts := atoms_spec (ws := cd_q_Layout_putForm :: WS) B.pre
  have hown : s.vm.findClass R_Layout = some m.cls := findClass_of_methodNamed B.named
  have hlocks := B.notSynchronized
  subst hsz
  have hD := hD0.self (sz := s.heap.size)
  have hl := lv_entry ([.ref go, .int (nI f), .ref (sa 2), .ref (sa 3)]) (n := 5) (Nat.le_of_ble_eq_true rfl)
  rw [lg_entry_eq]
  generalize (lg_sl ([.ref go, .int (nI f), .ref (sa 2), .ref (sa 3)]) ++ List.replicate (5 - (lg_sl ([.ref go, .int (nI f), .ref (sa 2), .ref (sa 3)])).length) Slot.unset).toArray = ls at hl ⊢
  refine bd_q_Layout_putForm_1 cI cC sa go ga ro f hf0 ⟨B.exec, B.bytes, hml, hown, hts⟩ (Nat.le_refl _) (Nat.le_refl _) ⟨Nat.le_refl _, Nat.le_refl _⟩ hK (fun q h => Or.inr h) hSt (fun pc ls H locs hd hP hD hS => ?_) ls _ _ hl hP hD (va_S.rf)
  exact W.vret B.exec B.bytes B.returns (fun t ht _ => ⟨⟨(), rfl, trivial, (by have h9 := hP; rw [← ht] at h9; exact h9)⟩, hS.F ht⟩) hS.2.2 hd
end
section
theorem d_q_Layout_formAt_0 : decode b_q_Layout_formAt 0 = .ok (.iconst 0, 1) := by decide +kernel
theorem d_q_Layout_formAt_1 : decode b_q_Layout_formAt 1 = .ok (.istore_n 3, 1) := by decide +kernel
theorem d_q_Layout_formAt_2 : decode b_q_Layout_formAt 2 = .ok (.iconst 0, 1) := by decide +kernel
theorem d_q_Layout_formAt_3 : decode b_q_Layout_formAt 3 = .ok (.istore 4, 2) := by decide +kernel
theorem d_q_Layout_formAt_5 : decode b_q_Layout_formAt 5 = .ok (.iload 4, 2) := by decide +kernel
theorem d_q_Layout_formAt_7 : decode b_q_Layout_formAt 7 = .ok (.bipush 15, 2) := by decide +kernel
theorem d_q_Layout_formAt_9 : decode b_q_Layout_formAt 9 = .ok (.if_icmp .ge 26, 3) := by decide +kernel
theorem d_q_Layout_formAt_12 : decode b_q_Layout_formAt 12 = .ok (.iload_n 3, 1) := by decide +kernel
theorem d_q_Layout_formAt_13 : decode b_q_Layout_formAt 13 = .ok (.iconst 1, 1) := by decide +kernel
theorem d_q_Layout_formAt_14 : decode b_q_Layout_formAt 14 = .ok (.ishl, 1) := by decide +kernel
theorem d_q_Layout_formAt_15 : decode b_q_Layout_formAt 15 = .ok (.aload_n 0, 1) := by decide +kernel
theorem d_q_Layout_formAt_16 : decode b_q_Layout_formAt 16 = .ok (.aload_n 1, 1) := by decide +kernel
theorem d_q_Layout_formAt_17 : decode b_q_Layout_formAt 17 = .ok (.iload 4, 2) := by decide +kernel
theorem d_q_Layout_formAt_19 : decode b_q_Layout_formAt 19 = .ok (.iaload, 1) := by decide +kernel
theorem d_q_Layout_formAt_20 : decode b_q_Layout_formAt 20 = .ok (.aload_n 2, 1) := by decide +kernel
theorem d_q_Layout_formAt_21 : decode b_q_Layout_formAt 21 = .ok (.iload 4, 2) := by decide +kernel
theorem d_q_Layout_formAt_23 : decode b_q_Layout_formAt 23 = .ok (.iaload, 1) := by decide +kernel
theorem d_q_Layout_formAt_24 : decode b_q_Layout_formAt 24 = .ok (.invokevirtual 94, 3) := by decide +kernel
theorem d_q_Layout_formAt_27 : decode b_q_Layout_formAt 27 = .ok (.ior, 1) := by decide +kernel
theorem d_q_Layout_formAt_28 : decode b_q_Layout_formAt 28 = .ok (.istore_n 3, 1) := by decide +kernel
theorem d_q_Layout_formAt_29 : decode b_q_Layout_formAt 29 = .ok (.iinc 4 1, 3) := by decide +kernel
theorem d_q_Layout_formAt_32 : decode b_q_Layout_formAt 32 = .ok (.goto (-27), 3) := by decide +kernel
theorem d_q_Layout_formAt_35 : decode b_q_Layout_formAt 35 = .ok (.iload_n 3, 1) := by decide +kernel
theorem d_q_Layout_formAt_36 : decode b_q_Layout_formAt 36 = .ok (.ireturn, 1) := by decide +kernel
end
section
variable {p : Program} {l : Launch} {e : Env} {R : Room} {s : State} {m : MethodId} {args : Array Value} {below : List Frame} {meth : Method} {c : Code} {cells slots : Nat} {Q : State → Prop} {A : Nat → Prop} {H0 : Heap} {D : va_G}
set_option maxHeartbeats 1000000 in
set_option maxRecDepth 100000 in
theorem lp_q_Layout_formAt_1_5 (cI cC : ClassId) (sa : Nat → Nat) (go ga : Nat) (ro : Nat → Nat) (hro : ∀ j, j < 21 → ro j < 2097152) (S : CallFix p m c b_q_Layout_formAt 5 s args (cd_q_Layout_formAt :: WS) R_Layout) (hRf : 1 ≤ R.frames) (hRl : 22 ≤ R.locals) (hRc : cells ≤ R.cells ∧ slots ≤ R.slots) (hK : va_K D classes [(cI, .int), (cC, .char)] s) (hSt : SB sa A s s.heap) (kx : ∀ (ls : Array Slot) (H : Heap) (locs : List Loc), lv_has ls 5 [(0, .ref go), (1, .ref (sa 2)), (2, .ref (sa 3)), (3, .int (nI (fcL ro f1R f1C 15))), (4, .int (nI 15))] → va_P D classes [(go, .inr (2, [.ref ga])), (ga, .inl (cI, 21, .inl (fun j => nI (ro j))))] H → va_S A s.heap H locs → W p l e R s m args below meth c H locs cells slots Q (F0 m 35 ls [])) :
    ∀ k, k ≤ 15 → ∀ (ls : Array Slot) (H : Heap) (locs : List Loc), lv_has ls 5 [(0, .ref go), (1, .ref (sa 2)), (2, .ref (sa 3)), (3, .int (nI (fcL ro f1R f1C k))), (4, .int (nI k))] → va_P D classes [(go, .inr (2, [.ref ga])), (ga, .inl (cI, 21, .inl (fun j => nI (ro j))))] H → va_S A s.heap H locs → W p l e R s m args below meth c H locs cells slots Q (F0 m 5 ls []) := by
  obtain ⟨hx, hb, hml, hown, hts⟩ := id S
  refine up_loop (fun k hkk ih => ?_)
  intro ls H locs hl hP hS
  refine lv_iload hx hb d_q_Layout_formAt_5 (lv_at hl 4 rfl) ?_
  refine lv_bipush (v := nI 15) hx hb d_q_Layout_formAt_7 (by decide) ?_
  refine n_icmp_ge hx hb d_q_Layout_formAt_9 (tgt := 35) rfl (by omega) (by omega) (fun g9 => ?_) (fun g9 => ?_)
  · skip
    obtain rfl : k = 15 := by omega
    exact kx ls H locs (lv_sub hl [0, 1, 2, 3, 4] rfl) hP hS
  · skip
    refine lv_iload_n hx hb d_q_Layout_formAt_12 rfl (lv_at hl 3 rfl) ?_
    refine lv_iconst (v := nI 1) hx hb d_q_Layout_formAt_13 (by decide) ?_
    refine n_ishl hx hb d_q_Layout_formAt_14 (by omega) ?_
    refine lv_aload_n hx hb d_q_Layout_formAt_15 rfl (lv_at hl 0 rfl) ?_
    refine lv_aload_n hx hb d_q_Layout_formAt_16 rfl (lv_at hl 1 rfl) ?_
    refine lv_iload hx hb d_q_Layout_formAt_17 (lv_at hl 4 rfl) ?_
    refine n_ti hx hb hSt.1.2.2.1.2 hS (by omega) (by decide) d_q_Layout_formAt_19 ?_
    refine lv_aload_n hx hb d_q_Layout_formAt_20 rfl (lv_at hl 2 rfl) ?_
    refine lv_iload hx hb d_q_Layout_formAt_21 (lv_at hl 4 rfl) ?_
    refine n_ti hx hb hSt.1.2.2.2.1.2 hS (by omega) (by decide) d_q_Layout_formAt_23 ?_
    refine q_readV (n := 2) (As := [.int (nI (f1R k)), .int (nI (f1C k))]) (rest := [.int (nI ((fcL ro f1R f1C k) * 2 ^ 1))]) (wc := [(go, .inr (2, [.ref ga])), (ga, .inl (cI, 21, .inl (fun j => nI (ro j))))]) S (c_q_Grid_at l D cI cC go ga ro (f1R k) (f1C k) (f1_chk k (by omega)).1 (f1_chk k (by omega)).2.1 hro) hK hP (q0 := 0) rfl rfl [0, 1] rfl (q_goodV kw_609 kw_227 kw_228 kw_2 kw_229) (by decide +kernel) rfl rfl rfl ⟨Nat.le_trans (Nat.le_of_ble_eq_true rfl) hRf, Nat.le_trans (Nat.le_of_ble_eq_true rfl) hRl⟩ rfl hl.1 rfl (Nat.le_of_ble_eq_true rfl) d_q_Layout_formAt_24 hRc hS (fun H locs hP hS => ?_)
    refine n_ior hx hb d_q_Layout_formAt_27 ?_
    refine n_topn (show ((fcL ro f1R f1C k) * 2 ^ 1) ||| (ro (f1R k) / 2 ^ (20 - (f1C k)) % 2) = fcL ro f1R f1C (k + 1) from rfl) ?_
    refine lv_istore_n hx hb d_q_Layout_formAt_28 rfl hl (Nat.le_of_ble_eq_true rfl) rfl (fun ls hl => ?_)
    have hl : lv_has ls 5 [(3, .int (nI (fcL ro f1R f1C (k + 1)))), (0, .ref go), (1, .ref (sa 2)), (2, .ref (sa 3)), (4, .int (nI k))] := hl
    refine lv_iinc (k := 4) (v := nI (k + 1)) hx hb d_q_Layout_formAt_29 hl rfl (nx_inc k 1) (Nat.le_of_ble_eq_true rfl) rfl (fun ls hl => ?_)
    have hl : lv_has ls 5 [(4, .int (nI (k + 1))), (3, .int (nI (fcL ro f1R f1C (k + 1)))), (0, .ref go), (1, .ref (sa 2)), (2, .ref (sa 3))] := hl
    refine lv_goto hx hb d_q_Layout_formAt_32 (tgt := 5) rfl ?_
    exact ih (by omega) ls H locs (lv_sub hl [2, 3, 4, 1, 0] rfl) hP hS
set_option maxHeartbeats 1000000 in
set_option maxRecDepth 100000 in
theorem bd_q_Layout_formAt_1 (cI cC : ClassId) (sa : Nat → Nat) (go ga : Nat) (ro : Nat → Nat) (hro : ∀ j, j < 21 → ro j < 2097152) (S : CallFix p m c b_q_Layout_formAt 5 s args (cd_q_Layout_formAt :: WS) R_Layout) (hRf : 1 ≤ R.frames) (hRl : 22 ≤ R.locals) (hRc : cells ≤ R.cells ∧ slots ≤ R.slots) (hK : va_K D classes [(cI, .int), (cC, .char)] s) (hSt : SB sa A s s.heap) (kr : ∀ (pc : Nat) (ls : Array Slot) (H : Heap) (locs : List Loc), decode b_q_Layout_formAt pc = .ok (.ireturn, 1) → va_P D classes [(go, .inr (2, [.ref ga])), (ga, .inl (cI, 21, .inl (fun j => nI (ro j))))] H → va_S A s.heap H locs → W p l e R s m args below meth c H locs cells slots Q (F0 m pc ls [.int (nI (fcL ro f1R f1C 15))])) : ∀ (ls : Array Slot) (H : Heap) (locs : List Loc), lv_has ls 5 [(0, .ref go), (1, .ref (sa 2)), (2, .ref (sa 3))] → va_P D classes [(go, .inr (2, [.ref ga])), (ga, .inl (cI, 21, .inl (fun j => nI (ro j))))] H → va_S A s.heap H locs → W p l e R s m args below meth c H locs cells slots Q (F0 m 0 ls []) := by
  obtain ⟨hx, hb, hml, hown, hts⟩ := id S
  intro ls H locs hl hP hS
  refine lv_iconst (v := nI 0) hx hb d_q_Layout_formAt_0 (by decide) ?_
  refine lv_istore_n hx hb d_q_Layout_formAt_1 rfl hl (Nat.le_of_ble_eq_true rfl) rfl (fun ls hl => ?_)
  have hl : lv_has ls 5 [(3, .int (nI 0)), (0, .ref go), (1, .ref (sa 2)), (2, .ref (sa 3))] := hl
  refine lv_iconst (v := nI 0) hx hb d_q_Layout_formAt_2 (by decide) ?_
  refine lv_istore hx hb d_q_Layout_formAt_3 hl (Nat.le_of_ble_eq_true rfl) rfl (fun ls hl => ?_)
  have hl : lv_has ls 5 [(4, .int (nI 0)), (3, .int (nI 0)), (0, .ref go), (1, .ref (sa 2)), (2, .ref (sa 3))] := hl
  refine lp_q_Layout_formAt_1_5 cI cC sa go ga ro hro S hRf hRl hRc hK hSt  (fun ls H locs hl hP hS => ?_) 0 (by omega) ls H locs (lv_sub hl [2, 3, 4, 1, 0] rfl) hP hS
  refine lv_iload_n hx hb d_q_Layout_formAt_35 rfl (lv_at hl 3 rfl) ?_
  exact kr _ ls H locs d_q_Layout_formAt_36 hP hS
set_option maxHeartbeats 1000000 in
set_option maxRecDepth 100000 in
theorem c_q_Layout_formAt_1 (l : Launch) (D : va_G) (cI cC : ClassId) (sa : Nat → Nat) (go ga : Nat) (ro : Nat → Nat) (hro : ∀ j, j < 21 → ro j < 2097152) : Met l y_q_Layout_formAt (cd_q_Layout_formAt :: WS) { frames := 1, cells := 0, slots := 0, locals := 22 } (va_Pc [.ref go, .ref (sa 2), .ref (sa 3)] (srP sa D [(go, .inr (2, [.ref ga])), (ga, .inl (cI, 21, .inl (fun j => nI (ro j))))] [(cI, .int), (cC, .char)])) (pQ (nI (fcL ro f1R f1C 15))) 0 0 noA := by
  refine Met.ofW (cc := b_q_Layout_formAt) (maxL := 5) (ret := (some .int)) (by decide) rfl ?_
  intro p e s m args below meth c s₁ B hml hv0
  obtain ⟨rfl, ⟨hP, hK⟩, hSt⟩ := hv0
  have hts := atoms_spec (ws := cd_q_Layout_formAt :: WS) B.pre
  have hown : s.vm.findClass R_Layout = some m.cls := findClass_of_methodNamed B.named
  have hlocks := B.notSynchronized
  have hl := lv_entry ([.ref go, .ref (sa 2), .ref (sa 3)]) (n := 5) (Nat.le_of_ble_eq_true rfl)
  rw [lg_entry_eq]
  generalize (lg_sl ([.ref go, .ref (sa 2), .ref (sa 3)]) ++ List.replicate (5 - (lg_sl ([.ref go, .ref (sa 2), .ref (sa 3)])).length) Slot.unset).toArray = ls at hl ⊢
  refine bd_q_Layout_formAt_1 cI cC sa go ga ro hro ⟨B.exec, B.bytes, hml, hown, hts⟩ (Nat.le_refl _) (Nat.le_refl _) ⟨Nat.le_refl _, Nat.le_refl _⟩ hK hSt (fun pc ls H locs hd hP hS => ?_) ls _ _ hl hP (va_S.rf (A := noA))
  exact W.iret B.exec B.bytes B.returns (fun t ht _ => ⟨⟨_, (), rfl, rfl, trivial⟩, hS.F ht⟩) hS.2.2 hd
end
section
variable {p : Program} {l : Launch} {e : Env} {R : Room} {s : State} {m : MethodId} {args : Array Value} {below : List Frame} {meth : Method} {c : Code} {cells slots : Nat} {Q : State → Prop} {A : Nat → Prop} {H0 : Heap} {D : va_G}
set_option maxHeartbeats 1000000 in
set_option maxRecDepth 100000 in
theorem lp_q_Layout_putForm_2_3 (cI cC : ClassId) (sa : Nat → Nat) (go ga : Nat) (ro : Nat → Nat) (f : Nat) (hf0 : f < 32768) (S : CallFix p m c b_q_Layout_putForm 5 s args (cd_q_Layout_putForm :: WS) R_Layout) (hRf : 1 ≤ R.frames) (hRl : 22 ≤ R.locals) (hRc : cells ≤ R.cells ∧ slots ≤ R.slots) (hK : va_K D classes [(cI, .int), (cC, .char)] s) (hA : ∀ q, s.heap.size ≤ q → A q) (hSt : SB sa A s s.heap) (kx : ∀ (ls : Array Slot) (H : Heap) (locs : List Loc), lv_has ls 5 [(0, .ref go), (1, .int (nI f)), (2, .ref (sa 4)), (3, .ref (sa 5)), (4, .int (nI 15))] → va_P D classes [(go, .inr (2, [.ref ga])), (ga, .inl (cI, 21, .inl (fun j => nI ((pfL ro f2R f2C f 15) j))))] H → va_D A [(go, .inr (2, [.ref ga])), (ga, .inl (cI, 21, .inl (fun j => nI ((pfL ro f2R f2C f 15) j))))] → va_S A s.heap H locs → W p l e R s m args below meth c H locs cells slots Q (F0 m 41 ls [])) :
    ∀ k, k ≤ 15 → ∀ (ls : Array Slot) (H : Heap) (locs : List Loc), lv_has ls 5 [(0, .ref go), (1, .int (nI f)), (2, .ref (sa 4)), (3, .ref (sa 5)), (4, .int (nI k))] → va_P D classes [(go, .inr (2, [.ref ga])), (ga, .inl (cI, 21, .inl (fun j => nI ((pfL ro f2R f2C f k) j))))] H → va_D A [(go, .inr (2, [.ref ga])), (ga, .inl (cI, 21, .inl (fun j => nI ((pfL ro f2R f2C f k) j))))] → va_S A s.heap H locs → W p l e R s m args below meth c H locs cells slots Q (F0 m 3 ls []) := by
  obtain ⟨hx, hb, hml, hown, hts⟩ := id S
  refine up_loop (fun k hkk ih => ?_)
  intro ls H locs hl hP hD hS
  refine lv_iload hx hb d_q_Layout_putForm_3 (lv_at hl 4 rfl) ?_
  refine lv_bipush (v := nI 15) hx hb d_q_Layout_putForm_5 (by decide) ?_
  refine n_icmp_ge hx hb d_q_Layout_putForm_7 (tgt := 41) rfl (by omega) (by omega) (fun g7 => ?_) (fun g7 => ?_)
  · skip
    obtain rfl : k = 15 := by omega
    exact kx ls H locs (lv_sub hl [0, 1, 2, 3, 4] rfl) hP hD hS
  · skip
    refine lv_iload_n hx hb d_q_Layout_putForm_10 rfl (lv_at hl 1 rfl) ?_
    refine lv_bipush (v := nI 14) hx hb d_q_Layout_putForm_11 (by decide) ?_
    refine lv_iload hx hb d_q_Layout_putForm_13 (lv_at hl 4 rfl) ?_
    refine n_isub hx hb d_q_Layout_putForm_15 (by omega) ?_
    refine n_ishr hx hb d_q_Layout_putForm_16 (by omega) (by omega) ?_
    refine lv_iconst (v := nI 1) hx hb d_q_Layout_putForm_17 (by decide) ?_
    refine n_and1 hx hb d_q_Layout_putForm_18 ?_
    refine lv_iconst (v := nI 1) hx hb d_q_Layout_putForm_19 (by decide) ?_
    refine n_icmp_ne hx hb d_q_Layout_putForm_20 (tgt := 35) rfl (by omega) (by omega) (fun g20 => ?_) (fun g20 => ?_)
    · skip
      refine lv_iinc (k := 4) (v := nI (k + 1)) hx hb d_q_Layout_putForm_35 hl rfl (nx_inc k 1) (Nat.le_of_ble_eq_true rfl) rfl (fun ls hl => ?_)
      have hl : lv_has ls 5 [(4, .int (nI (k + 1))), (0, .ref go), (1, .int (nI f)), (2, .ref (sa 4)), (3, .ref (sa 5))] := hl
      refine lv_goto hx hb d_q_Layout_putForm_38 (tgt := 3) rfl ?_
      rw [show pfL ro f2R f2C f k = pfL ro f2R f2C f (k + 1) from (by first | exact (pfL_t g20).symm | exact (pfL_f g20).symm)] at hP hD
      exact ih (by omega) ls H locs (lv_sub hl [1, 2, 3, 4, 0] rfl) hP hD hS
    · skip
      refine lv_aload_n hx hb d_q_Layout_putForm_23 rfl (lv_at hl 0 rfl) ?_
      refine lv_aload_n hx hb d_q_Layout_putForm_24 rfl (lv_at hl 2 rfl) ?_
      refine lv_iload hx hb d_q_Layout_putForm_25 (lv_at hl 4 rfl) ?_
      refine n_ti hx hb hSt.1.2.2.2.2.1.2 hS (by omega) (by decide) d_q_Layout_putForm_27 ?_
      refine lv_aload_n hx hb d_q_Layout_putForm_28 rfl (lv_at hl 3 rfl) ?_
      refine lv_iload hx hb d_q_Layout_putForm_29 (lv_at hl 4 rfl) ?_
      refine n_ti hx hb hSt.1.2.2.2.2.2.1.2 hS (by omega) (by decide) d_q_Layout_putForm_31 ?_
      refine q_writeVv (n := 2) (As := [.int (nI (f2R k)), .int (nI (f2C k))]) (rest := []) (wc := [(go, .inr (2, [.ref ga])), (ga, .inl (cI, 21, .inl (fun j => nI ((pfL ro f2R f2C f k) j))))]) (wr := []) (w1 := [(go, .inr (2, [.ref ga])), (ga, .inl (cI, 21, .inl (fun j => nI ((va_up (pfL ro f2R f2C f k) (f2R k) ((pfL ro f2R f2C f k) (f2R k) ^^^ 2 ^ (20 - (f2C k)))) j))))]) S (c_q_Grid_turnOver l D cI cC go ga (pfL ro f2R f2C f k) (f2R k) (f2C k) (f2_chk k (by omega)).1 (f2_chk k (by omega)).2.1 H.size) hK hP hD hA (q0 := 0) rfl rfl [0, 1] [] rfl rfl rfl rfl (by decide) rfl (q_goodV kw_62 kw_63 kw_64 kw_2 kw_65) (by decide +kernel) rfl rfl rfl ⟨Nat.le_trans (Nat.le_of_ble_eq_true rfl) hRf, Nat.le_trans (Nat.le_of_ble_eq_true rfl) hRl⟩ rfl hl.1 rfl (Nat.le_of_ble_eq_true rfl) d_q_Layout_putForm_32 hRc hS (fun H locs hP hD hS => ?_)
      replace hP : va_P D classes [(go, .inr (2, [.ref ga])), (ga, .inl (cI, 21, .inl (fun j => nI ((va_up (pfL ro f2R f2C f k) (f2R k) ((pfL ro f2R f2C f k) (f2R k) ^^^ 2 ^ (20 - (f2C k)))) j))))] H := hP.sub [0, 1] rfl
      replace hD : va_D A [(go, .inr (2, [.ref ga])), (ga, .inl (cI, 21, .inl (fun j => nI ((va_up (pfL ro f2R f2C f k) (f2R k) ((pfL ro f2R f2C f k) (f2R k) ^^^ 2 ^ (20 - (f2C k)))) j))))] := hD.sub [0, 1] rfl rfl
      refine lv_iinc (k := 4) (v := nI (k + 1)) hx hb d_q_Layout_putForm_35 hl rfl (nx_inc k 1) (Nat.le_of_ble_eq_true rfl) rfl (fun ls hl => ?_)
      have hl : lv_has ls 5 [(4, .int (nI (k + 1))), (0, .ref go), (1, .int (nI f)), (2, .ref (sa 4)), (3, .ref (sa 5))] := hl
      refine lv_goto hx hb d_q_Layout_putForm_38 (tgt := 3) rfl ?_
      rw [show va_up (pfL ro f2R f2C f k) (f2R k) ((pfL ro f2R f2C f k) (f2R k) ^^^ 2 ^ (20 - (f2C k))) = pfL ro f2R f2C f (k + 1) from (by first | exact (pfL_t g20).symm | exact (pfL_f g20).symm)] at hP hD
      exact ih (by omega) ls H locs (lv_sub hl [1, 2, 3, 4, 0] rfl) hP hD hS
set_option maxHeartbeats 1000000 in
set_option maxRecDepth 100000 in
theorem bd_q_Layout_putForm_2 (cI cC : ClassId) (sa : Nat → Nat) (go ga : Nat) (ro : Nat → Nat) (f : Nat) (hf0 : f < 32768) (S : CallFix p m c b_q_Layout_putForm 5 s args (cd_q_Layout_putForm :: WS) R_Layout) (hRf : 1 ≤ R.frames) (hRl : 22 ≤ R.locals) (hRc : cells ≤ R.cells ∧ slots ≤ R.slots) (hK : va_K D classes [(cI, .int), (cC, .char)] s) (hA : ∀ q, s.heap.size ≤ q → A q) (hSt : SB sa A s s.heap) (kr : ∀ (pc : Nat) (ls : Array Slot) (H : Heap) (locs : List Loc), decode b_q_Layout_putForm pc = .ok (.return_, 1) → va_P D classes [(go, .inr (2, [.ref ga])), (ga, .inl (cI, 21, .inl (fun j => nI ((pfL ro f2R f2C f 15) j))))] H → va_D A [(go, .inr (2, [.ref ga])), (ga, .inl (cI, 21, .inl (fun j => nI ((pfL ro f2R f2C f 15) j))))] → va_S A s.heap H locs → W p l e R s m args below meth c H locs cells slots Q (F0 m pc ls [])) : ∀ (ls : Array Slot) (H : Heap) (locs : List Loc), lv_has ls 5 [(0, .ref go), (1, .int (nI f)), (2, .ref (sa 4)), (3, .ref (sa 5))] → va_P D classes [(go, .inr (2, [.ref ga])), (ga, .inl (cI, 21, .inl (fun j => nI (ro j))))] H → va_D A [(go, .inr (2, [.ref ga])), (ga, .inl (cI, 21, .inl (fun j => nI (ro j))))] → va_S A s.heap H locs → W p l e R s m args below meth c H locs cells slots Q (F0 m 0 ls []) := by
  obtain ⟨hx, hb, hml, hown, hts⟩ := id S
  intro ls H locs hl hP hD hS
  refine lv_iconst (v := nI 0) hx hb d_q_Layout_putForm_0 (by decide) ?_
  refine lv_istore hx hb d_q_Layout_putForm_1 hl (Nat.le_of_ble_eq_true rfl) rfl (fun ls hl => ?_)
  have hl : lv_has ls 5 [(4, .int (nI 0)), (0, .ref go), (1, .int (nI f)), (2, .ref (sa 4)), (3, .ref (sa 5))] := hl
  refine lp_q_Layout_putForm_2_3 cI cC sa go ga ro f hf0 S hRf hRl hRc hK hA hSt  (fun ls H locs hl hP hD hS => ?_) 0 (by omega) ls H locs (lv_sub hl [1, 2, 3, 4, 0] rfl) hP hD hS
  exact kr _ ls H locs d_q_Layout_putForm_41 hP hD hS
set_option maxHeartbeats 1000000 in
set_option maxRecDepth 100000 in
theorem c_q_Layout_putForm_2 (l : Launch) (D : va_G) (cI cC : ClassId) (sa : Nat → Nat) (go ga : Nat) (ro : Nat → Nat) (f : Nat) (hf0 : f < 32768) (sz : Nat) : Met l y_q_Layout_putForm (cd_q_Layout_putForm :: WS) { frames := 1, cells := 0, slots := 0, locals := 22 } (va_Pc [.ref go, .int (nI f), .ref (sa 4), .ref (sa 5)] (swP sa D [(go, .inr (2, [.ref ga])), (ga, .inl (cI, 21, .inl (fun j => nI (ro j))))] [(cI, .int), (cC, .char)] sz)) (wQv D [(go, .inr (2, [.ref ga])), (ga, .inl (cI, 21, .inl (fun j => nI (ro j))))] [(go, .inr (2, [.ref ga])), (ga, .inl (cI, 21, .inl (fun j => nI ((pfL ro f2R f2C f 15) j))))] sz) 0 0 (va_A [(go, .inr (2, [.ref ga])), (ga, .inl (cI, 21, .inl (fun j => nI (ro j))))] sz) := by
  refine Met.ofW (cc := b_q_Layout_putForm) (maxL := 5) (ret := none) (by decide) rfl ?_
  intro p e s m args below meth c s₁ B hml hv0
  obtain ⟨rfl, ⟨hP, hK, hD0, hsz⟩, hSt⟩ := hv0
  have hts := atoms_spec (ws := cd_q_Layout_putForm :: WS) B.pre
  have hown : s.vm.findClass R_Layout = some m.cls := findClass_of_methodNamed B.named
  have hlocks := B.notSynchronized
  subst hsz
  have hD := hD0.self (sz := s.heap.size)
  have hl := lv_entry ([.ref go, .int (nI f), .ref (sa 4), .ref (sa 5)]) (n := 5) (Nat.le_of_ble_eq_true rfl)
  rw [lg_entry_eq]
  generalize (lg_sl ([.ref go, .int (nI f), .ref (sa 4), .ref (sa 5)]) ++ List.replicate (5 - (lg_sl ([.ref go, .int (nI f), .ref (sa 4), .ref (sa 5)])).length) Slot.unset).toArray = ls at hl ⊢
  refine bd_q_Layout_putForm_2 cI cC sa go ga ro f hf0 ⟨B.exec, B.bytes, hml, hown, hts⟩ (Nat.le_refl _) (Nat.le_refl _) ⟨Nat.le_refl _, Nat.le_refl _⟩ hK (fun q h => Or.inr h) hSt (fun pc ls H locs hd hP hD hS => ?_) ls _ _ hl hP hD (va_S.rf)
  exact W.vret B.exec B.bytes B.returns (fun t ht _ => ⟨⟨(), rfl, trivial, (by have h9 := hP; rw [← ht] at h9; exact h9)⟩, hS.F ht⟩) hS.2.2 hd
end
section
variable {p : Program} {l : Launch} {e : Env} {R : Room} {s : State} {m : MethodId} {args : Array Value} {below : List Frame} {meth : Method} {c : Code} {cells slots : Nat} {Q : State → Prop} {A : Nat → Prop} {H0 : Heap} {D : va_G}
set_option maxHeartbeats 1000000 in
set_option maxRecDepth 100000 in
theorem lp_q_Layout_formAt_2_5 (cI cC : ClassId) (sa : Nat → Nat) (go ga : Nat) (ro : Nat → Nat) (hro : ∀ j, j < 21 → ro j < 2097152) (S : CallFix p m c b_q_Layout_formAt 5 s args (cd_q_Layout_formAt :: WS) R_Layout) (hRf : 1 ≤ R.frames) (hRl : 22 ≤ R.locals) (hRc : cells ≤ R.cells ∧ slots ≤ R.slots) (hK : va_K D classes [(cI, .int), (cC, .char)] s) (hSt : SB sa A s s.heap) (kx : ∀ (ls : Array Slot) (H : Heap) (locs : List Loc), lv_has ls 5 [(0, .ref go), (1, .ref (sa 4)), (2, .ref (sa 5)), (3, .int (nI (fcL ro f2R f2C 15))), (4, .int (nI 15))] → va_P D classes [(go, .inr (2, [.ref ga])), (ga, .inl (cI, 21, .inl (fun j => nI (ro j))))] H → va_S A s.heap H locs → W p l e R s m args below meth c H locs cells slots Q (F0 m 35 ls [])) :
    ∀ k, k ≤ 15 → ∀ (ls : Array Slot) (H : Heap) (locs : List Loc), lv_has ls 5 [(0, .ref go), (1, .ref (sa 4)), (2, .ref (sa 5)), (3, .int (nI (fcL ro f2R f2C k))), (4, .int (nI k))] → va_P D classes [(go, .inr (2, [.ref ga])), (ga, .inl (cI, 21, .inl (fun j => nI (ro j))))] H → va_S A s.heap H locs → W p l e R s m args below meth c H locs cells slots Q (F0 m 5 ls []) := by
  obtain ⟨hx, hb, hml, hown, hts⟩ := id S
  refine up_loop (fun k hkk ih => ?_)
  intro ls H locs hl hP hS
  refine lv_iload hx hb d_q_Layout_formAt_5 (lv_at hl 4 rfl) ?_
  refine lv_bipush (v := nI 15) hx hb d_q_Layout_formAt_7 (by decide) ?_
  refine n_icmp_ge hx hb d_q_Layout_formAt_9 (tgt := 35) rfl (by omega) (by omega) (fun g9 => ?_) (fun g9 => ?_)
  · skip
    obtain rfl : k = 15 := by omega
    exact kx ls H locs (lv_sub hl [0, 1, 2, 3, 4] rfl) hP hS
  · skip
    refine lv_iload_n hx hb d_q_Layout_formAt_12 rfl (lv_at hl 3 rfl) ?_
    refine lv_iconst (v := nI 1) hx hb d_q_Layout_formAt_13 (by decide) ?_
    refine n_ishl hx hb d_q_Layout_formAt_14 (by omega) ?_
    refine lv_aload_n hx hb d_q_Layout_formAt_15 rfl (lv_at hl 0 rfl) ?_
    refine lv_aload_n hx hb d_q_Layout_formAt_16 rfl (lv_at hl 1 rfl) ?_
    refine lv_iload hx hb d_q_Layout_formAt_17 (lv_at hl 4 rfl) ?_
    refine n_ti hx hb hSt.1.2.2.2.2.1.2 hS (by omega) (by decide) d_q_Layout_formAt_19 ?_
    refine lv_aload_n hx hb d_q_Layout_formAt_20 rfl (lv_at hl 2 rfl) ?_
    refine lv_iload hx hb d_q_Layout_formAt_21 (lv_at hl 4 rfl) ?_
    refine n_ti hx hb hSt.1.2.2.2.2.2.1.2 hS (by omega) (by decide) d_q_Layout_formAt_23 ?_
    refine q_readV (n := 2) (As := [.int (nI (f2R k)), .int (nI (f2C k))]) (rest := [.int (nI ((fcL ro f2R f2C k) * 2 ^ 1))]) (wc := [(go, .inr (2, [.ref ga])), (ga, .inl (cI, 21, .inl (fun j => nI (ro j))))]) S (c_q_Grid_at l D cI cC go ga ro (f2R k) (f2C k) (f2_chk k (by omega)).1 (f2_chk k (by omega)).2.1 hro) hK hP (q0 := 0) rfl rfl [0, 1] rfl (q_goodV kw_609 kw_227 kw_228 kw_2 kw_229) (by decide +kernel) rfl rfl rfl ⟨Nat.le_trans (Nat.le_of_ble_eq_true rfl) hRf, Nat.le_trans (Nat.le_of_ble_eq_true rfl) hRl⟩ rfl hl.1 rfl (Nat.le_of_ble_eq_true rfl) d_q_Layout_formAt_24 hRc hS (fun H locs hP hS => ?_)
    refine n_ior hx hb d_q_Layout_formAt_27 ?_
    refine n_topn (show ((fcL ro f2R f2C k) * 2 ^ 1) ||| (ro (f2R k) / 2 ^ (20 - (f2C k)) % 2) = fcL ro f2R f2C (k + 1) from rfl) ?_
    refine lv_istore_n hx hb d_q_Layout_formAt_28 rfl hl (Nat.le_of_ble_eq_true rfl) rfl (fun ls hl => ?_)
    have hl : lv_has ls 5 [(3, .int (nI (fcL ro f2R f2C (k + 1)))), (0, .ref go), (1, .ref (sa 4)), (2, .ref (sa 5)), (4, .int (nI k))] := hl
    refine lv_iinc (k := 4) (v := nI (k + 1)) hx hb d_q_Layout_formAt_29 hl rfl (nx_inc k 1) (Nat.le_of_ble_eq_true rfl) rfl (fun ls hl => ?_)
    have hl : lv_has ls 5 [(4, .int (nI (k + 1))), (3, .int (nI (fcL ro f2R f2C (k + 1)))), (0, .ref go), (1, .ref (sa 4)), (2, .ref (sa 5))] := hl
    refine lv_goto hx hb d_q_Layout_formAt_32 (tgt := 5) rfl ?_
    exact ih (by omega) ls H locs (lv_sub hl [2, 3, 4, 1, 0] rfl) hP hS
set_option maxHeartbeats 1000000 in
set_option maxRecDepth 100000 in
theorem bd_q_Layout_formAt_2 (cI cC : ClassId) (sa : Nat → Nat) (go ga : Nat) (ro : Nat → Nat) (hro : ∀ j, j < 21 → ro j < 2097152) (S : CallFix p m c b_q_Layout_formAt 5 s args (cd_q_Layout_formAt :: WS) R_Layout) (hRf : 1 ≤ R.frames) (hRl : 22 ≤ R.locals) (hRc : cells ≤ R.cells ∧ slots ≤ R.slots) (hK : va_K D classes [(cI, .int), (cC, .char)] s) (hSt : SB sa A s s.heap) (kr : ∀ (pc : Nat) (ls : Array Slot) (H : Heap) (locs : List Loc), decode b_q_Layout_formAt pc = .ok (.ireturn, 1) → va_P D classes [(go, .inr (2, [.ref ga])), (ga, .inl (cI, 21, .inl (fun j => nI (ro j))))] H → va_S A s.heap H locs → W p l e R s m args below meth c H locs cells slots Q (F0 m pc ls [.int (nI (fcL ro f2R f2C 15))])) : ∀ (ls : Array Slot) (H : Heap) (locs : List Loc), lv_has ls 5 [(0, .ref go), (1, .ref (sa 4)), (2, .ref (sa 5))] → va_P D classes [(go, .inr (2, [.ref ga])), (ga, .inl (cI, 21, .inl (fun j => nI (ro j))))] H → va_S A s.heap H locs → W p l e R s m args below meth c H locs cells slots Q (F0 m 0 ls []) := by
  obtain ⟨hx, hb, hml, hown, hts⟩ := id S
  intro ls H locs hl hP hS
  refine lv_iconst (v := nI 0) hx hb d_q_Layout_formAt_0 (by decide) ?_
  refine lv_istore_n hx hb d_q_Layout_formAt_1 rfl hl (Nat.le_of_ble_eq_true rfl) rfl (fun ls hl => ?_)
  have hl : lv_has ls 5 [(3, .int (nI 0)), (0, .ref go), (1, .ref (sa 4)), (2, .ref (sa 5))] := hl
  refine lv_iconst (v := nI 0) hx hb d_q_Layout_formAt_2 (by decide) ?_
  refine lv_istore hx hb d_q_Layout_formAt_3 hl (Nat.le_of_ble_eq_true rfl) rfl (fun ls hl => ?_)
  have hl : lv_has ls 5 [(4, .int (nI 0)), (3, .int (nI 0)), (0, .ref go), (1, .ref (sa 4)), (2, .ref (sa 5))] := hl
  refine lp_q_Layout_formAt_2_5 cI cC sa go ga ro hro S hRf hRl hRc hK hSt  (fun ls H locs hl hP hS => ?_) 0 (by omega) ls H locs (lv_sub hl [2, 3, 4, 1, 0] rfl) hP hS
  refine lv_iload_n hx hb d_q_Layout_formAt_35 rfl (lv_at hl 3 rfl) ?_
  exact kr _ ls H locs d_q_Layout_formAt_36 hP hS
set_option maxHeartbeats 1000000 in
set_option maxRecDepth 100000 in
theorem c_q_Layout_formAt_2 (l : Launch) (D : va_G) (cI cC : ClassId) (sa : Nat → Nat) (go ga : Nat) (ro : Nat → Nat) (hro : ∀ j, j < 21 → ro j < 2097152) : Met l y_q_Layout_formAt (cd_q_Layout_formAt :: WS) { frames := 1, cells := 0, slots := 0, locals := 22 } (va_Pc [.ref go, .ref (sa 4), .ref (sa 5)] (srP sa D [(go, .inr (2, [.ref ga])), (ga, .inl (cI, 21, .inl (fun j => nI (ro j))))] [(cI, .int), (cC, .char)])) (pQ (nI (fcL ro f2R f2C 15))) 0 0 noA := by
  refine Met.ofW (cc := b_q_Layout_formAt) (maxL := 5) (ret := (some .int)) (by decide) rfl ?_
  intro p e s m args below meth c s₁ B hml hv0
  obtain ⟨rfl, ⟨hP, hK⟩, hSt⟩ := hv0
  have hts := atoms_spec (ws := cd_q_Layout_formAt :: WS) B.pre
  have hown : s.vm.findClass R_Layout = some m.cls := findClass_of_methodNamed B.named
  have hlocks := B.notSynchronized
  have hl := lv_entry ([.ref go, .ref (sa 4), .ref (sa 5)]) (n := 5) (Nat.le_of_ble_eq_true rfl)
  rw [lg_entry_eq]
  generalize (lg_sl ([.ref go, .ref (sa 4), .ref (sa 5)]) ++ List.replicate (5 - (lg_sl ([.ref go, .ref (sa 4), .ref (sa 5)])).length) Slot.unset).toArray = ls at hl ⊢
  refine bd_q_Layout_formAt_2 cI cC sa go ga ro hro ⟨B.exec, B.bytes, hml, hown, hts⟩ (Nat.le_refl _) (Nat.le_refl _) ⟨Nat.le_refl _, Nat.le_refl _⟩ hK hSt (fun pc ls H locs hd hP hS => ?_) ls _ _ hl hP (va_S.rf (A := noA))
  exact W.iret B.exec B.bytes B.returns (fun t ht _ => ⟨⟨_, (), rfl, rfl, trivial⟩, hS.F ht⟩) hS.2.2 hd
end
section
theorem d_q_Layout_firstCopy_0 : decode b_q_Layout_firstCopy 0 = .ok (.aload_n 1, 1) := by decide +kernel
theorem d_q_Layout_firstCopy_1 : decode b_q_Layout_firstCopy 1 = .ok (.getstatic 64, 3) := by decide +kernel
theorem d_q_Layout_firstCopy_4 : decode b_q_Layout_firstCopy 4 = .ok (.getstatic 67, 3) := by decide +kernel
theorem d_q_Layout_firstCopy_7 : decode b_q_Layout_firstCopy 7 = .ok (.invokestatic 97, 3) := by decide +kernel
theorem d_q_Layout_firstCopy_10 : decode b_q_Layout_firstCopy 10 = .ok (.ireturn, 1) := by decide +kernel
end
section
variable {p : Program} {l : Launch} {e : Env} {R : Room} {s : State} {m : MethodId} {args : Array Value} {below : List Frame} {meth : Method} {c : Code} {cells slots : Nat} {Q : State → Prop} {A : Nat → Prop} {H0 : Heap} {D : va_G}
set_option maxHeartbeats 1000000 in
set_option maxRecDepth 100000 in
theorem bd_q_Layout_firstCopy (cI cC : ClassId) (sa : Nat → Nat) (ly l1 l2 l3 : Nat) (go ga : Nat) (ro : Nat → Nat) (hro : ∀ j, j < 21 → ro j < 2097152) (S : CallFix p m c b_q_Layout_firstCopy 2 s args (cd_q_Layout_firstCopy :: WS) R_Layout) (hRf : 2 ≤ R.frames) (hRl : 46 ≤ R.locals) (hRc : cells ≤ R.cells ∧ slots ≤ R.slots) (hK : va_K D classes [(cI, .int), (cC, .char)] s) (hSt : SB sa A s s.heap) (kr : ∀ (pc : Nat) (ls : Array Slot) (H : Heap) (locs : List Loc), decode b_q_Layout_firstCopy pc = .ok (.ireturn, 1) → va_P D classes [(ly, .inr (3, [.ref l1, .ref l2, .ref l3])), (go, .inr (2, [.ref ga])), (ga, .inl (cI, 21, .inl (fun j => nI (ro j))))] H → va_S A s.heap H locs → W p l e R s m args below meth c H locs cells slots Q (F0 m pc ls [.int (nI (fcL ro f1R f1C 15))])) : ∀ (ls : Array Slot) (H : Heap) (locs : List Loc), lv_has ls 2 [(0, .ref ly), (1, .ref go)] → va_P D classes [(ly, .inr (3, [.ref l1, .ref l2, .ref l3])), (go, .inr (2, [.ref ga])), (ga, .inl (cI, 21, .inl (fun j => nI (ro j))))] H → va_S A s.heap H locs → W p l e R s m args below meth c H locs cells slots Q (F0 m 0 ls []) := by
  obtain ⟨hx, hb, hml, hown, hts⟩ := id S
  intro ls H locs hl hP hS
  refine lv_aload_n hx hb d_q_Layout_firstCopy_0 rfl (lv_at hl 1 rfl) ?_
  refine n_gets hx hb hts hSt.1.2.2.1.1 hS hown kw_568 d_q_Layout_firstCopy_1 ?_
  refine n_gets hx hb hts hSt.1.2.2.2.1.1 hS hown kw_570 d_q_Layout_firstCopy_4 ?_
  refine q_readSs (n := 3) (As := [.ref go, .ref (sa 2), .ref (sa 3)]) (rest := []) (wc := [(go, .inr (2, [.ref ga])), (ga, .inl (cI, 21, .inl (fun j => nI (ro j))))]) S (c_q_Layout_formAt_1 l D cI cC sa go ga ro hro) hSt hK hP [1, 2] rfl (q_goodS kw_606 kw_607 kw_3 kw_608) (by decide +kernel) rfl rfl ⟨Nat.le_trans (Nat.le_of_ble_eq_true rfl) hRf, Nat.le_trans (Nat.le_of_ble_eq_true rfl) hRl⟩ rfl hl.1 rfl (Nat.le_of_ble_eq_true rfl) d_q_Layout_firstCopy_7 hRc hS (fun H locs hP hS => ?_)
  exact kr _ ls H locs d_q_Layout_firstCopy_10 hP hS
set_option maxHeartbeats 1000000 in
set_option maxRecDepth 100000 in
theorem c_q_Layout_firstCopy (l : Launch) (D : va_G) (cI cC : ClassId) (sa : Nat → Nat) (ly l1 l2 l3 : Nat) (go ga : Nat) (ro : Nat → Nat) (hro : ∀ j, j < 21 → ro j < 2097152) : Met l y_q_Layout_firstCopy (cd_q_Layout_firstCopy :: WS) { frames := 2, cells := 0, slots := 0, locals := 46 } (va_Pc [.ref ly, .ref go] (srP sa D [(ly, .inr (3, [.ref l1, .ref l2, .ref l3])), (go, .inr (2, [.ref ga])), (ga, .inl (cI, 21, .inl (fun j => nI (ro j))))] [(cI, .int), (cC, .char)])) (pQ (nI (fcL ro f1R f1C 15))) 0 0 noA := by
  refine Met.ofW (cc := b_q_Layout_firstCopy) (maxL := 2) (ret := (some .int)) (by decide) rfl ?_
  intro p e s m args below meth c s₁ B hml hv0
  obtain ⟨rfl, ⟨hP, hK⟩, hSt⟩ := hv0
  have hts := atoms_spec (ws := cd_q_Layout_firstCopy :: WS) B.pre
  have hown : s.vm.findClass R_Layout = some m.cls := findClass_of_methodNamed B.named
  have hlocks := B.notSynchronized
  have hl := lv_entry ([.ref ly, .ref go]) (n := 2) (Nat.le_of_ble_eq_true rfl)
  rw [lg_entry_eq]
  generalize (lg_sl ([.ref ly, .ref go]) ++ List.replicate (2 - (lg_sl ([.ref ly, .ref go])).length) Slot.unset).toArray = ls at hl ⊢
  refine bd_q_Layout_firstCopy cI cC sa ly l1 l2 l3 go ga ro hro ⟨B.exec, B.bytes, hml, hown, hts⟩ (Nat.le_refl _) (Nat.le_refl _) ⟨Nat.le_refl _, Nat.le_refl _⟩ hK hSt (fun pc ls H locs hd hP hS => ?_) ls _ _ hl hP (va_S.rf (A := noA))
  exact W.iret B.exec B.bytes B.returns (fun t ht _ => ⟨⟨_, (), rfl, rfl, trivial⟩, hS.F ht⟩) hS.2.2 hd
end
section
theorem d_q_Layout_secondCopy_0 : decode b_q_Layout_secondCopy 0 = .ok (.aload_n 1, 1) := by decide +kernel
theorem d_q_Layout_secondCopy_1 : decode b_q_Layout_secondCopy 1 = .ok (.getstatic 74, 3) := by decide +kernel
theorem d_q_Layout_secondCopy_4 : decode b_q_Layout_secondCopy 4 = .ok (.getstatic 77, 3) := by decide +kernel
theorem d_q_Layout_secondCopy_7 : decode b_q_Layout_secondCopy 7 = .ok (.invokestatic 97, 3) := by decide +kernel
theorem d_q_Layout_secondCopy_10 : decode b_q_Layout_secondCopy 10 = .ok (.ireturn, 1) := by decide +kernel
end
section
variable {p : Program} {l : Launch} {e : Env} {R : Room} {s : State} {m : MethodId} {args : Array Value} {below : List Frame} {meth : Method} {c : Code} {cells slots : Nat} {Q : State → Prop} {A : Nat → Prop} {H0 : Heap} {D : va_G}
set_option maxHeartbeats 1000000 in
set_option maxRecDepth 100000 in
theorem bd_q_Layout_secondCopy (cI cC : ClassId) (sa : Nat → Nat) (ly l1 l2 l3 : Nat) (go ga : Nat) (ro : Nat → Nat) (hro : ∀ j, j < 21 → ro j < 2097152) (S : CallFix p m c b_q_Layout_secondCopy 2 s args (cd_q_Layout_secondCopy :: WS) R_Layout) (hRf : 2 ≤ R.frames) (hRl : 46 ≤ R.locals) (hRc : cells ≤ R.cells ∧ slots ≤ R.slots) (hK : va_K D classes [(cI, .int), (cC, .char)] s) (hSt : SB sa A s s.heap) (kr : ∀ (pc : Nat) (ls : Array Slot) (H : Heap) (locs : List Loc), decode b_q_Layout_secondCopy pc = .ok (.ireturn, 1) → va_P D classes [(ly, .inr (3, [.ref l1, .ref l2, .ref l3])), (go, .inr (2, [.ref ga])), (ga, .inl (cI, 21, .inl (fun j => nI (ro j))))] H → va_S A s.heap H locs → W p l e R s m args below meth c H locs cells slots Q (F0 m pc ls [.int (nI (fcL ro f2R f2C 15))])) : ∀ (ls : Array Slot) (H : Heap) (locs : List Loc), lv_has ls 2 [(0, .ref ly), (1, .ref go)] → va_P D classes [(ly, .inr (3, [.ref l1, .ref l2, .ref l3])), (go, .inr (2, [.ref ga])), (ga, .inl (cI, 21, .inl (fun j => nI (ro j))))] H → va_S A s.heap H locs → W p l e R s m args below meth c H locs cells slots Q (F0 m 0 ls []) := by
  obtain ⟨hx, hb, hml, hown, hts⟩ := id S
  intro ls H locs hl hP hS
  refine lv_aload_n hx hb d_q_Layout_secondCopy_0 rfl (lv_at hl 1 rfl) ?_
  refine n_gets hx hb hts hSt.1.2.2.2.2.1.1 hS hown kw_575 d_q_Layout_secondCopy_1 ?_
  refine n_gets hx hb hts hSt.1.2.2.2.2.2.1.1 hS hown kw_577 d_q_Layout_secondCopy_4 ?_
  refine q_readSs (n := 3) (As := [.ref go, .ref (sa 4), .ref (sa 5)]) (rest := []) (wc := [(go, .inr (2, [.ref ga])), (ga, .inl (cI, 21, .inl (fun j => nI (ro j))))]) S (c_q_Layout_formAt_2 l D cI cC sa go ga ro hro) hSt hK hP [1, 2] rfl (q_goodS kw_606 kw_607 kw_3 kw_608) (by decide +kernel) rfl rfl ⟨Nat.le_trans (Nat.le_of_ble_eq_true rfl) hRf, Nat.le_trans (Nat.le_of_ble_eq_true rfl) hRl⟩ rfl hl.1 rfl (Nat.le_of_ble_eq_true rfl) d_q_Layout_secondCopy_7 hRc hS (fun H locs hP hS => ?_)
  exact kr _ ls H locs d_q_Layout_secondCopy_10 hP hS
set_option maxHeartbeats 1000000 in
set_option maxRecDepth 100000 in
theorem c_q_Layout_secondCopy (l : Launch) (D : va_G) (cI cC : ClassId) (sa : Nat → Nat) (ly l1 l2 l3 : Nat) (go ga : Nat) (ro : Nat → Nat) (hro : ∀ j, j < 21 → ro j < 2097152) : Met l y_q_Layout_secondCopy (cd_q_Layout_secondCopy :: WS) { frames := 2, cells := 0, slots := 0, locals := 46 } (va_Pc [.ref ly, .ref go] (srP sa D [(ly, .inr (3, [.ref l1, .ref l2, .ref l3])), (go, .inr (2, [.ref ga])), (ga, .inl (cI, 21, .inl (fun j => nI (ro j))))] [(cI, .int), (cC, .char)])) (pQ (nI (fcL ro f2R f2C 15))) 0 0 noA := by
  refine Met.ofW (cc := b_q_Layout_secondCopy) (maxL := 2) (ret := (some .int)) (by decide) rfl ?_
  intro p e s m args below meth c s₁ B hml hv0
  obtain ⟨rfl, ⟨hP, hK⟩, hSt⟩ := hv0
  have hts := atoms_spec (ws := cd_q_Layout_secondCopy :: WS) B.pre
  have hown : s.vm.findClass R_Layout = some m.cls := findClass_of_methodNamed B.named
  have hlocks := B.notSynchronized
  have hl := lv_entry ([.ref ly, .ref go]) (n := 2) (Nat.le_of_ble_eq_true rfl)
  rw [lg_entry_eq]
  generalize (lg_sl ([.ref ly, .ref go]) ++ List.replicate (2 - (lg_sl ([.ref ly, .ref go])).length) Slot.unset).toArray = ls at hl ⊢
  refine bd_q_Layout_secondCopy cI cC sa ly l1 l2 l3 go ga ro hro ⟨B.exec, B.bytes, hml, hown, hts⟩ (Nat.le_refl _) (Nat.le_refl _) ⟨Nat.le_refl _, Nat.le_refl _⟩ hK hSt (fun pc ls H locs hd hP hS => ?_) ls _ _ hl hP (va_S.rf (A := noA))
  exact W.iret B.exec B.bytes B.returns (fun t ht _ => ⟨⟨_, (), rfl, rfl, trivial⟩, hS.F ht⟩) hS.2.2 hd
end
section
theorem d_q_Layout_putDown_0 : decode b_q_Layout_putDown 0 = .ok (.aload_n 1, 1) := by decide +kernel
theorem d_q_Layout_putDown_1 : decode b_q_Layout_putDown 1 = .ok (.aload_n 0, 1) := by decide +kernel
theorem d_q_Layout_putDown_2 : decode b_q_Layout_putDown 2 = .ok (.getfield 22, 3) := by decide +kernel
theorem d_q_Layout_putDown_5 : decode b_q_Layout_putDown 5 = .ok (.invokevirtual 51, 3) := by decide +kernel
theorem d_q_Layout_putDown_8 : decode b_q_Layout_putDown 8 = .ok (.iload_n 3, 1) := by decide +kernel
theorem d_q_Layout_putDown_9 : decode b_q_Layout_putDown 9 = .ok (.iload 4, 2) := by decide +kernel
theorem d_q_Layout_putDown_11 : decode b_q_Layout_putDown 11 = .ok (.invokestatic 55, 3) := by decide +kernel
theorem d_q_Layout_putDown_14 : decode b_q_Layout_putDown 14 = .ok (.invokestatic 61, 3) := by decide +kernel
theorem d_q_Layout_putDown_17 : decode b_q_Layout_putDown 17 = .ok (.istore 5, 2) := by decide +kernel
theorem d_q_Layout_putDown_19 : decode b_q_Layout_putDown 19 = .ok (.aload_n 1, 1) := by decide +kernel
theorem d_q_Layout_putDown_20 : decode b_q_Layout_putDown 20 = .ok (.iload 5, 2) := by decide +kernel
theorem d_q_Layout_putDown_22 : decode b_q_Layout_putDown 22 = .ok (.getstatic 64, 3) := by decide +kernel
theorem d_q_Layout_putDown_25 : decode b_q_Layout_putDown 25 = .ok (.getstatic 67, 3) := by decide +kernel
theorem d_q_Layout_putDown_28 : decode b_q_Layout_putDown 28 = .ok (.invokestatic 70, 3) := by decide +kernel
theorem d_q_Layout_putDown_31 : decode b_q_Layout_putDown 31 = .ok (.aload_n 1, 1) := by decide +kernel
theorem d_q_Layout_putDown_32 : decode b_q_Layout_putDown 32 = .ok (.iload 5, 2) := by decide +kernel
theorem d_q_Layout_putDown_34 : decode b_q_Layout_putDown 34 = .ok (.getstatic 74, 3) := by decide +kernel
theorem d_q_Layout_putDown_37 : decode b_q_Layout_putDown 37 = .ok (.getstatic 77, 3) := by decide +kernel
theorem d_q_Layout_putDown_40 : decode b_q_Layout_putDown 40 = .ok (.invokestatic 70, 3) := by decide +kernel
theorem d_q_Layout_putDown_43 : decode b_q_Layout_putDown 43 = .ok (.iconst 0, 1) := by decide +kernel
theorem d_q_Layout_putDown_44 : decode b_q_Layout_putDown 44 = .ok (.istore 6, 2) := by decide +kernel
theorem d_q_Layout_putDown_46 : decode b_q_Layout_putDown 46 = .ok (.iload 6, 2) := by decide +kernel
theorem d_q_Layout_putDown_48 : decode b_q_Layout_putDown 48 = .ok (.sipush 208, 3) := by decide +kernel
theorem d_q_Layout_putDown_51 : decode b_q_Layout_putDown 51 = .ok (.if_icmp .ge 67, 3) := by decide +kernel
theorem d_q_Layout_putDown_54 : decode b_q_Layout_putDown 54 = .ok (.iload 4, 2) := by decide +kernel
theorem d_q_Layout_putDown_56 : decode b_q_Layout_putDown 56 = .ok (.aload_n 0, 1) := by decide +kernel
theorem d_q_Layout_putDown_57 : decode b_q_Layout_putDown 57 = .ok (.getfield 30, 3) := by decide +kernel
theorem d_q_Layout_putDown_60 : decode b_q_Layout_putDown 60 = .ok (.iload 6, 2) := by decide +kernel
theorem d_q_Layout_putDown_62 : decode b_q_Layout_putDown 62 = .ok (.iaload, 1) := by decide +kernel
theorem d_q_Layout_putDown_63 : decode b_q_Layout_putDown 63 = .ok (.aload_n 0, 1) := by decide +kernel
theorem d_q_Layout_putDown_64 : decode b_q_Layout_putDown 64 = .ok (.getfield 33, 3) := by decide +kernel
theorem d_q_Layout_putDown_67 : decode b_q_Layout_putDown 67 = .ok (.iload 6, 2) := by decide +kernel
theorem d_q_Layout_putDown_69 : decode b_q_Layout_putDown 69 = .ok (.iaload, 1) := by decide +kernel
theorem d_q_Layout_putDown_70 : decode b_q_Layout_putDown 70 = .ok (.invokestatic 80, 3) := by decide +kernel
theorem d_q_Layout_putDown_73 : decode b_q_Layout_putDown 73 = .ok (.ifCond .eq 7, 3) := by decide +kernel
theorem d_q_Layout_putDown_76 : decode b_q_Layout_putDown 76 = .ok (.iconst 1, 1) := by decide +kernel
theorem d_q_Layout_putDown_77 : decode b_q_Layout_putDown 77 = .ok (.goto 4, 3) := by decide +kernel
theorem d_q_Layout_putDown_80 : decode b_q_Layout_putDown 80 = .ok (.iconst 0, 1) := by decide +kernel
theorem d_q_Layout_putDown_81 : decode b_q_Layout_putDown 81 = .ok (.istore 7, 2) := by decide +kernel
theorem d_q_Layout_putDown_83 : decode b_q_Layout_putDown 83 = .ok (.aload_n 2, 1) := by decide +kernel
theorem d_q_Layout_putDown_84 : decode b_q_Layout_putDown 84 = .ok (.iload 6, 2) := by decide +kernel
theorem d_q_Layout_putDown_86 : decode b_q_Layout_putDown 86 = .ok (.invokestatic 84, 3) := by decide +kernel
theorem d_q_Layout_putDown_89 : decode b_q_Layout_putDown 89 = .ok (.iload 7, 2) := by decide +kernel
theorem d_q_Layout_putDown_91 : decode b_q_Layout_putDown 91 = .ok (.if_icmp .eq 21, 3) := by decide +kernel
theorem d_q_Layout_putDown_94 : decode b_q_Layout_putDown 94 = .ok (.aload_n 1, 1) := by decide +kernel
theorem d_q_Layout_putDown_95 : decode b_q_Layout_putDown 95 = .ok (.aload_n 0, 1) := by decide +kernel
theorem d_q_Layout_putDown_96 : decode b_q_Layout_putDown 96 = .ok (.getfield 30, 3) := by decide +kernel
theorem d_q_Layout_putDown_99 : decode b_q_Layout_putDown 99 = .ok (.iload 6, 2) := by decide +kernel
theorem d_q_Layout_putDown_101 : decode b_q_Layout_putDown 101 = .ok (.iaload, 1) := by decide +kernel
theorem d_q_Layout_putDown_102 : decode b_q_Layout_putDown 102 = .ok (.aload_n 0, 1) := by decide +kernel
theorem d_q_Layout_putDown_103 : decode b_q_Layout_putDown 103 = .ok (.getfield 33, 3) := by decide +kernel
theorem d_q_Layout_putDown_106 : decode b_q_Layout_putDown 106 = .ok (.iload 6, 2) := by decide +kernel
theorem d_q_Layout_putDown_108 : decode b_q_Layout_putDown 108 = .ok (.iaload, 1) := by decide +kernel
theorem d_q_Layout_putDown_109 : decode b_q_Layout_putDown 109 = .ok (.invokevirtual 44, 3) := by decide +kernel
theorem d_q_Layout_putDown_112 : decode b_q_Layout_putDown 112 = .ok (.iinc 6 1, 3) := by decide +kernel
theorem d_q_Layout_putDown_115 : decode b_q_Layout_putDown 115 = .ok (.goto (-69), 3) := by decide +kernel
theorem d_q_Layout_putDown_118 : decode b_q_Layout_putDown 118 = .ok (.return_, 1) := by decide +kernel
end
section
variable {p : Program} {l : Launch} {e : Env} {R : Room} {s : State} {m : MethodId} {args : Array Value} {below : List Frame} {meth : Method} {c : Code} {cells slots : Nat} {Q : State → Prop} {A : Nat → Prop} {H0 : Heap} {D : va_G}
set_option maxHeartbeats 1000000 in
set_option maxRecDepth 100000 in
theorem lp_q_Layout_putDown_46 (cI cC : ClassId) (sa : Nat → Nat) (ly l1 l2 l3 go ga ba lv mk : Nat) (fx dx dy ro bt : Nat → Nat) (hlv : lv < 4) (hmk : mk < 8) (hdx : ∀ j, j < 208 → dx j < 21) (hdy : ∀ j, j < 208 → dy j < 21) (hbt : lt256 26 bt) (S : CallFix p m c b_q_Layout_putDown 8 s args (cd_q_Layout_putDown :: WS) R_Layout) (hRf : 2 ≤ R.frames) (hRl : 81 ≤ R.locals) (hRc : cells ≤ R.cells ∧ slots ≤ R.slots) (hK : va_K D classes [(cI, .int), (cC, .char)] s) (hA : ∀ q, s.heap.size ≤ q → A q) (hSt : SB sa A s s.heap) (kx : ∀ (ls : Array Slot) (H : Heap) (locs : List Loc), lv_has ls 8 [(0, .ref ly), (1, .ref go), (2, .ref ba), (3, .int (nI lv)), (4, .int (nI mk)), (5, .int (nI (fmN lv mk))), (6, .int (nI 208))] → va_P D classes [(ly, .inr (3, [.ref l1, .ref l2, .ref l3])), (l1, .inl (cI, 21, .inl (fun j => nI (fx j)))), (l2, .inl (cI, 208, .inl (fun j => nI (dx j)))), (l3, .inl (cI, 208, .inl (fun j => nI (dy j)))), (go, .inr (2, [.ref ga])), (ga, .inl (cI, 21, .inl (fun j => nI ((pdL (pfL (pfL (va_cpy fx ro 0 0 21) f1R f1C (fmN lv mk) 15) f2R f2C (fmN lv mk) 15) bt dx dy mk 208) j)))), (ba, .inl (cI, 26, .inl (fun j => nI (bt j))))] H → va_D A [(ly, .inr (3, [.ref l1, .ref l2, .ref l3])), (l1, .inl (cI, 21, .inl (fun j => nI (fx j)))), (l2, .inl (cI, 208, .inl (fun j => nI (dx j)))), (l3, .inl (cI, 208, .inl (fun j => nI (dy j)))), (go, .inr (2, [.ref ga])), (ga, .inl (cI, 21, .inl (fun j => nI ((pdL (pfL (pfL (va_cpy fx ro 0 0 21) f1R f1C (fmN lv mk) 15) f2R f2C (fmN lv mk) 15) bt dx dy mk 208) j)))), (ba, .inl (cI, 26, .inl (fun j => nI (bt j))))] → va_S A s.heap H locs → W p l e R s m args below meth c H locs cells slots Q (F0 m 118 ls [])) :
    ∀ k, k ≤ 208 → ∀ (ls : Array Slot) (H : Heap) (locs : List Loc), lv_has ls 8 [(0, .ref ly), (1, .ref go), (2, .ref ba), (3, .int (nI lv)), (4, .int (nI mk)), (5, .int (nI (fmN lv mk))), (6, .int (nI k))] → va_P D classes [(ly, .inr (3, [.ref l1, .ref l2, .ref l3])), (l1, .inl (cI, 21, .inl (fun j => nI (fx j)))), (l2, .inl (cI, 208, .inl (fun j => nI (dx j)))), (l3, .inl (cI, 208, .inl (fun j => nI (dy j)))), (go, .inr (2, [.ref ga])), (ga, .inl (cI, 21, .inl (fun j => nI ((pdL (pfL (pfL (va_cpy fx ro 0 0 21) f1R f1C (fmN lv mk) 15) f2R f2C (fmN lv mk) 15) bt dx dy mk k) j)))), (ba, .inl (cI, 26, .inl (fun j => nI (bt j))))] H → va_D A [(ly, .inr (3, [.ref l1, .ref l2, .ref l3])), (l1, .inl (cI, 21, .inl (fun j => nI (fx j)))), (l2, .inl (cI, 208, .inl (fun j => nI (dx j)))), (l3, .inl (cI, 208, .inl (fun j => nI (dy j)))), (go, .inr (2, [.ref ga])), (ga, .inl (cI, 21, .inl (fun j => nI ((pdL (pfL (pfL (va_cpy fx ro 0 0 21) f1R f1C (fmN lv mk) 15) f2R f2C (fmN lv mk) 15) bt dx dy mk k) j)))), (ba, .inl (cI, 26, .inl (fun j => nI (bt j))))] → va_S A s.heap H locs → W p l e R s m args below meth c H locs cells slots Q (F0 m 46 ls []) := by
  obtain ⟨hx, hb, hml, hown, hts⟩ := id S
  refine up_loop (fun k hkk ih => ?_)
  intro ls H locs hl hP hD hS
  refine lv_iload hx hb d_q_Layout_putDown_46 (lv_at hl 6 rfl) ?_
  refine lv_sipush (v := nI 208) hx hb d_q_Layout_putDown_48 (by decide) ?_
  refine n_icmp_ge hx hb d_q_Layout_putDown_51 (tgt := 118) rfl (by omega) (by omega) (fun g51 => ?_) (fun g51 => ?_)
  · skip
    obtain rfl : k = 208 := by omega
    exact kx ls H locs (lv_sub hl [0, 1, 2, 3, 4, 5, 6] rfl) hP hD hS
  · skip
    have h1 := hdx k (by omega)
    have h2 := hdy k (by omega)
    have ht1 := tnN_le mk (dx k) (dy k)
    refine lv_iload hx hb d_q_Layout_putDown_54 (lv_at hl 4 rfl) ?_
    refine lv_aload_n hx hb d_q_Layout_putDown_56 rfl (lv_at hl 0 rfl) ?_
    refine n_get (C := R_Layout) (T := F_Layout) (N := 3) (v := .ref l2) hx hb hts u_Layout_in hown hK hP 0 rfl rfl 1 (by decide) kw_80 rfl d_q_Layout_putDown_57 ?_
    refine lv_iload hx hb d_q_Layout_putDown_60 (lv_at hl 6 rfl) ?_
    refine n_iald hx hb hK hP 2 0 rfl rfl (by omega) (by decide) d_q_Layout_putDown_62 ?_
    refine lv_aload_n hx hb d_q_Layout_putDown_63 rfl (lv_at hl 0 rfl) ?_
    refine n_get (C := R_Layout) (T := F_Layout) (N := 3) (v := .ref l3) hx hb hts u_Layout_in hown hK hP 0 rfl rfl 2 (by decide) kw_81 rfl d_q_Layout_putDown_64 ?_
    refine lv_iload hx hb d_q_Layout_putDown_67 (lv_at hl 6 rfl) ?_
    refine n_iald hx hb hK hP 3 0 rfl rfl (by omega) (by decide) d_q_Layout_putDown_69 ?_
    refine q_pureS (n := 3) (As := [.int (nI mk), .int (nI (dx k)), .int (nI (dy k))]) (rest := []) S (c_q_Layout_isTurned l mk (dx k) (dy k) hmk h1 h2) (q_goodS kw_579 kw_580 kw_3 kw_581) (by decide +kernel) rfl rfl ⟨Nat.le_trans (Nat.le_of_ble_eq_true rfl) hRf, Nat.le_trans (Nat.le_of_ble_eq_true rfl) hRl⟩ rfl hl.1 rfl (Nat.le_of_ble_eq_true rfl) d_q_Layout_putDown_70 hRc hS (fun H locs hkp hS => ?_)
    replace hP := hP.kept (fun k q hq => hkp q.1 (hP k q hq).lt)
    refine n_if_eq hx hb d_q_Layout_putDown_73 (tgt := 80) rfl (by omega) (fun g73 => ?_) (fun g73 => ?_)
    · skip
      refine lv_iconst (v := nI 0) hx hb d_q_Layout_putDown_80 (by decide) ?_
      refine n_topn (show 0 = tnN mk (dx k) (dy k) from (by omega)) ?_
      refine lv_istore hx hb d_q_Layout_putDown_81 hl (Nat.le_of_ble_eq_true rfl) rfl (fun ls hl => ?_)
      have hl : lv_has ls 8 [(7, .int (nI (tnN mk (dx k) (dy k)))), (0, .ref ly), (1, .ref go), (2, .ref ba), (3, .int (nI lv)), (4, .int (nI mk)), (5, .int (nI (fmN lv mk))), (6, .int (nI k))] := hl
      refine lv_aload_n hx hb d_q_Layout_putDown_83 rfl (lv_at hl 3 rfl) ?_
      refine lv_iload hx hb d_q_Layout_putDown_84 (lv_at hl 7 rfl) ?_
      refine q_readSN (host := "SquareCodes") (n := 2) (As := [.ref ba, .int (nI k)]) (rest := []) (wc := [(ba, .inl (cI, 26, .inl (fun j => nI (bt j))))]) S (c_q_bitOf l D cI cC ba bt k (by omega) hbt) hSt.2.2.1.2.1 hK hP [6] rfl kw_584 kw_1 kw_583 (by decide +kernel) rfl rfl ⟨Nat.le_trans (Nat.le_of_ble_eq_true rfl) hRf, Nat.le_trans (Nat.le_of_ble_eq_true rfl) hRl⟩ rfl hl.1 rfl (Nat.le_of_ble_eq_true rfl) d_q_Layout_putDown_86 hRc hS (fun H locs hP hS => ?_)
      refine lv_iload hx hb d_q_Layout_putDown_89 (lv_at hl 0 rfl) ?_
      refine n_icmp_eq hx hb d_q_Layout_putDown_91 (tgt := 112) rfl (by omega) (by omega) (fun g91 => ?_) (fun g91 => ?_)
      · skip
        refine lv_iinc (k := 7) (v := nI (k + 1)) hx hb d_q_Layout_putDown_112 hl rfl (nx_inc k 1) (Nat.le_of_ble_eq_true rfl) rfl (fun ls hl => ?_)
        have hl : lv_has ls 8 [(6, .int (nI (k + 1))), (7, .int (nI (tnN mk (dx k) (dy k)))), (0, .ref ly), (1, .ref go), (2, .ref ba), (3, .int (nI lv)), (4, .int (nI mk)), (5, .int (nI (fmN lv mk)))] := hl
        refine lv_goto hx hb d_q_Layout_putDown_115 (tgt := 46) rfl ?_
        rw [show pdL (pfL (pfL (va_cpy fx ro 0 0 21) f1R f1C (fmN lv mk) 15) f2R f2C (fmN lv mk) 15) bt dx dy mk k = pdL (pfL (pfL (va_cpy fx ro 0 0 21) f1R f1C (fmN lv mk) 15) f2R f2C (fmN lv mk) 15) bt dx dy mk (k + 1) from (by first | exact (pdL_t g91).symm | exact (pdL_f g91).symm)] at hP hD
        exact ih (by omega) ls H locs (lv_sub hl [2, 3, 4, 5, 6, 7, 0] rfl) hP hD hS
      · skip
        refine lv_aload_n hx hb d_q_Layout_putDown_94 rfl (lv_at hl 2 rfl) ?_
        refine lv_aload_n hx hb d_q_Layout_putDown_95 rfl (lv_at hl 1 rfl) ?_
        refine n_get (C := R_Layout) (T := F_Layout) (N := 3) (v := .ref l2) hx hb hts u_Layout_in hown hK hP 0 rfl rfl 1 (by decide) kw_80 rfl d_q_Layout_putDown_96 ?_
        refine lv_iload hx hb d_q_Layout_putDown_99 (lv_at hl 7 rfl) ?_
        refine n_iald hx hb hK hP 2 0 rfl rfl (by omega) (by decide) d_q_Layout_putDown_101 ?_
        refine lv_aload_n hx hb d_q_Layout_putDown_102 rfl (lv_at hl 1 rfl) ?_
        refine n_get (C := R_Layout) (T := F_Layout) (N := 3) (v := .ref l3) hx hb hts u_Layout_in hown hK hP 0 rfl rfl 2 (by decide) kw_81 rfl d_q_Layout_putDown_103 ?_
        refine lv_iload hx hb d_q_Layout_putDown_106 (lv_at hl 7 rfl) ?_
        refine n_iald hx hb hK hP 3 0 rfl rfl (by omega) (by decide) d_q_Layout_putDown_108 ?_
        refine q_writeVv (n := 2) (As := [.int (nI (dx k)), .int (nI (dy k))]) (rest := []) (wc := [(go, .inr (2, [.ref ga])), (ga, .inl (cI, 21, .inl (fun j => nI ((pdL (pfL (pfL (va_cpy fx ro 0 0 21) f1R f1C (fmN lv mk) 15) f2R f2C (fmN lv mk) 15) bt dx dy mk k) j))))]) (wr := [(ly, .inr (3, [.ref l1, .ref l2, .ref l3])), (l1, .inl (cI, 21, .inl (fun j => nI (fx j)))), (l2, .inl (cI, 208, .inl (fun j => nI (dx j)))), (l3, .inl (cI, 208, .inl (fun j => nI (dy j)))), (ba, .inl (cI, 26, .inl (fun j => nI (bt j))))]) (w1 := [(go, .inr (2, [.ref ga])), (ga, .inl (cI, 21, .inl (fun j => nI ((va_up (pdL (pfL (pfL (va_cpy fx ro 0 0 21) f1R f1C (fmN lv mk) 15) f2R f2C (fmN lv mk) 15) bt dx dy mk k) (dx k) ((pdL (pfL (pfL (va_cpy fx ro 0 0 21) f1R f1C (fmN lv mk) 15) f2R f2C (fmN lv mk) 15) bt dx dy mk k) (dx k) ^^^ 2 ^ (20 - (dy k)))) j))))]) S (c_q_Grid_turnOver l D cI cC go ga (pdL (pfL (pfL (va_cpy fx ro 0 0 21) f1R f1C (fmN lv mk) 15) f2R f2C (fmN lv mk) 15) bt dx dy mk k) (dx k) (dy k) h1 h2 H.size) hK hP hD hA (q0 := 4) rfl rfl [4, 5] [0, 1, 2, 3, 6] rfl rfl rfl rfl (by decide) rfl (q_goodV kw_62 kw_63 kw_64 kw_2 kw_65) (by decide +kernel) rfl rfl rfl ⟨Nat.le_trans (Nat.le_of_ble_eq_true rfl) hRf, Nat.le_trans (Nat.le_of_ble_eq_true rfl) hRl⟩ rfl hl.1 rfl (Nat.le_of_ble_eq_true rfl) d_q_Layout_putDown_109 hRc hS (fun H locs hP hD hS => ?_)
        replace hP : va_P D classes [(ly, .inr (3, [.ref l1, .ref l2, .ref l3])), (l1, .inl (cI, 21, .inl (fun j => nI (fx j)))), (l2, .inl (cI, 208, .inl (fun j => nI (dx j)))), (l3, .inl (cI, 208, .inl (fun j => nI (dy j)))), (go, .inr (2, [.ref ga])), (ga, .inl (cI, 21, .inl (fun j => nI ((va_up (pdL (pfL (pfL (va_cpy fx ro 0 0 21) f1R f1C (fmN lv mk) 15) f2R f2C (fmN lv mk) 15) bt dx dy mk k) (dx k) ((pdL (pfL (pfL (va_cpy fx ro 0 0 21) f1R f1C (fmN lv mk) 15) f2R f2C (fmN lv mk) 15) bt dx dy mk k) (dx k) ^^^ 2 ^ (20 - (dy k)))) j)))), (ba, .inl (cI, 26, .inl (fun j => nI (bt j))))] H := hP.sub [0, 1, 2, 3, 5, 6, 4] rfl
        replace hD : va_D A [(ly, .inr (3, [.ref l1, .ref l2, .ref l3])), (l1, .inl (cI, 21, .inl (fun j => nI (fx j)))), (l2, .inl (cI, 208, .inl (fun j => nI (dx j)))), (l3, .inl (cI, 208, .inl (fun j => nI (dy j)))), (go, .inr (2, [.ref ga])), (ga, .inl (cI, 21, .inl (fun j => nI ((va_up (pdL (pfL (pfL (va_cpy fx ro 0 0 21) f1R f1C (fmN lv mk) 15) f2R f2C (fmN lv mk) 15) bt dx dy mk k) (dx k) ((pdL (pfL (pfL (va_cpy fx ro 0 0 21) f1R f1C (fmN lv mk) 15) f2R f2C (fmN lv mk) 15) bt dx dy mk k) (dx k) ^^^ 2 ^ (20 - (dy k)))) j)))), (ba, .inl (cI, 26, .inl (fun j => nI (bt j))))] := hD.sub [0, 1, 2, 3, 5, 6, 4] rfl rfl
        refine lv_iinc (k := 7) (v := nI (k + 1)) hx hb d_q_Layout_putDown_112 hl rfl (nx_inc k 1) (Nat.le_of_ble_eq_true rfl) rfl (fun ls hl => ?_)
        have hl : lv_has ls 8 [(6, .int (nI (k + 1))), (7, .int (nI (tnN mk (dx k) (dy k)))), (0, .ref ly), (1, .ref go), (2, .ref ba), (3, .int (nI lv)), (4, .int (nI mk)), (5, .int (nI (fmN lv mk)))] := hl
        refine lv_goto hx hb d_q_Layout_putDown_115 (tgt := 46) rfl ?_
        rw [show va_up (pdL (pfL (pfL (va_cpy fx ro 0 0 21) f1R f1C (fmN lv mk) 15) f2R f2C (fmN lv mk) 15) bt dx dy mk k) (dx k) ((pdL (pfL (pfL (va_cpy fx ro 0 0 21) f1R f1C (fmN lv mk) 15) f2R f2C (fmN lv mk) 15) bt dx dy mk k) (dx k) ^^^ 2 ^ (20 - (dy k))) = pdL (pfL (pfL (va_cpy fx ro 0 0 21) f1R f1C (fmN lv mk) 15) f2R f2C (fmN lv mk) 15) bt dx dy mk (k + 1) from (by first | exact (pdL_t g91).symm | exact (pdL_f g91).symm)] at hP hD
        exact ih (by omega) ls H locs (lv_sub hl [2, 3, 4, 5, 6, 7, 0] rfl) hP hD hS
    · skip
      refine lv_iconst (v := nI 1) hx hb d_q_Layout_putDown_76 (by decide) ?_
      refine lv_goto hx hb d_q_Layout_putDown_77 (tgt := 81) rfl ?_
      refine n_topn (show 1 = tnN mk (dx k) (dy k) from (by omega)) ?_
      refine lv_istore hx hb d_q_Layout_putDown_81 hl (Nat.le_of_ble_eq_true rfl) rfl (fun ls hl => ?_)
      have hl : lv_has ls 8 [(7, .int (nI (tnN mk (dx k) (dy k)))), (0, .ref ly), (1, .ref go), (2, .ref ba), (3, .int (nI lv)), (4, .int (nI mk)), (5, .int (nI (fmN lv mk))), (6, .int (nI k))] := hl
      refine lv_aload_n hx hb d_q_Layout_putDown_83 rfl (lv_at hl 3 rfl) ?_
      refine lv_iload hx hb d_q_Layout_putDown_84 (lv_at hl 7 rfl) ?_
      refine q_readSN (host := "SquareCodes") (n := 2) (As := [.ref ba, .int (nI k)]) (rest := []) (wc := [(ba, .inl (cI, 26, .inl (fun j => nI (bt j))))]) S (c_q_bitOf l D cI cC ba bt k (by omega) hbt) hSt.2.2.1.2.1 hK hP [6] rfl kw_584 kw_1 kw_583 (by decide +kernel) rfl rfl ⟨Nat.le_trans (Nat.le_of_ble_eq_true rfl) hRf, Nat.le_trans (Nat.le_of_ble_eq_true rfl) hRl⟩ rfl hl.1 rfl (Nat.le_of_ble_eq_true rfl) d_q_Layout_putDown_86 hRc hS (fun H locs hP hS => ?_)
      refine lv_iload hx hb d_q_Layout_putDown_89 (lv_at hl 0 rfl) ?_
      refine n_icmp_eq hx hb d_q_Layout_putDown_91 (tgt := 112) rfl (by omega) (by omega) (fun g91 => ?_) (fun g91 => ?_)
      · skip
        refine lv_iinc (k := 7) (v := nI (k + 1)) hx hb d_q_Layout_putDown_112 hl rfl (nx_inc k 1) (Nat.le_of_ble_eq_true rfl) rfl (fun ls hl => ?_)
        have hl : lv_has ls 8 [(6, .int (nI (k + 1))), (7, .int (nI (tnN mk (dx k) (dy k)))), (0, .ref ly), (1, .ref go), (2, .ref ba), (3, .int (nI lv)), (4, .int (nI mk)), (5, .int (nI (fmN lv mk)))] := hl
        refine lv_goto hx hb d_q_Layout_putDown_115 (tgt := 46) rfl ?_
        rw [show pdL (pfL (pfL (va_cpy fx ro 0 0 21) f1R f1C (fmN lv mk) 15) f2R f2C (fmN lv mk) 15) bt dx dy mk k = pdL (pfL (pfL (va_cpy fx ro 0 0 21) f1R f1C (fmN lv mk) 15) f2R f2C (fmN lv mk) 15) bt dx dy mk (k + 1) from (by first | exact (pdL_t g91).symm | exact (pdL_f g91).symm)] at hP hD
        exact ih (by omega) ls H locs (lv_sub hl [2, 3, 4, 5, 6, 7, 0] rfl) hP hD hS
      · skip
        refine lv_aload_n hx hb d_q_Layout_putDown_94 rfl (lv_at hl 2 rfl) ?_
        refine lv_aload_n hx hb d_q_Layout_putDown_95 rfl (lv_at hl 1 rfl) ?_
        refine n_get (C := R_Layout) (T := F_Layout) (N := 3) (v := .ref l2) hx hb hts u_Layout_in hown hK hP 0 rfl rfl 1 (by decide) kw_80 rfl d_q_Layout_putDown_96 ?_
        refine lv_iload hx hb d_q_Layout_putDown_99 (lv_at hl 7 rfl) ?_
        refine n_iald hx hb hK hP 2 0 rfl rfl (by omega) (by decide) d_q_Layout_putDown_101 ?_
        refine lv_aload_n hx hb d_q_Layout_putDown_102 rfl (lv_at hl 1 rfl) ?_
        refine n_get (C := R_Layout) (T := F_Layout) (N := 3) (v := .ref l3) hx hb hts u_Layout_in hown hK hP 0 rfl rfl 2 (by decide) kw_81 rfl d_q_Layout_putDown_103 ?_
        refine lv_iload hx hb d_q_Layout_putDown_106 (lv_at hl 7 rfl) ?_
        refine n_iald hx hb hK hP 3 0 rfl rfl (by omega) (by decide) d_q_Layout_putDown_108 ?_
        refine q_writeVv (n := 2) (As := [.int (nI (dx k)), .int (nI (dy k))]) (rest := []) (wc := [(go, .inr (2, [.ref ga])), (ga, .inl (cI, 21, .inl (fun j => nI ((pdL (pfL (pfL (va_cpy fx ro 0 0 21) f1R f1C (fmN lv mk) 15) f2R f2C (fmN lv mk) 15) bt dx dy mk k) j))))]) (wr := [(ly, .inr (3, [.ref l1, .ref l2, .ref l3])), (l1, .inl (cI, 21, .inl (fun j => nI (fx j)))), (l2, .inl (cI, 208, .inl (fun j => nI (dx j)))), (l3, .inl (cI, 208, .inl (fun j => nI (dy j)))), (ba, .inl (cI, 26, .inl (fun j => nI (bt j))))]) (w1 := [(go, .inr (2, [.ref ga])), (ga, .inl (cI, 21, .inl (fun j => nI ((va_up (pdL (pfL (pfL (va_cpy fx ro 0 0 21) f1R f1C (fmN lv mk) 15) f2R f2C (fmN lv mk) 15) bt dx dy mk k) (dx k) ((pdL (pfL (pfL (va_cpy fx ro 0 0 21) f1R f1C (fmN lv mk) 15) f2R f2C (fmN lv mk) 15) bt dx dy mk k) (dx k) ^^^ 2 ^ (20 - (dy k)))) j))))]) S (c_q_Grid_turnOver l D cI cC go ga (pdL (pfL (pfL (va_cpy fx ro 0 0 21) f1R f1C (fmN lv mk) 15) f2R f2C (fmN lv mk) 15) bt dx dy mk k) (dx k) (dy k) h1 h2 H.size) hK hP hD hA (q0 := 4) rfl rfl [4, 5] [0, 1, 2, 3, 6] rfl rfl rfl rfl (by decide) rfl (q_goodV kw_62 kw_63 kw_64 kw_2 kw_65) (by decide +kernel) rfl rfl rfl ⟨Nat.le_trans (Nat.le_of_ble_eq_true rfl) hRf, Nat.le_trans (Nat.le_of_ble_eq_true rfl) hRl⟩ rfl hl.1 rfl (Nat.le_of_ble_eq_true rfl) d_q_Layout_putDown_109 hRc hS (fun H locs hP hD hS => ?_)
        replace hP : va_P D classes [(ly, .inr (3, [.ref l1, .ref l2, .ref l3])), (l1, .inl (cI, 21, .inl (fun j => nI (fx j)))), (l2, .inl (cI, 208, .inl (fun j => nI (dx j)))), (l3, .inl (cI, 208, .inl (fun j => nI (dy j)))), (go, .inr (2, [.ref ga])), (ga, .inl (cI, 21, .inl (fun j => nI ((va_up (pdL (pfL (pfL (va_cpy fx ro 0 0 21) f1R f1C (fmN lv mk) 15) f2R f2C (fmN lv mk) 15) bt dx dy mk k) (dx k) ((pdL (pfL (pfL (va_cpy fx ro 0 0 21) f1R f1C (fmN lv mk) 15) f2R f2C (fmN lv mk) 15) bt dx dy mk k) (dx k) ^^^ 2 ^ (20 - (dy k)))) j)))), (ba, .inl (cI, 26, .inl (fun j => nI (bt j))))] H := hP.sub [0, 1, 2, 3, 5, 6, 4] rfl
        replace hD : va_D A [(ly, .inr (3, [.ref l1, .ref l2, .ref l3])), (l1, .inl (cI, 21, .inl (fun j => nI (fx j)))), (l2, .inl (cI, 208, .inl (fun j => nI (dx j)))), (l3, .inl (cI, 208, .inl (fun j => nI (dy j)))), (go, .inr (2, [.ref ga])), (ga, .inl (cI, 21, .inl (fun j => nI ((va_up (pdL (pfL (pfL (va_cpy fx ro 0 0 21) f1R f1C (fmN lv mk) 15) f2R f2C (fmN lv mk) 15) bt dx dy mk k) (dx k) ((pdL (pfL (pfL (va_cpy fx ro 0 0 21) f1R f1C (fmN lv mk) 15) f2R f2C (fmN lv mk) 15) bt dx dy mk k) (dx k) ^^^ 2 ^ (20 - (dy k)))) j)))), (ba, .inl (cI, 26, .inl (fun j => nI (bt j))))] := hD.sub [0, 1, 2, 3, 5, 6, 4] rfl rfl
        refine lv_iinc (k := 7) (v := nI (k + 1)) hx hb d_q_Layout_putDown_112 hl rfl (nx_inc k 1) (Nat.le_of_ble_eq_true rfl) rfl (fun ls hl => ?_)
        have hl : lv_has ls 8 [(6, .int (nI (k + 1))), (7, .int (nI (tnN mk (dx k) (dy k)))), (0, .ref ly), (1, .ref go), (2, .ref ba), (3, .int (nI lv)), (4, .int (nI mk)), (5, .int (nI (fmN lv mk)))] := hl
        refine lv_goto hx hb d_q_Layout_putDown_115 (tgt := 46) rfl ?_
        rw [show va_up (pdL (pfL (pfL (va_cpy fx ro 0 0 21) f1R f1C (fmN lv mk) 15) f2R f2C (fmN lv mk) 15) bt dx dy mk k) (dx k) ((pdL (pfL (pfL (va_cpy fx ro 0 0 21) f1R f1C (fmN lv mk) 15) f2R f2C (fmN lv mk) 15) bt dx dy mk k) (dx k) ^^^ 2 ^ (20 - (dy k))) = pdL (pfL (pfL (va_cpy fx ro 0 0 21) f1R f1C (fmN lv mk) 15) f2R f2C (fmN lv mk) 15) bt dx dy mk (k + 1) from (by first | exact (pdL_t g91).symm | exact (pdL_f g91).symm)] at hP hD
        exact ih (by omega) ls H locs (lv_sub hl [2, 3, 4, 5, 6, 7, 0] rfl) hP hD hS
set_option maxHeartbeats 1000000 in
set_option maxRecDepth 100000 in
theorem bd_q_Layout_putDown (cI cC : ClassId) (sa : Nat → Nat) (ly l1 l2 l3 go ga ba lv mk : Nat) (fx dx dy ro bt : Nat → Nat) (hlv : lv < 4) (hmk : mk < 8) (hdx : ∀ j, j < 208 → dx j < 21) (hdy : ∀ j, j < 208 → dy j < 21) (hbt : lt256 26 bt) (S : CallFix p m c b_q_Layout_putDown 8 s args (cd_q_Layout_putDown :: WS) R_Layout) (hRf : 2 ≤ R.frames) (hRl : 81 ≤ R.locals) (hRc : cells ≤ R.cells ∧ slots ≤ R.slots) (hK : va_K D classes [(cI, .int), (cC, .char)] s) (hA : ∀ q, s.heap.size ≤ q → A q) (hSt : SB sa A s s.heap) (kr : ∀ (pc : Nat) (ls : Array Slot) (H : Heap) (locs : List Loc), decode b_q_Layout_putDown pc = .ok (.return_, 1) → va_P D classes [(ly, .inr (3, [.ref l1, .ref l2, .ref l3])), (l1, .inl (cI, 21, .inl (fun j => nI (fx j)))), (l2, .inl (cI, 208, .inl (fun j => nI (dx j)))), (l3, .inl (cI, 208, .inl (fun j => nI (dy j)))), (go, .inr (2, [.ref ga])), (ga, .inl (cI, 21, .inl (fun j => nI ((ptD (va_cpy fx ro 0 0 21) bt dx dy (fmN lv mk) mk) j)))), (ba, .inl (cI, 26, .inl (fun j => nI (bt j))))] H → va_D A [(ly, .inr (3, [.ref l1, .ref l2, .ref l3])), (l1, .inl (cI, 21, .inl (fun j => nI (fx j)))), (l2, .inl (cI, 208, .inl (fun j => nI (dx j)))), (l3, .inl (cI, 208, .inl (fun j => nI (dy j)))), (go, .inr (2, [.ref ga])), (ga, .inl (cI, 21, .inl (fun j => nI ((ptD (va_cpy fx ro 0 0 21) bt dx dy (fmN lv mk) mk) j)))), (ba, .inl (cI, 26, .inl (fun j => nI (bt j))))] → va_S A s.heap H locs → W p l e R s m args below meth c H locs cells slots Q (F0 m pc ls [])) : ∀ (ls : Array Slot) (H : Heap) (locs : List Loc), lv_has ls 8 [(0, .ref ly), (1, .ref go), (2, .ref ba), (3, .int (nI lv)), (4, .int (nI mk))] → va_P D classes [(ly, .inr (3, [.ref l1, .ref l2, .ref l3])), (l1, .inl (cI, 21, .inl (fun j => nI (fx j)))), (l2, .inl (cI, 208, .inl (fun j => nI (dx j)))), (l3, .inl (cI, 208, .inl (fun j => nI (dy j)))), (go, .inr (2, [.ref ga])), (ga, .inl (cI, 21, .inl (fun j => nI (ro j)))), (ba, .inl (cI, 26, .inl (fun j => nI (bt j))))] H → va_D A [(ly, .inr (3, [.ref l1, .ref l2, .ref l3])), (l1, .inl (cI, 21, .inl (fun j => nI (fx j)))), (l2, .inl (cI, 208, .inl (fun j => nI (dx j)))), (l3, .inl (cI, 208, .inl (fun j => nI (dy j)))), (go, .inr (2, [.ref ga])), (ga, .inl (cI, 21, .inl (fun j => nI (ro j)))), (ba, .inl (cI, 26, .inl (fun j => nI (bt j))))] → va_S A s.heap H locs → W p l e R s m args below meth c H locs cells slots Q (F0 m 0 ls []) := by
  obtain ⟨hx, hb, hml, hown, hts⟩ := id S
  intro ls H locs hl hP hD hS
  refine lv_aload_n hx hb d_q_Layout_putDown_0 rfl (lv_at hl 1 rfl) ?_
  refine lv_aload_n hx hb d_q_Layout_putDown_1 rfl (lv_at hl 0 rfl) ?_
  refine n_get (C := R_Layout) (T := F_Layout) (N := 3) (v := .ref l1) hx hb hts u_Layout_in hown hK hP 0 rfl rfl 0 (by decide) kw_79 rfl d_q_Layout_putDown_2 ?_
  refine q_writeVv (n := 1) (As := [.ref l1]) (rest := []) (wc := [(go, .inr (2, [.ref ga])), (ga, .inl (cI, 21, .inl (fun j => nI (ro j)))), (l1, .inl (cI, 21, .inl (fun j => nI (fx j))))]) (wr := [(ly, .inr (3, [.ref l1, .ref l2, .ref l3])), (l2, .inl (cI, 208, .inl (fun j => nI (dx j)))), (l3, .inl (cI, 208, .inl (fun j => nI (dy j)))), (ba, .inl (cI, 26, .inl (fun j => nI (bt j))))]) (w1 := [(go, .inr (2, [.ref ga])), (ga, .inl (cI, 21, .inl (fun j => nI ((va_cpy fx ro 0 0 21) j)))), (l1, .inl (cI, 21, .inl (fun j => nI (fx j))))]) S (c_q_Grid_copyRows l D cI cC go ga ro fx l1 H.size) hK hP hD hA (q0 := 4) rfl rfl [4, 5, 1] [0, 2, 3, 6] rfl rfl rfl rfl (by decide) rfl (q_goodV kw_555 kw_556 kw_557 kw_2 kw_558) (by decide +kernel) rfl rfl rfl ⟨Nat.le_trans (Nat.le_of_ble_eq_true rfl) hRf, Nat.le_trans (Nat.le_of_ble_eq_true rfl) hRl⟩ rfl hl.1 rfl (Nat.le_of_ble_eq_true rfl) d_q_Layout_putDown_5 hRc hS (fun H locs hP hD hS => ?_)
  replace hP : va_P D classes [(ly, .inr (3, [.ref l1, .ref l2, .ref l3])), (l1, .inl (cI, 21, .inl (fun j => nI (fx j)))), (l2, .inl (cI, 208, .inl (fun j => nI (dx j)))), (l3, .inl (cI, 208, .inl (fun j => nI (dy j)))), (go, .inr (2, [.ref ga])), (ga, .inl (cI, 21, .inl (fun j => nI ((va_cpy fx ro 0 0 21) j)))), (ba, .inl (cI, 26, .inl (fun j => nI (bt j))))] H := hP.sub [0, 6, 1, 2, 4, 5, 3] rfl
  replace hD : va_D A [(ly, .inr (3, [.ref l1, .ref l2, .ref l3])), (l1, .inl (cI, 21, .inl (fun j => nI (fx j)))), (l2, .inl (cI, 208, .inl (fun j => nI (dx j)))), (l3, .inl (cI, 208, .inl (fun j => nI (dy j)))), (go, .inr (2, [.ref ga])), (ga, .inl (cI, 21, .inl (fun j => nI ((va_cpy fx ro 0 0 21) j)))), (ba, .inl (cI, 26, .inl (fun j => nI (bt j))))] := hD.sub [0, 6, 1, 2, 4, 5, 3] rfl rfl
  refine lv_iload_n hx hb d_q_Layout_putDown_8 rfl (lv_at hl 3 rfl) ?_
  refine lv_iload hx hb d_q_Layout_putDown_9 (lv_at hl 4 rfl) ?_
  refine q_readSs (n := 2) (As := [.int (nI lv), .int (nI mk)]) (rest := []) (wc := []) S (c_q_Form_numberOf l D cI cC sa lv mk hlv hmk) hSt hK hP [] rfl (q_goodS kw_560 kw_561 kw_25 kw_562) (by decide +kernel) rfl rfl ⟨Nat.le_trans (Nat.le_of_ble_eq_true rfl) hRf, Nat.le_trans (Nat.le_of_ble_eq_true rfl) hRl⟩ rfl hl.1 rfl (Nat.le_of_ble_eq_true rfl) d_q_Layout_putDown_11 hRc hS (fun H locs hP hS => ?_)
  refine q_pureS (n := 1) (As := [.int (nI (lcT lv * 8 + mk))]) (rest := []) S (c_q_Form_bitsOf l (lcT lv * 8 + mk) (fm_swap lv hlv mk hmk).2) (q_goodS kw_565 kw_566 kw_25 kw_567) (by decide +kernel) rfl rfl ⟨Nat.le_trans (Nat.le_of_ble_eq_true rfl) hRf, Nat.le_trans (Nat.le_of_ble_eq_true rfl) hRl⟩ rfl hl.1 rfl (Nat.le_of_ble_eq_true rfl) d_q_Layout_putDown_14 hRc hS (fun H locs hkp hS => ?_)
  replace hP := hP.kept (fun k q hq => hkp q.1 (hP k q hq).lt)
  refine n_topn (show fmW (lcT lv * 8 + mk) = fmN lv mk from (fm_swap lv hlv mk hmk).1) ?_
  refine lv_istore hx hb d_q_Layout_putDown_17 hl (Nat.le_of_ble_eq_true rfl) rfl (fun ls hl => ?_)
  have hl : lv_has ls 8 [(5, .int (nI (fmN lv mk))), (0, .ref ly), (1, .ref go), (2, .ref ba), (3, .int (nI lv)), (4, .int (nI mk))] := hl
  refine lv_aload_n hx hb d_q_Layout_putDown_19 rfl (lv_at hl 2 rfl) ?_
  refine lv_iload hx hb d_q_Layout_putDown_20 (lv_at hl 0 rfl) ?_
  refine n_gets hx hb hts hSt.1.2.2.1.1 hS hown kw_568 d_q_Layout_putDown_22 ?_
  refine n_gets hx hb hts hSt.1.2.2.2.1.1 hS hown kw_570 d_q_Layout_putDown_25 ?_
  refine q_writeSvs (n := 4) (As := [.ref go, .int (nI (fmN lv mk)), .ref (sa 2), .ref (sa 3)]) (rest := []) (wc := [(go, .inr (2, [.ref ga])), (ga, .inl (cI, 21, .inl (fun j => nI ((va_cpy fx ro 0 0 21) j))))]) (wr := [(ly, .inr (3, [.ref l1, .ref l2, .ref l3])), (l1, .inl (cI, 21, .inl (fun j => nI (fx j)))), (l2, .inl (cI, 208, .inl (fun j => nI (dx j)))), (l3, .inl (cI, 208, .inl (fun j => nI (dy j)))), (ba, .inl (cI, 26, .inl (fun j => nI (bt j))))]) (w1 := [(go, .inr (2, [.ref ga])), (ga, .inl (cI, 21, .inl (fun j => nI ((pfL (va_cpy fx ro 0 0 21) f1R f1C (fmN lv mk) 15) j))))]) S (c_q_Layout_putForm_1 l D cI cC sa go ga (va_cpy fx ro 0 0 21) (fmN lv mk) (fmN_lt hlv hmk) H.size) hSt hK hP hD hA [4, 5] [0, 1, 2, 3, 6] rfl rfl rfl rfl (by decide) rfl (q_goodS kw_572 kw_573 kw_3 kw_574) (by decide +kernel) rfl rfl ⟨Nat.le_trans (Nat.le_of_ble_eq_true rfl) hRf, Nat.le_trans (Nat.le_of_ble_eq_true rfl) hRl⟩ rfl hl.1 rfl (Nat.le_of_ble_eq_true rfl) d_q_Layout_putDown_28 hRc hS (fun H locs hP hD hS => ?_)
  replace hP : va_P D classes [(ly, .inr (3, [.ref l1, .ref l2, .ref l3])), (l1, .inl (cI, 21, .inl (fun j => nI (fx j)))), (l2, .inl (cI, 208, .inl (fun j => nI (dx j)))), (l3, .inl (cI, 208, .inl (fun j => nI (dy j)))), (go, .inr (2, [.ref ga])), (ga, .inl (cI, 21, .inl (fun j => nI ((pfL (va_cpy fx ro 0 0 21) f1R f1C (fmN lv mk) 15) j)))), (ba, .inl (cI, 26, .inl (fun j => nI (bt j))))] H := hP.sub [0, 1, 2, 3, 5, 6, 4] rfl
  replace hD : va_D A [(ly, .inr (3, [.ref l1, .ref l2, .ref l3])), (l1, .inl (cI, 21, .inl (fun j => nI (fx j)))), (l2, .inl (cI, 208, .inl (fun j => nI (dx j)))), (l3, .inl (cI, 208, .inl (fun j => nI (dy j)))), (go, .inr (2, [.ref ga])), (ga, .inl (cI, 21, .inl (fun j => nI ((pfL (va_cpy fx ro 0 0 21) f1R f1C (fmN lv mk) 15) j)))), (ba, .inl (cI, 26, .inl (fun j => nI (bt j))))] := hD.sub [0, 1, 2, 3, 5, 6, 4] rfl rfl
  refine lv_aload_n hx hb d_q_Layout_putDown_31 rfl (lv_at hl 2 rfl) ?_
  refine lv_iload hx hb d_q_Layout_putDown_32 (lv_at hl 0 rfl) ?_
  refine n_gets hx hb hts hSt.1.2.2.2.2.1.1 hS hown kw_575 d_q_Layout_putDown_34 ?_
  refine n_gets hx hb hts hSt.1.2.2.2.2.2.1.1 hS hown kw_577 d_q_Layout_putDown_37 ?_
  refine q_writeSvs (n := 4) (As := [.ref go, .int (nI (fmN lv mk)), .ref (sa 4), .ref (sa 5)]) (rest := []) (wc := [(go, .inr (2, [.ref ga])), (ga, .inl (cI, 21, .inl (fun j => nI ((pfL (va_cpy fx ro 0 0 21) f1R f1C (fmN lv mk) 15) j))))]) (wr := [(ly, .inr (3, [.ref l1, .ref l2, .ref l3])), (l1, .inl (cI, 21, .inl (fun j => nI (fx j)))), (l2, .inl (cI, 208, .inl (fun j => nI (dx j)))), (l3, .inl (cI, 208, .inl (fun j => nI (dy j)))), (ba, .inl (cI, 26, .inl (fun j => nI (bt j))))]) (w1 := [(go, .inr (2, [.ref ga])), (ga, .inl (cI, 21, .inl (fun j => nI ((pfL (pfL (va_cpy fx ro 0 0 21) f1R f1C (fmN lv mk) 15) f2R f2C (fmN lv mk) 15) j))))]) S (c_q_Layout_putForm_2 l D cI cC sa go ga (pfL (va_cpy fx ro 0 0 21) f1R f1C (fmN lv mk) 15) (fmN lv mk) (fmN_lt hlv hmk) H.size) hSt hK hP hD hA [4, 5] [0, 1, 2, 3, 6] rfl rfl rfl rfl (by decide) rfl (q_goodS kw_572 kw_573 kw_3 kw_574) (by decide +kernel) rfl rfl ⟨Nat.le_trans (Nat.le_of_ble_eq_true rfl) hRf, Nat.le_trans (Nat.le_of_ble_eq_true rfl) hRl⟩ rfl hl.1 rfl (Nat.le_of_ble_eq_true rfl) d_q_Layout_putDown_40 hRc hS (fun H locs hP hD hS => ?_)
  replace hP : va_P D classes [(ly, .inr (3, [.ref l1, .ref l2, .ref l3])), (l1, .inl (cI, 21, .inl (fun j => nI (fx j)))), (l2, .inl (cI, 208, .inl (fun j => nI (dx j)))), (l3, .inl (cI, 208, .inl (fun j => nI (dy j)))), (go, .inr (2, [.ref ga])), (ga, .inl (cI, 21, .inl (fun j => nI ((pfL (pfL (va_cpy fx ro 0 0 21) f1R f1C (fmN lv mk) 15) f2R f2C (fmN lv mk) 15) j)))), (ba, .inl (cI, 26, .inl (fun j => nI (bt j))))] H := hP.sub [0, 1, 2, 3, 5, 6, 4] rfl
  replace hD : va_D A [(ly, .inr (3, [.ref l1, .ref l2, .ref l3])), (l1, .inl (cI, 21, .inl (fun j => nI (fx j)))), (l2, .inl (cI, 208, .inl (fun j => nI (dx j)))), (l3, .inl (cI, 208, .inl (fun j => nI (dy j)))), (go, .inr (2, [.ref ga])), (ga, .inl (cI, 21, .inl (fun j => nI ((pfL (pfL (va_cpy fx ro 0 0 21) f1R f1C (fmN lv mk) 15) f2R f2C (fmN lv mk) 15) j)))), (ba, .inl (cI, 26, .inl (fun j => nI (bt j))))] := hD.sub [0, 1, 2, 3, 5, 6, 4] rfl rfl
  refine lv_iconst (v := nI 0) hx hb d_q_Layout_putDown_43 (by decide) ?_
  refine lv_istore hx hb d_q_Layout_putDown_44 hl (Nat.le_of_ble_eq_true rfl) rfl (fun ls hl => ?_)
  have hl : lv_has ls 8 [(6, .int (nI 0)), (5, .int (nI (fmN lv mk))), (0, .ref ly), (1, .ref go), (2, .ref ba), (3, .int (nI lv)), (4, .int (nI mk))] := hl
  refine lp_q_Layout_putDown_46 cI cC sa ly l1 l2 l3 go ga ba lv mk fx dx dy ro bt hlv hmk hdx hdy hbt S hRf hRl hRc hK hA hSt  (fun ls H locs hl hP hD hS => ?_) 0 (by omega) ls H locs (lv_sub hl [2, 3, 4, 5, 6, 1, 0] rfl) hP hD hS
  exact kr _ ls H locs d_q_Layout_putDown_118 hP hD hS
set_option maxHeartbeats 1000000 in
set_option maxRecDepth 100000 in
theorem c_q_Layout_putDown (l : Launch) (D : va_G) (cI cC : ClassId) (sa : Nat → Nat) (ly l1 l2 l3 go ga ba lv mk : Nat) (fx dx dy ro bt : Nat → Nat) (hlv : lv < 4) (hmk : mk < 8) (hdx : ∀ j, j < 208 → dx j < 21) (hdy : ∀ j, j < 208 → dy j < 21) (hbt : lt256 26 bt) (sz : Nat) : Met l y_q_Layout_putDown (cd_q_Layout_putDown :: WS) { frames := 2, cells := 0, slots := 0, locals := 81 } (va_Pc [.ref ly, .ref go, .ref ba, .int (nI lv), .int (nI mk)] (swP sa D [(ly, .inr (3, [.ref l1, .ref l2, .ref l3])), (l1, .inl (cI, 21, .inl (fun j => nI (fx j)))), (l2, .inl (cI, 208, .inl (fun j => nI (dx j)))), (l3, .inl (cI, 208, .inl (fun j => nI (dy j)))), (go, .inr (2, [.ref ga])), (ga, .inl (cI, 21, .inl (fun j => nI (ro j)))), (ba, .inl (cI, 26, .inl (fun j => nI (bt j))))] [(cI, .int), (cC, .char)] sz)) (wQv D [(ly, .inr (3, [.ref l1, .ref l2, .ref l3])), (l1, .inl (cI, 21, .inl (fun j => nI (fx j)))), (l2, .inl (cI, 208, .inl (fun j => nI (dx j)))), (l3, .inl (cI, 208, .inl (fun j => nI (dy j)))), (go, .inr (2, [.ref ga])), (ga, .inl (cI, 21, .inl (fun j => nI (ro j)))), (ba, .inl (cI, 26, .inl (fun j => nI (bt j))))] [(ly, .inr (3, [.ref l1, .ref l2, .ref l3])), (l1, .inl (cI, 21, .inl (fun j => nI (fx j)))), (l2, .inl (cI, 208, .inl (fun j => nI (dx j)))), (l3, .inl (cI, 208, .inl (fun j => nI (dy j)))), (go, .inr (2, [.ref ga])), (ga, .inl (cI, 21, .inl (fun j => nI ((ptD (va_cpy fx ro 0 0 21) bt dx dy (fmN lv mk) mk) j)))), (ba, .inl (cI, 26, .inl (fun j => nI (bt j))))] sz) 0 0 (va_A [(ly, .inr (3, [.ref l1, .ref l2, .ref l3])), (l1, .inl (cI, 21, .inl (fun j => nI (fx j)))), (l2, .inl (cI, 208, .inl (fun j => nI (dx j)))), (l3, .inl (cI, 208, .inl (fun j => nI (dy j)))), (go, .inr (2, [.ref ga])), (ga, .inl (cI, 21, .inl (fun j => nI (ro j)))), (ba, .inl (cI, 26, .inl (fun j => nI (bt j))))] sz) := by
  refine Met.ofW (cc := b_q_Layout_putDown) (maxL := 8) (ret := none) (by decide) rfl ?_
  intro p e s m args below meth c s₁ B hml hv0
  obtain ⟨rfl, ⟨hP, hK, hD0, hsz⟩, hSt⟩ := hv0
  have hts := atoms_spec (ws := cd_q_Layout_putDown :: WS) B.pre
  have hown : s.vm.findClass R_Layout = some m.cls := findClass_of_methodNamed B.named
  have hlocks := B.notSynchronized
  subst hsz
  have hD := hD0.self (sz := s.heap.size)
  have hl := lv_entry ([.ref ly, .ref go, .ref ba, .int (nI lv), .int (nI mk)]) (n := 8) (Nat.le_of_ble_eq_true rfl)
  rw [lg_entry_eq]
  generalize (lg_sl ([.ref ly, .ref go, .ref ba, .int (nI lv), .int (nI mk)]) ++ List.replicate (8 - (lg_sl ([.ref ly, .ref go, .ref ba, .int (nI lv), .int (nI mk)])).length) Slot.unset).toArray = ls at hl ⊢
  refine bd_q_Layout_putDown cI cC sa ly l1 l2 l3 go ga ba lv mk fx dx dy ro bt hlv hmk hdx hdy hbt ⟨B.exec, B.bytes, hml, hown, hts⟩ (Nat.le_refl _) (Nat.le_refl _) ⟨Nat.le_refl _, Nat.le_refl _⟩ hK (fun q h => Or.inr h) hSt (fun pc ls H locs hd hP hD hS => ?_) ls _ _ hl hP hD (va_S.rf)
  exact W.vret B.exec B.bytes B.returns (fun t ht _ => ⟨⟨(), rfl, trivial, (by have h9 := hP; rw [← ht] at h9; exact h9)⟩, hS.F ht⟩) hS.2.2 hd
end
section
theorem d_q_bestMask_0 : decode b_q_bestMask 0 = .ok (.iconst 0, 1) := by decide +kernel
theorem d_q_bestMask_1 : decode b_q_bestMask 1 = .ok (.istore_n 2, 1) := by decide +kernel
theorem d_q_bestMask_2 : decode b_q_bestMask 2 = .ok (.iconst 0, 1) := by decide +kernel
theorem d_q_bestMask_3 : decode b_q_bestMask 3 = .ok (.istore_n 3, 1) := by decide +kernel
theorem d_q_bestMask_4 : decode b_q_bestMask 4 = .ok (.iconst 0, 1) := by decide +kernel
theorem d_q_bestMask_5 : decode b_q_bestMask 5 = .ok (.istore 4, 2) := by decide +kernel
theorem d_q_bestMask_7 : decode b_q_bestMask 7 = .ok (.iload 4, 2) := by decide +kernel
theorem d_q_bestMask_9 : decode b_q_bestMask 9 = .ok (.bipush 8, 2) := by decide +kernel
theorem d_q_bestMask_11 : decode b_q_bestMask 11 = .ok (.if_icmp .ge 53, 3) := by decide +kernel
theorem d_q_bestMask_14 : decode b_q_bestMask 14 = .ok (.aload_n 0, 1) := by decide +kernel
theorem d_q_bestMask_15 : decode b_q_bestMask 15 = .ok (.getfield 23, 3) := by decide +kernel
theorem d_q_bestMask_18 : decode b_q_bestMask 18 = .ok (.aload_n 0, 1) := by decide +kernel
theorem d_q_bestMask_19 : decode b_q_bestMask 19 = .ok (.getfield 16, 3) := by decide +kernel
theorem d_q_bestMask_22 : decode b_q_bestMask 22 = .ok (.aload_n 0, 1) := by decide +kernel
theorem d_q_bestMask_23 : decode b_q_bestMask 23 = .ok (.getfield 55, 3) := by decide +kernel
theorem d_q_bestMask_26 : decode b_q_bestMask 26 = .ok (.iload_n 1, 1) := by decide +kernel
theorem d_q_bestMask_27 : decode b_q_bestMask 27 = .ok (.iload 4, 2) := by decide +kernel
theorem d_q_bestMask_29 : decode b_q_bestMask 29 = .ok (.invokevirtual 90, 3) := by decide +kernel
theorem d_q_bestMask_32 : decode b_q_bestMask 32 = .ok (.aload_n 0, 1) := by decide +kernel
theorem d_q_bestMask_33 : decode b_q_bestMask 33 = .ok (.getfield 16, 3) := by decide +kernel
theorem d_q_bestMask_36 : decode b_q_bestMask 36 = .ok (.invokevirtual 115, 3) := by decide +kernel
theorem d_q_bestMask_39 : decode b_q_bestMask 39 = .ok (.istore 5, 2) := by decide +kernel
theorem d_q_bestMask_41 : decode b_q_bestMask 41 = .ok (.iload 4, 2) := by decide +kernel
theorem d_q_bestMask_43 : decode b_q_bestMask 43 = .ok (.ifCond .eq 9, 3) := by decide +kernel
theorem d_q_bestMask_46 : decode b_q_bestMask 46 = .ok (.iload 5, 2) := by decide +kernel
theorem d_q_bestMask_48 : decode b_q_bestMask 48 = .ok (.iload_n 3, 1) := by decide +kernel
theorem d_q_bestMask_49 : decode b_q_bestMask 49 = .ok (.if_icmp .ge 9, 3) := by decide +kernel
theorem d_q_bestMask_52 : decode b_q_bestMask 52 = .ok (.iload 4, 2) := by decide +kernel
theorem d_q_bestMask_54 : decode b_q_bestMask 54 = .ok (.istore_n 2, 1) := by decide +kernel
theorem d_q_bestMask_55 : decode b_q_bestMask 55 = .ok (.iload 5, 2) := by decide +kernel
theorem d_q_bestMask_57 : decode b_q_bestMask 57 = .ok (.istore_n 3, 1) := by decide +kernel
theorem d_q_bestMask_58 : decode b_q_bestMask 58 = .ok (.iinc 4 1, 3) := by decide +kernel
theorem d_q_bestMask_61 : decode b_q_bestMask 61 = .ok (.goto (-54), 3) := by decide +kernel
theorem d_q_bestMask_64 : decode b_q_bestMask 64 = .ok (.iload_n 2, 1) := by decide +kernel
theorem d_q_bestMask_65 : decode b_q_bestMask 65 = .ok (.ireturn, 1) := by decide +kernel
end
section
variable {p : Program} {l : Launch} {e : Env} {R : Room} {s : State} {m : MethodId} {args : Array Value} {below : List Frame} {meth : Method} {c : Code} {cells slots : Nat} {Q : State → Prop} {A : Nat → Prop} {H0 : Heap} {D : va_G}
set_option maxHeartbeats 1000000 in
set_option maxRecDepth 100000 in
theorem lp_q_bestMask_7 (cI cC : ClassId) (qo qt tc co tw td rg : Nat) (sa : Nat → Nat) (ly l1 l2 l3 go ga ba lv : Nat) (fx dx dy ro bt : Nat → Nat) (hlv : lv < 4) (hdx : ∀ j, j < 208 → dx j < 21) (hdy : ∀ j, j < 208 → dy j < 21) (hbt : lt256 26 bt) (hfx : ∀ j, j < 21 → fx j < 2097152) (S : CallFix p m c b_q_bestMask 6 s args (cd_q_bestMask :: WS) R_SquareCodes) (hRf : 3 ≤ R.frames) (hRl : 108 ≤ R.locals) (hRc : cells ≤ R.cells ∧ slots ≤ R.slots) (hK : va_K D classes [(cI, .int), (cC, .char)] s) (hA : ∀ q, s.heap.size ≤ q → A q) (hSt : SB sa A s s.heap) (kx : ∀ (ls : Array Slot) (H : Heap) (locs : List Loc), lv_has ls 6 [(0, .ref qo), (1, .int (nI lv)), (2, .int (nI ((bmC (peF fx bt dx dy lv ro) 8).1))), (3, .int (nI ((bmC (peF fx bt dx dy lv ro) 8).2))), (4, .int (nI 8))] → va_P D classes [(qo, .inr (7, [.ref qt, .int (nI tc), .ref go, .ref ly, .ref co, .ref tw, .ref td, .ref rg, .ref ba])), (ly, .inr (3, [.ref l1, .ref l2, .ref l3])), (l1, .inl (cI, 21, .inl (fun j => nI (fx j)))), (l2, .inl (cI, 208, .inl (fun j => nI (dx j)))), (l3, .inl (cI, 208, .inl (fun j => nI (dy j)))), (go, .inr (2, [.ref ga])), (ga, .inl (cI, 21, .inl (fun j => nI ((pdI fx bt dx dy lv ro 8) j)))), (ba, .inl (cI, 26, .inl (fun j => nI (bt j))))] H → va_D A [(qo, .inr (7, [.ref qt, .int (nI tc), .ref go, .ref ly, .ref co, .ref tw, .ref td, .ref rg, .ref ba])), (ly, .inr (3, [.ref l1, .ref l2, .ref l3])), (l1, .inl (cI, 21, .inl (fun j => nI (fx j)))), (l2, .inl (cI, 208, .inl (fun j => nI (dx j)))), (l3, .inl (cI, 208, .inl (fun j => nI (dy j)))), (go, .inr (2, [.ref ga])), (ga, .inl (cI, 21, .inl (fun j => nI ((pdI fx bt dx dy lv ro 8) j)))), (ba, .inl (cI, 26, .inl (fun j => nI (bt j))))] → va_S A s.heap H locs → W p l e R s m args below meth c H locs cells slots Q (F0 m 64 ls [])) :
    ∀ k, k ≤ 8 → ∀ (ls : Array Slot) (H : Heap) (locs : List Loc), lv_has ls 6 [(0, .ref qo), (1, .int (nI lv)), (2, .int (nI ((bmC (peF fx bt dx dy lv ro) k).1))), (3, .int (nI ((bmC (peF fx bt dx dy lv ro) k).2))), (4, .int (nI k))] → va_P D classes [(qo, .inr (7, [.ref qt, .int (nI tc), .ref go, .ref ly, .ref co, .ref tw, .ref td, .ref rg, .ref ba])), (ly, .inr (3, [.ref l1, .ref l2, .ref l3])), (l1, .inl (cI, 21, .inl (fun j => nI (fx j)))), (l2, .inl (cI, 208, .inl (fun j => nI (dx j)))), (l3, .inl (cI, 208, .inl (fun j => nI (dy j)))), (go, .inr (2, [.ref ga])), (ga, .inl (cI, 21, .inl (fun j => nI ((pdI fx bt dx dy lv ro k) j)))), (ba, .inl (cI, 26, .inl (fun j => nI (bt j))))] H → va_D A [(qo, .inr (7, [.ref qt, .int (nI tc), .ref go, .ref ly, .ref co, .ref tw, .ref td, .ref rg, .ref ba])), (ly, .inr (3, [.ref l1, .ref l2, .ref l3])), (l1, .inl (cI, 21, .inl (fun j => nI (fx j)))), (l2, .inl (cI, 208, .inl (fun j => nI (dx j)))), (l3, .inl (cI, 208, .inl (fun j => nI (dy j)))), (go, .inr (2, [.ref ga])), (ga, .inl (cI, 21, .inl (fun j => nI ((pdI fx bt dx dy lv ro k) j)))), (ba, .inl (cI, 26, .inl (fun j => nI (bt j))))] → va_S A s.heap H locs → W p l e R s m args below meth c H locs cells slots Q (F0 m 7 ls []) := by
  obtain ⟨hx, hb, hml, hown, hts⟩ := id S
  refine up_loop (fun k hkk ih => ?_)
  intro ls H locs hl hP hD hS
  have hpf := peF_b fx bt dx dy lv ro k
  have hbc := bmC_b (peF_b fx bt dx dy lv ro) k
  refine lv_iload hx hb d_q_bestMask_7 (lv_at hl 4 rfl) ?_
  refine lv_bipush (v := nI 8) hx hb d_q_bestMask_9 (by decide) ?_
  refine n_icmp_ge hx hb d_q_bestMask_11 (tgt := 64) rfl (by omega) (by omega) (fun g11 => ?_) (fun g11 => ?_)
  · skip
    obtain rfl : k = 8 := by omega
    exact kx ls H locs (lv_sub hl [0, 1, 2, 3, 4] rfl) hP hD hS
  · skip
    refine lv_aload_n hx hb d_q_bestMask_14 rfl (lv_at hl 0 rfl) ?_
    refine n_get (C := R_SquareCodes) (T := F_SquareCodes) (N := 9) (v := .ref ly) hx hb hts u_SquareCodes_in hown hK hP 0 rfl rfl 3 (by decide) kw_187 rfl d_q_bestMask_15 ?_
    refine lv_aload_n hx hb d_q_bestMask_18 rfl (lv_at hl 0 rfl) ?_
    refine n_get (C := R_SquareCodes) (T := F_SquareCodes) (N := 9) (v := .ref go) hx hb hts u_SquareCodes_in hown hK hP 0 rfl rfl 2 (by decide) kw_186 rfl d_q_bestMask_19 ?_
    refine lv_aload_n hx hb d_q_bestMask_22 rfl (lv_at hl 0 rfl) ?_
    refine n_get (C := R_SquareCodes) (T := F_SquareCodes) (N := 9) (v := .ref ba) hx hb hts u_SquareCodes_in hown hK hP 0 rfl rfl 8 (by decide) kw_192 rfl d_q_bestMask_23 ?_
    refine lv_iload_n hx hb d_q_bestMask_26 rfl (lv_at hl 1 rfl) ?_
    refine lv_iload hx hb d_q_bestMask_27 (lv_at hl 4 rfl) ?_
    refine q_writeVvs (n := 4) (As := [.ref go, .ref ba, .int (nI lv), .int (nI k)]) (rest := []) (wc := [(ly, .inr (3, [.ref l1, .ref l2, .ref l3])), (l1, .inl (cI, 21, .inl (fun j => nI (fx j)))), (l2, .inl (cI, 208, .inl (fun j => nI (dx j)))), (l3, .inl (cI, 208, .inl (fun j => nI (dy j)))), (go, .inr (2, [.ref ga])), (ga, .inl (cI, 21, .inl (fun j => nI ((pdI fx bt dx dy lv ro k) j)))), (ba, .inl (cI, 26, .inl (fun j => nI (bt j))))]) (wr := [(qo, .inr (7, [.ref qt, .int (nI tc), .ref go, .ref ly, .ref co, .ref tw, .ref td, .ref rg, .ref ba]))]) (w1 := [(ly, .inr (3, [.ref l1, .ref l2, .ref l3])), (l1, .inl (cI, 21, .inl (fun j => nI (fx j)))), (l2, .inl (cI, 208, .inl (fun j => nI (dx j)))), (l3, .inl (cI, 208, .inl (fun j => nI (dy j)))), (go, .inr (2, [.ref ga])), (ga, .inl (cI, 21, .inl (fun j => nI ((ptD (va_cpy fx (pdI fx bt dx dy lv ro k) 0 0 21) bt dx dy (fmN lv k) k) j)))), (ba, .inl (cI, 26, .inl (fun j => nI (bt j))))]) S (c_q_Layout_putDown l D cI cC sa ly l1 l2 l3 go ga ba lv k fx dx dy (pdI fx bt dx dy lv ro k) bt hlv (by omega) hdx hdy hbt H.size) hSt hK hP hD hA (q0 := 1) rfl rfl [1, 2, 3, 4, 5, 6, 7] [0] rfl rfl rfl rfl (by decide) rfl (q_goodV kw_551 kw_552 kw_553 kw_3 kw_554) (by decide +kernel) rfl rfl rfl ⟨Nat.le_trans (Nat.le_of_ble_eq_true rfl) hRf, Nat.le_trans (Nat.le_of_ble_eq_true rfl) hRl⟩ rfl hl.1 rfl (Nat.le_of_ble_eq_true rfl) d_q_bestMask_29 hRc hS (fun H locs hP hD hS => ?_)
    replace hP : va_P D classes [(qo, .inr (7, [.ref qt, .int (nI tc), .ref go, .ref ly, .ref co, .ref tw, .ref td, .ref rg, .ref ba])), (ly, .inr (3, [.ref l1, .ref l2, .ref l3])), (l1, .inl (cI, 21, .inl (fun j => nI (fx j)))), (l2, .inl (cI, 208, .inl (fun j => nI (dx j)))), (l3, .inl (cI, 208, .inl (fun j => nI (dy j)))), (go, .inr (2, [.ref ga])), (ga, .inl (cI, 21, .inl (fun j => nI ((ptD (va_cpy fx (pdI fx bt dx dy lv ro k) 0 0 21) bt dx dy (fmN lv k) k) j)))), (ba, .inl (cI, 26, .inl (fun j => nI (bt j))))] H := hP.sub [0, 1, 2, 3, 4, 5, 6, 7] rfl
    replace hD : va_D A [(qo, .inr (7, [.ref qt, .int (nI tc), .ref go, .ref ly, .ref co, .ref tw, .ref td, .ref rg, .ref ba])), (ly, .inr (3, [.ref l1, .ref l2, .ref l3])), (l1, .inl (cI, 21, .inl (fun j => nI (fx j)))), (l2, .inl (cI, 208, .inl (fun j => nI (dx j)))), (l3, .inl (cI, 208, .inl (fun j => nI (dy j)))), (go, .inr (2, [.ref ga])), (ga, .inl (cI, 21, .inl (fun j => nI ((ptD (va_cpy fx (pdI fx bt dx dy lv ro k) 0 0 21) bt dx dy (fmN lv k) k) j)))), (ba, .inl (cI, 26, .inl (fun j => nI (bt j))))] := hD.sub [0, 1, 2, 3, 4, 5, 6, 7] rfl rfl
    refine lv_aload_n hx hb d_q_bestMask_32 rfl (lv_at hl 0 rfl) ?_
    refine n_get (C := R_SquareCodes) (T := F_SquareCodes) (N := 9) (v := .ref go) hx hb hts u_SquareCodes_in hown hK hP 0 rfl rfl 2 (by decide) kw_186 rfl d_q_bestMask_33 ?_
    refine q_readV (n := 0) (As := []) (rest := []) (wc := [(go, .inr (2, [.ref ga])), (ga, .inl (cI, 21, .inl (fun j => nI ((ptD (va_cpy fx (pdI fx bt dx dy lv ro k) 0 0 21) bt dx dy (fmN lv k) k) j))))]) S (c_q_Grid_penalty l D cI cC go ga (ptD (va_cpy fx (pdI fx bt dx dy lv ro k) 0 0 21) bt dx dy (fmN lv k) k) (ptD_lt (cpy_lt hfx) hdx)) hK hP (q0 := 5) rfl rfl [5, 6] rfl (q_goodV kw_239 kw_240 kw_241 kw_2 kw_242) (by decide +kernel) rfl rfl rfl ⟨Nat.le_trans (Nat.le_of_ble_eq_true rfl) hRf, Nat.le_trans (Nat.le_of_ble_eq_true rfl) hRl⟩ rfl hl.1 rfl (Nat.le_of_ble_eq_true rfl) d_q_bestMask_36 hRc hS (fun H locs hP hS => ?_)
    refine n_topn (show peN (ptD (va_cpy fx (pdI fx bt dx dy lv ro k) 0 0 21) bt dx dy (fmN lv k) k) 21 = peF fx bt dx dy lv ro k from rfl) ?_
    refine lv_istore hx hb d_q_bestMask_39 hl (Nat.le_of_ble_eq_true rfl) rfl (fun ls hl => ?_)
    have hl : lv_has ls 6 [(5, .int (nI (peF fx bt dx dy lv ro k))), (0, .ref qo), (1, .int (nI lv)), (2, .int (nI ((bmC (peF fx bt dx dy lv ro) k).1))), (3, .int (nI ((bmC (peF fx bt dx dy lv ro) k).2))), (4, .int (nI k))] := hl
    refine lv_iload hx hb d_q_bestMask_41 (lv_at hl 5 rfl) ?_
    refine n_if_eq hx hb d_q_bestMask_43 (tgt := 52) rfl (by omega) (fun g43 => ?_) (fun g43 => ?_)
    · skip
      refine lv_iload hx hb d_q_bestMask_52 (lv_at hl 5 rfl) ?_
      refine n_topn (show k = (bmC (peF fx bt dx dy lv ro) (k + 1)).1 from (by first | exact (congrArg Prod.fst (bmC_t (f := (peF fx bt dx dy lv ro)) (Or.inl g43))).symm | exact (congrArg Prod.fst (bmC_t (f := (peF fx bt dx dy lv ro)) (Or.inr g49))).symm)) ?_
      refine lv_istore_n hx hb d_q_bestMask_54 rfl hl (Nat.le_of_ble_eq_true rfl) rfl (fun ls hl => ?_)
      have hl : lv_has ls 6 [(2, .int (nI ((bmC (peF fx bt dx dy lv ro) (k + 1)).1))), (5, .int (nI (peF fx bt dx dy lv ro k))), (0, .ref qo), (1, .int (nI lv)), (3, .int (nI ((bmC (peF fx bt dx dy lv ro) k).2))), (4, .int (nI k))] := hl
      refine lv_iload hx hb d_q_bestMask_55 (lv_at hl 1 rfl) ?_
      refine n_topn (show peF fx bt dx dy lv ro k = (bmC (peF fx bt dx dy lv ro) (k + 1)).2 from (by first | exact (congrArg Prod.snd (bmC_t (f := (peF fx bt dx dy lv ro)) (Or.inl g43))).symm | exact (congrArg Prod.snd (bmC_t (f := (peF fx bt dx dy lv ro)) (Or.inr g49))).symm)) ?_
      refine lv_istore_n hx hb d_q_bestMask_57 rfl hl (Nat.le_of_ble_eq_true rfl) rfl (fun ls hl => ?_)
      have hl : lv_has ls 6 [(3, .int (nI ((bmC (peF fx bt dx dy lv ro) (k + 1)).2))), (2, .int (nI ((bmC (peF fx bt dx dy lv ro) (k + 1)).1))), (5, .int (nI (peF fx bt dx dy lv ro k))), (0, .ref qo), (1, .int (nI lv)), (4, .int (nI k))] := hl
      refine lv_iinc (k := 5) (v := nI (k + 1)) hx hb d_q_bestMask_58 hl rfl (nx_inc k 1) (Nat.le_of_ble_eq_true rfl) rfl (fun ls hl => ?_)
      have hl : lv_has ls 6 [(4, .int (nI (k + 1))), (3, .int (nI ((bmC (peF fx bt dx dy lv ro) (k + 1)).2))), (2, .int (nI ((bmC (peF fx bt dx dy lv ro) (k + 1)).1))), (5, .int (nI (peF fx bt dx dy lv ro k))), (0, .ref qo), (1, .int (nI lv))] := hl
      refine lv_goto hx hb d_q_bestMask_61 (tgt := 7) rfl ?_
      rw [show ptD (va_cpy fx (pdI fx bt dx dy lv ro k) 0 0 21) bt dx dy (fmN lv k) k = pdI fx bt dx dy lv ro (k + 1) from rfl] at hP hD
      exact ih (by omega) ls H locs (lv_sub hl [4, 5, 2, 1, 0] rfl) hP hD hS
    · skip
      refine lv_iload hx hb d_q_bestMask_46 (lv_at hl 0 rfl) ?_
      refine lv_iload_n hx hb d_q_bestMask_48 rfl (lv_at hl 4 rfl) ?_
      refine n_icmp_ge hx hb d_q_bestMask_49 (tgt := 58) rfl (by omega) (by omega) (fun g49 => ?_) (fun g49 => ?_)
      · skip
        refine lv_iinc (k := 5) (v := nI (k + 1)) hx hb d_q_bestMask_58 hl rfl (nx_inc k 1) (Nat.le_of_ble_eq_true rfl) rfl (fun ls hl => ?_)
        have hl : lv_has ls 6 [(4, .int (nI (k + 1))), (5, .int (nI (peF fx bt dx dy lv ro k))), (0, .ref qo), (1, .int (nI lv)), (2, .int (nI ((bmC (peF fx bt dx dy lv ro) k).1))), (3, .int (nI ((bmC (peF fx bt dx dy lv ro) k).2)))] := hl
        refine lv_goto hx hb d_q_bestMask_61 (tgt := 7) rfl ?_
        have qb2 : (bmC (peF fx bt dx dy lv ro) k).1 = (bmC (peF fx bt dx dy lv ro) (k + 1)).1 := (congrArg Prod.fst (bmC_f (f := (peF fx bt dx dy lv ro)) g43 g49)).symm
        have qb3 : (bmC (peF fx bt dx dy lv ro) k).2 = (bmC (peF fx bt dx dy lv ro) (k + 1)).2 := (congrArg Prod.snd (bmC_f (f := (peF fx bt dx dy lv ro)) g43 g49)).symm
        rw [show ptD (va_cpy fx (pdI fx bt dx dy lv ro k) 0 0 21) bt dx dy (fmN lv k) k = pdI fx bt dx dy lv ro (k + 1) from rfl] at hP hD
        exact ih (by omega) ls H locs (lv_re (l := [(0, .ref qo), (1, .int (nI lv)), (2, .int (nI ((bmC (peF fx bt dx dy lv ro) k).1))), (3, .int (nI ((bmC (peF fx bt dx dy lv ro) k).2))), (4, .int (nI (k + 1)))]) (lv_sub hl [2, 3, 4, 5, 0] rfl) (by rw [qb2, qb3])) hP hD hS
      · skip
        refine lv_iload hx hb d_q_bestMask_52 (lv_at hl 5 rfl) ?_
        refine n_topn (show k = (bmC (peF fx bt dx dy lv ro) (k + 1)).1 from (by first | exact (congrArg Prod.fst (bmC_t (f := (peF fx bt dx dy lv ro)) (Or.inl g43))).symm | exact (congrArg Prod.fst (bmC_t (f := (peF fx bt dx dy lv ro)) (Or.inr g49))).symm)) ?_
        refine lv_istore_n hx hb d_q_bestMask_54 rfl hl (Nat.le_of_ble_eq_true rfl) rfl (fun ls hl => ?_)
        have hl : lv_has ls 6 [(2, .int (nI ((bmC (peF fx bt dx dy lv ro) (k + 1)).1))), (5, .int (nI (peF fx bt dx dy lv ro k))), (0, .ref qo), (1, .int (nI lv)), (3, .int (nI ((bmC (peF fx bt dx dy lv ro) k).2))), (4, .int (nI k))] := hl
        refine lv_iload hx hb d_q_bestMask_55 (lv_at hl 1 rfl) ?_
        refine n_topn (show peF fx bt dx dy lv ro k = (bmC (peF fx bt dx dy lv ro) (k + 1)).2 from (by first | exact (congrArg Prod.snd (bmC_t (f := (peF fx bt dx dy lv ro)) (Or.inl g43))).symm | exact (congrArg Prod.snd (bmC_t (f := (peF fx bt dx dy lv ro)) (Or.inr g49))).symm)) ?_
        refine lv_istore_n hx hb d_q_bestMask_57 rfl hl (Nat.le_of_ble_eq_true rfl) rfl (fun ls hl => ?_)
        have hl : lv_has ls 6 [(3, .int (nI ((bmC (peF fx bt dx dy lv ro) (k + 1)).2))), (2, .int (nI ((bmC (peF fx bt dx dy lv ro) (k + 1)).1))), (5, .int (nI (peF fx bt dx dy lv ro k))), (0, .ref qo), (1, .int (nI lv)), (4, .int (nI k))] := hl
        refine lv_iinc (k := 5) (v := nI (k + 1)) hx hb d_q_bestMask_58 hl rfl (nx_inc k 1) (Nat.le_of_ble_eq_true rfl) rfl (fun ls hl => ?_)
        have hl : lv_has ls 6 [(4, .int (nI (k + 1))), (3, .int (nI ((bmC (peF fx bt dx dy lv ro) (k + 1)).2))), (2, .int (nI ((bmC (peF fx bt dx dy lv ro) (k + 1)).1))), (5, .int (nI (peF fx bt dx dy lv ro k))), (0, .ref qo), (1, .int (nI lv))] := hl
        refine lv_goto hx hb d_q_bestMask_61 (tgt := 7) rfl ?_
        rw [show ptD (va_cpy fx (pdI fx bt dx dy lv ro k) 0 0 21) bt dx dy (fmN lv k) k = pdI fx bt dx dy lv ro (k + 1) from rfl] at hP hD
        exact ih (by omega) ls H locs (lv_sub hl [4, 5, 2, 1, 0] rfl) hP hD hS
set_option maxHeartbeats 1000000 in
set_option maxRecDepth 100000 in
theorem bd_q_bestMask (cI cC : ClassId) (qo qt tc co tw td rg : Nat) (sa : Nat → Nat) (ly l1 l2 l3 go ga ba lv : Nat) (fx dx dy ro bt : Nat → Nat) (hlv : lv < 4) (hdx : ∀ j, j < 208 → dx j < 21) (hdy : ∀ j, j < 208 → dy j < 21) (hbt : lt256 26 bt) (hfx : ∀ j, j < 21 → fx j < 2097152) (S : CallFix p m c b_q_bestMask 6 s args (cd_q_bestMask :: WS) R_SquareCodes) (hRf : 3 ≤ R.frames) (hRl : 108 ≤ R.locals) (hRc : cells ≤ R.cells ∧ slots ≤ R.slots) (hK : va_K D classes [(cI, .int), (cC, .char)] s) (hA : ∀ q, s.heap.size ≤ q → A q) (hSt : SB sa A s s.heap) (kr : ∀ (pc : Nat) (ls : Array Slot) (H : Heap) (locs : List Loc), decode b_q_bestMask pc = .ok (.ireturn, 1) → va_P D classes [(qo, .inr (7, [.ref qt, .int (nI tc), .ref go, .ref ly, .ref co, .ref tw, .ref td, .ref rg, .ref ba])), (ly, .inr (3, [.ref l1, .ref l2, .ref l3])), (l1, .inl (cI, 21, .inl (fun j => nI (fx j)))), (l2, .inl (cI, 208, .inl (fun j => nI (dx j)))), (l3, .inl (cI, 208, .inl (fun j => nI (dy j)))), (go, .inr (2, [.ref ga])), (ga, .inl (cI, 21, .inl (fun j => nI ((pdI fx bt dx dy lv ro 8) j)))), (ba, .inl (cI, 26, .inl (fun j => nI (bt j))))] H → va_D A [(qo, .inr (7, [.ref qt, .int (nI tc), .ref go, .ref ly, .ref co, .ref tw, .ref td, .ref rg, .ref ba])), (ly, .inr (3, [.ref l1, .ref l2, .ref l3])), (l1, .inl (cI, 21, .inl (fun j => nI (fx j)))), (l2, .inl (cI, 208, .inl (fun j => nI (dx j)))), (l3, .inl (cI, 208, .inl (fun j => nI (dy j)))), (go, .inr (2, [.ref ga])), (ga, .inl (cI, 21, .inl (fun j => nI ((pdI fx bt dx dy lv ro 8) j)))), (ba, .inl (cI, 26, .inl (fun j => nI (bt j))))] → va_S A s.heap H locs → W p l e R s m args below meth c H locs cells slots Q (F0 m pc ls [.int (nI ((bmC (peF fx bt dx dy lv ro) 8).1))])) : ∀ (ls : Array Slot) (H : Heap) (locs : List Loc), lv_has ls 6 [(0, .ref qo), (1, .int (nI lv))] → va_P D classes [(qo, .inr (7, [.ref qt, .int (nI tc), .ref go, .ref ly, .ref co, .ref tw, .ref td, .ref rg, .ref ba])), (ly, .inr (3, [.ref l1, .ref l2, .ref l3])), (l1, .inl (cI, 21, .inl (fun j => nI (fx j)))), (l2, .inl (cI, 208, .inl (fun j => nI (dx j)))), (l3, .inl (cI, 208, .inl (fun j => nI (dy j)))), (go, .inr (2, [.ref ga])), (ga, .inl (cI, 21, .inl (fun j => nI (ro j)))), (ba, .inl (cI, 26, .inl (fun j => nI (bt j))))] H → va_D A [(qo, .inr (7, [.ref qt, .int (nI tc), .ref go, .ref ly, .ref co, .ref tw, .ref td, .ref rg, .ref ba])), (ly, .inr (3, [.ref l1, .ref l2, .ref l3])), (l1, .inl (cI, 21, .inl (fun j => nI (fx j)))), (l2, .inl (cI, 208, .inl (fun j => nI (dx j)))), (l3, .inl (cI, 208, .inl (fun j => nI (dy j)))), (go, .inr (2, [.ref ga])), (ga, .inl (cI, 21, .inl (fun j => nI (ro j)))), (ba, .inl (cI, 26, .inl (fun j => nI (bt j))))] → va_S A s.heap H locs → W p l e R s m args below meth c H locs cells slots Q (F0 m 0 ls []) := by
  obtain ⟨hx, hb, hml, hown, hts⟩ := id S
  intro ls H locs hl hP hD hS
  refine lv_iconst (v := nI 0) hx hb d_q_bestMask_0 (by decide) ?_
  refine lv_istore_n hx hb d_q_bestMask_1 rfl hl (Nat.le_of_ble_eq_true rfl) rfl (fun ls hl => ?_)
  have hl : lv_has ls 6 [(2, .int (nI 0)), (0, .ref qo), (1, .int (nI lv))] := hl
  refine lv_iconst (v := nI 0) hx hb d_q_bestMask_2 (by decide) ?_
  refine lv_istore_n hx hb d_q_bestMask_3 rfl hl (Nat.le_of_ble_eq_true rfl) rfl (fun ls hl => ?_)
  have hl : lv_has ls 6 [(3, .int (nI 0)), (2, .int (nI 0)), (0, .ref qo), (1, .int (nI lv))] := hl
  refine lv_iconst (v := nI 0) hx hb d_q_bestMask_4 (by decide) ?_
  refine lv_istore hx hb d_q_bestMask_5 hl (Nat.le_of_ble_eq_true rfl) rfl (fun ls hl => ?_)
  have hl : lv_has ls 6 [(4, .int (nI 0)), (3, .int (nI 0)), (2, .int (nI 0)), (0, .ref qo), (1, .int (nI lv))] := hl
  refine lp_q_bestMask_7 cI cC qo qt tc co tw td rg sa ly l1 l2 l3 go ga ba lv fx dx dy ro bt hlv hdx hdy hbt hfx S hRf hRl hRc hK hA hSt  (fun ls H locs hl hP hD hS => ?_) 0 (by omega) ls H locs (lv_sub hl [3, 4, 2, 1, 0] rfl) hP hD hS
  refine lv_iload_n hx hb d_q_bestMask_64 rfl (lv_at hl 2 rfl) ?_
  exact kr _ ls H locs d_q_bestMask_65 hP hD hS
set_option maxHeartbeats 1000000 in
set_option maxRecDepth 100000 in
theorem c_q_bestMask (l : Launch) (D : va_G) (cI cC : ClassId) (qo qt tc co tw td rg : Nat) (sa : Nat → Nat) (ly l1 l2 l3 go ga ba lv : Nat) (fx dx dy ro bt : Nat → Nat) (hlv : lv < 4) (hdx : ∀ j, j < 208 → dx j < 21) (hdy : ∀ j, j < 208 → dy j < 21) (hbt : lt256 26 bt) (hfx : ∀ j, j < 21 → fx j < 2097152) (sz : Nat) : Met l y_q_bestMask (cd_q_bestMask :: WS) { frames := 3, cells := 0, slots := 0, locals := 108 } (va_Pc [.ref qo, .int (nI lv)] (swP sa D [(qo, .inr (7, [.ref qt, .int (nI tc), .ref go, .ref ly, .ref co, .ref tw, .ref td, .ref rg, .ref ba])), (ly, .inr (3, [.ref l1, .ref l2, .ref l3])), (l1, .inl (cI, 21, .inl (fun j => nI (fx j)))), (l2, .inl (cI, 208, .inl (fun j => nI (dx j)))), (l3, .inl (cI, 208, .inl (fun j => nI (dy j)))), (go, .inr (2, [.ref ga])), (ga, .inl (cI, 21, .inl (fun j => nI (ro j)))), (ba, .inl (cI, 26, .inl (fun j => nI (bt j))))] [(cI, .int), (cC, .char)] sz)) (wQi D (nI ((bmC (peF fx bt dx dy lv ro) 8).1)) [(qo, .inr (7, [.ref qt, .int (nI tc), .ref go, .ref ly, .ref co, .ref tw, .ref td, .ref rg, .ref ba])), (ly, .inr (3, [.ref l1, .ref l2, .ref l3])), (l1, .inl (cI, 21, .inl (fun j => nI (fx j)))), (l2, .inl (cI, 208, .inl (fun j => nI (dx j)))), (l3, .inl (cI, 208, .inl (fun j => nI (dy j)))), (go, .inr (2, [.ref ga])), (ga, .inl (cI, 21, .inl (fun j => nI (ro j)))), (ba, .inl (cI, 26, .inl (fun j => nI (bt j))))] [(qo, .inr (7, [.ref qt, .int (nI tc), .ref go, .ref ly, .ref co, .ref tw, .ref td, .ref rg, .ref ba])), (ly, .inr (3, [.ref l1, .ref l2, .ref l3])), (l1, .inl (cI, 21, .inl (fun j => nI (fx j)))), (l2, .inl (cI, 208, .inl (fun j => nI (dx j)))), (l3, .inl (cI, 208, .inl (fun j => nI (dy j)))), (go, .inr (2, [.ref ga])), (ga, .inl (cI, 21, .inl (fun j => nI ((pdI fx bt dx dy lv ro 8) j)))), (ba, .inl (cI, 26, .inl (fun j => nI (bt j))))] sz) 0 0 (va_A [(qo, .inr (7, [.ref qt, .int (nI tc), .ref go, .ref ly, .ref co, .ref tw, .ref td, .ref rg, .ref ba])), (ly, .inr (3, [.ref l1, .ref l2, .ref l3])), (l1, .inl (cI, 21, .inl (fun j => nI (fx j)))), (l2, .inl (cI, 208, .inl (fun j => nI (dx j)))), (l3, .inl (cI, 208, .inl (fun j => nI (dy j)))), (go, .inr (2, [.ref ga])), (ga, .inl (cI, 21, .inl (fun j => nI (ro j)))), (ba, .inl (cI, 26, .inl (fun j => nI (bt j))))] sz) := by
  refine Met.ofW (cc := b_q_bestMask) (maxL := 6) (ret := (some .int)) (by decide) rfl ?_
  intro p e s m args below meth c s₁ B hml hv0
  obtain ⟨rfl, ⟨hP, hK, hD0, hsz⟩, hSt⟩ := hv0
  have hts := atoms_spec (ws := cd_q_bestMask :: WS) B.pre
  have hown : s.vm.findClass R_SquareCodes = some m.cls := findClass_of_methodNamed B.named
  have hlocks := B.notSynchronized
  subst hsz
  have hD := hD0.self (sz := s.heap.size)
  have hl := lv_entry ([.ref qo, .int (nI lv)]) (n := 6) (Nat.le_of_ble_eq_true rfl)
  rw [lg_entry_eq]
  generalize (lg_sl ([.ref qo, .int (nI lv)]) ++ List.replicate (6 - (lg_sl ([.ref qo, .int (nI lv)])).length) Slot.unset).toArray = ls at hl ⊢
  refine bd_q_bestMask cI cC qo qt tc co tw td rg sa ly l1 l2 l3 go ga ba lv fx dx dy ro bt hlv hdx hdy hbt hfx ⟨B.exec, B.bytes, hml, hown, hts⟩ (Nat.le_refl _) (Nat.le_refl _) ⟨Nat.le_refl _, Nat.le_refl _⟩ hK (fun q h => Or.inr h) hSt (fun pc ls H locs hd hP hD hS => ?_) ls _ _ hl hP hD (va_S.rf)
  exact W.iret B.exec B.bytes B.returns (fun t ht _ => ⟨⟨_, (), rfl, rfl, (by have h9 := hP; rw [← ht] at h9; exact h9)⟩, hS.F ht⟩) hS.2.2 hd
end
