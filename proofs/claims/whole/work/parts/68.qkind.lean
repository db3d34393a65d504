theorem kw_411 : (Jvm.Cond.fieldLink "java/lang/String" (38 : Nat) "java/lang/String" "COMPACT_STRINGS" "Z") ∈ WS := WS_tbl 411 (by decide +kernel) rfl
theorem kw_1009 : (Jvm.Cond.fieldLink "java/lang/String" (15 : Nat) "java/lang/String" "coder" "B") ∈ WS := WS_tbl 1009 (by decide +kernel) rfl
theorem kw_1010 : (Jvm.Cond.fieldLink "java/lang/String" (9 : Nat) "java/lang/String" "value" "[B") ∈ WS := WS_tbl 1010 (by decide +kernel) rfl
theorem kw_417 : (Jvm.Cond.methodLink "java/lang/String" (335 : Nat) ({ cls := "java/lang/String", name := "coder", desc := "()B" } : Jvm.MethodName)) ∈ WS := WS_tbl 417 (by decide +kernel) rfl
theorem kw_418 : (Jvm.Cond.instanceMethod ({ cls := "java/lang/String", name := "coder", desc := "()B" } : Jvm.MethodName)) ∈ WS := WS_tbl 418 (by decide +kernel) rfl
theorem kw_419 : (Jvm.Cond.selects "java/lang/String" ({ cls := "java/lang/String", name := "coder", desc := "()B" } : Jvm.MethodName) ({ cls := "java/lang/String", name := "coder", desc := "()B" } : Jvm.MethodName)) ∈ WS := WS_tbl 419 (by decide +kernel) rfl
theorem kw_17 : (Jvm.Cond.initialized "java/lang/String") ∈ WS := WS_tbl 17 (by decide +kernel) rfl
set_option maxRecDepth 1000000 in
theorem kw_420 : cd_j_String_coder_x2 ∈ WS := WS_tbl 420 rfl rfl
theorem kw_424 : (Jvm.Cond.methodLink "java/lang/StringLatin1" (88 : Nat) ({ cls := "java/lang/StringLatin1", name := "canEncode", desc := "(I)Z" } : Jvm.MethodName)) ∈ WS := WS_tbl 424 (by decide +kernel) rfl
theorem kw_425 : (Jvm.Cond.static ({ cls := "java/lang/StringLatin1", name := "canEncode", desc := "(I)Z" } : Jvm.MethodName)) ∈ WS := WS_tbl 425 (by decide +kernel) rfl
theorem kw_18 : (Jvm.Cond.initialized "java/lang/StringLatin1") ∈ WS := WS_tbl 18 (by decide +kernel) rfl
set_option maxRecDepth 1000000 in
theorem kw_426 : cd_j_StringLatin1_canEncode ∈ WS := WS_tbl 426 rfl rfl
theorem kw_427 : (Jvm.Cond.methodLink "java/lang/StringLatin1" (92 : Nat) ({ cls := "java/lang/Math", name := "max", desc := "(II)I" } : Jvm.MethodName)) ∈ WS := WS_tbl 427 (by decide +kernel) rfl
theorem kw_428 : (Jvm.Cond.static ({ cls := "java/lang/Math", name := "max", desc := "(II)I" } : Jvm.MethodName)) ∈ WS := WS_tbl 428 (by decide +kernel) rfl
set_option maxRecDepth 1000000 in
theorem kw_429 : cd_j_Math_max_x4 ∈ WS := WS_tbl 429 rfl rfl
theorem kw_430 : (Jvm.Cond.methodLink "java/lang/StringLatin1" (38 : Nat) ({ cls := "java/lang/Math", name := "min", desc := "(II)I" } : Jvm.MethodName)) ∈ WS := WS_tbl 430 (by decide +kernel) rfl
theorem kw_431 : (Jvm.Cond.static ({ cls := "java/lang/Math", name := "min", desc := "(II)I" } : Jvm.MethodName)) ∈ WS := WS_tbl 431 (by decide +kernel) rfl
set_option maxRecDepth 1000000 in
theorem kw_432 : cd_j_Math_min ∈ WS := WS_tbl 432 rfl rfl
theorem kw_433 : (Jvm.Cond.methodLink "java/lang/StringLatin1" (95 : Nat) ({ cls := "java/lang/StringLatin1", name := "indexOfChar", desc := "([BIII)I" } : Jvm.MethodName)) ∈ WS := WS_tbl 433 (by decide +kernel) rfl
theorem kw_434 : (Jvm.Cond.static ({ cls := "java/lang/StringLatin1", name := "indexOfChar", desc := "([BIII)I" } : Jvm.MethodName)) ∈ WS := WS_tbl 434 (by decide +kernel) rfl
set_option maxRecDepth 1000000 in
theorem kw_435 : cd_j_StringLatin1_indexOfChar ∈ WS := WS_tbl 435 rfl rfl
theorem kw_407 : (Jvm.Cond.methodLink "java/lang/String" (492 : Nat) ({ cls := "java/lang/String", name := "isLatin1", desc := "()Z" } : Jvm.MethodName)) ∈ WS := WS_tbl 407 (by decide +kernel) rfl
theorem kw_408 : (Jvm.Cond.instanceMethod ({ cls := "java/lang/String", name := "isLatin1", desc := "()Z" } : Jvm.MethodName)) ∈ WS := WS_tbl 408 (by decide +kernel) rfl
theorem kw_409 : (Jvm.Cond.selects "java/lang/String" ({ cls := "java/lang/String", name := "isLatin1", desc := "()Z" } : Jvm.MethodName) ({ cls := "java/lang/String", name := "isLatin1", desc := "()Z" } : Jvm.MethodName)) ∈ WS := WS_tbl 409 (by decide +kernel) rfl
set_option maxRecDepth 1000000 in
theorem kw_410 : cd_j_String_isLatin1 ∈ WS := WS_tbl 410 rfl rfl
theorem kw_413 : (Jvm.Cond.methodLink "java/lang/String" (505 : Nat) ({ cls := "java/lang/String", name := "length", desc := "()I" } : Jvm.MethodName)) ∈ WS := WS_tbl 413 (by decide +kernel) rfl
theorem kw_414 : (Jvm.Cond.instanceMethod ({ cls := "java/lang/String", name := "length", desc := "()I" } : Jvm.MethodName)) ∈ WS := WS_tbl 414 (by decide +kernel) rfl
theorem kw_415 : (Jvm.Cond.selects "java/lang/String" ({ cls := "java/lang/String", name := "length", desc := "()I" } : Jvm.MethodName) ({ cls := "java/lang/String", name := "length", desc := "()I" } : Jvm.MethodName)) ∈ WS := WS_tbl 415 (by decide +kernel) rfl
set_option maxRecDepth 1000000 in
theorem kw_416 : cd_j_String_length_x1 ∈ WS := WS_tbl 416 rfl rfl
theorem kw_421 : (Jvm.Cond.methodLink "java/lang/String" (637 : Nat) ({ cls := "java/lang/StringLatin1", name := "indexOf", desc := "([BIII)I" } : Jvm.MethodName)) ∈ WS := WS_tbl 421 (by decide +kernel) rfl
theorem kw_422 : (Jvm.Cond.static ({ cls := "java/lang/StringLatin1", name := "indexOf", desc := "([BIII)I" } : Jvm.MethodName)) ∈ WS := WS_tbl 422 (by decide +kernel) rfl
set_option maxRecDepth 1000000 in
theorem kw_423 : cd_j_StringLatin1_indexOf_x3 ∈ WS := WS_tbl 423 rfl rfl
theorem kw_403 : (Jvm.Cond.methodLink "java/lang/String" (633 : Nat) ({ cls := "java/lang/String", name := "indexOf", desc := "(II)I" } : Jvm.MethodName)) ∈ WS := WS_tbl 403 (by decide +kernel) rfl
theorem kw_404 : (Jvm.Cond.instanceMethod ({ cls := "java/lang/String", name := "indexOf", desc := "(II)I" } : Jvm.MethodName)) ∈ WS := WS_tbl 404 (by decide +kernel) rfl
theorem kw_405 : (Jvm.Cond.selects "java/lang/String" ({ cls := "java/lang/String", name := "indexOf", desc := "(II)I" } : Jvm.MethodName) ({ cls := "java/lang/String", name := "indexOf", desc := "(II)I" } : Jvm.MethodName)) ∈ WS := WS_tbl 405 (by decide +kernel) rfl
set_option maxRecDepth 1000000 in
theorem kw_406 : cd_j_String_indexOf_1 ∈ WS := WS_tbl 406 rfl rfl
theorem kw_454 : (Jvm.Cond.fieldLink "java/lang/String" (1053 : Nat) "jdk/internal/util/Preconditions" "SIOOBE_FORMATTER" "Ljava/util/function/BiFunction;") ∈ WS := WS_tbl 454 (by decide +kernel) rfl
theorem kw_712 : (Jvm.Cond.methodLink "java/lang/String" (1059 : Nat) ({ cls := "jdk/internal/util/Preconditions", name := "checkIndex", desc := "(IILjava/util/function/BiFunction;)I" } : Jvm.MethodName)) ∈ WS := WS_tbl 712 (by decide +kernel) rfl
theorem kw_713 : (Jvm.Cond.static ({ cls := "jdk/internal/util/Preconditions", name := "checkIndex", desc := "(IILjava/util/function/BiFunction;)I" } : Jvm.MethodName)) ∈ WS := WS_tbl 713 (by decide +kernel) rfl
theorem kw_21 : (Jvm.Cond.initialized "jdk/internal/util/Preconditions") ∈ WS := WS_tbl 21 (by decide +kernel) rfl
set_option maxRecDepth 1000000 in
theorem kw_714 : cd_j_Preconditions_checkIndex_x7 ∈ WS := WS_tbl 714 rfl rfl
theorem kw_709 : (Jvm.Cond.methodLink "java/lang/StringLatin1" (9 : Nat) ({ cls := "java/lang/String", name := "checkIndex", desc := "(II)V" } : Jvm.MethodName)) ∈ WS := WS_tbl 709 (by decide +kernel) rfl
theorem kw_710 : (Jvm.Cond.static ({ cls := "java/lang/String", name := "checkIndex", desc := "(II)V" } : Jvm.MethodName)) ∈ WS := WS_tbl 710 (by decide +kernel) rfl
set_option maxRecDepth 1000000 in
theorem kw_711 : cd_j_String_checkIndex ∈ WS := WS_tbl 711 rfl rfl
theorem kw_706 : (Jvm.Cond.methodLink "java/lang/String" (495 : Nat) ({ cls := "java/lang/StringLatin1", name := "charAt", desc := "([BI)C" } : Jvm.MethodName)) ∈ WS := WS_tbl 706 (by decide +kernel) rfl
theorem kw_707 : (Jvm.Cond.static ({ cls := "java/lang/StringLatin1", name := "charAt", desc := "([BI)C" } : Jvm.MethodName)) ∈ WS := WS_tbl 707 (by decide +kernel) rfl
set_option maxRecDepth 1000000 in
theorem kw_708 : cd_j_StringLatin1_charAt ∈ WS := WS_tbl 708 rfl rfl
theorem kw_396 : (Jvm.Cond.fieldLink "SquareCodes$Kind" (12 : Nat) "SquareCodes$Kind" "FREE" "LSquareCodes$Kind;") ∈ WS := WS_tbl 396 (by decide +kernel) rfl
theorem kw_399 : (Jvm.Cond.methodLink "SquareCodes$Kind" (66 : Nat) ({ cls := "java/lang/String", name := "indexOf", desc := "(I)I" } : Jvm.MethodName)) ∈ WS := WS_tbl 399 (by decide +kernel) rfl
theorem kw_400 : (Jvm.Cond.instanceMethod ({ cls := "java/lang/String", name := "indexOf", desc := "(I)I" } : Jvm.MethodName)) ∈ WS := WS_tbl 400 (by decide +kernel) rfl
theorem kw_401 : (Jvm.Cond.selects "java/lang/String" ({ cls := "java/lang/String", name := "indexOf", desc := "(I)I" } : Jvm.MethodName) ({ cls := "java/lang/String", name := "indexOf", desc := "(I)I" } : Jvm.MethodName)) ∈ WS := WS_tbl 401 (by decide +kernel) rfl
set_option maxRecDepth 1000000 in
theorem kw_402 : cd_j_String_indexOf_0 ∈ WS := WS_tbl 402 rfl rfl
theorem kw_1011 : (Jvm.Cond.fieldLink "SquareCodes$Kind" (44 : Nat) "SquareCodes$Kind" "base" "I") ∈ WS := WS_tbl 1011 (by decide +kernel) rfl
theorem kw_392 : (Jvm.Cond.methodLink "SquareCodes$Kind" (60 : Nat) ({ cls := "SquareCodes$Kind", name := "valueOfCharacter", desc := "(C)I" } : Jvm.MethodName)) ∈ WS := WS_tbl 392 (by decide +kernel) rfl
theorem kw_393 : (Jvm.Cond.instanceMethod ({ cls := "SquareCodes$Kind", name := "valueOfCharacter", desc := "(C)I" } : Jvm.MethodName)) ∈ WS := WS_tbl 393 (by decide +kernel) rfl
theorem kw_394 : (Jvm.Cond.selects "SquareCodes$Kind" ({ cls := "SquareCodes$Kind", name := "valueOfCharacter", desc := "(C)I" } : Jvm.MethodName) ({ cls := "SquareCodes$Kind", name := "valueOfCharacter", desc := "(C)I" } : Jvm.MethodName)) ∈ WS := WS_tbl 394 (by decide +kernel) rfl
theorem kw_16 : (Jvm.Cond.initialized "SquareCodes$Kind") ∈ WS := WS_tbl 16 (by decide +kernel) rfl
set_option maxRecDepth 1000000 in
theorem kw_395 : cd_q_Kind_valueOfCharacter ∈ WS := WS_tbl 395 rfl rfl
theorem kw_1014 : (Jvm.Cond.fieldLink "SquareCodes$Kind" (47 : Nat) "SquareCodes$Kind" "characterBits" "I") ∈ WS := WS_tbl 1014 (by decide +kernel) rfl
theorem kw_1015 : (Jvm.Cond.fieldLink "SquareCodes$Kind" (50 : Nat) "SquareCodes$Kind" "extraBits" "I") ∈ WS := WS_tbl 1015 (by decide +kernel) rfl
theorem kw_1012 : (Jvm.Cond.fieldLink "SquareCodes$Kind" (41 : Nat) "SquareCodes$Kind" "group" "I") ∈ WS := WS_tbl 1012 (by decide +kernel) rfl
theorem kw_1013 : (Jvm.Cond.fieldLink "SquareCodes$Kind" (38 : Nat) "SquareCodes$Kind" "countBits" "I") ∈ WS := WS_tbl 1013 (by decide +kernel) rfl
theorem kw_489 : (Jvm.Cond.methodLink "SquareCodes$Kind" (76 : Nat) ({ cls := "SquareCodes$Kind", name := "groupBits", desc := "(I)I" } : Jvm.MethodName)) ∈ WS := WS_tbl 489 (by decide +kernel) rfl
theorem kw_490 : (Jvm.Cond.instanceMethod ({ cls := "SquareCodes$Kind", name := "groupBits", desc := "(I)I" } : Jvm.MethodName)) ∈ WS := WS_tbl 490 (by decide +kernel) rfl
theorem kw_491 : (Jvm.Cond.selects "SquareCodes$Kind" ({ cls := "SquareCodes$Kind", name := "groupBits", desc := "(I)I" } : Jvm.MethodName) ({ cls := "SquareCodes$Kind", name := "groupBits", desc := "(I)I" } : Jvm.MethodName)) ∈ WS := WS_tbl 491 (by decide +kernel) rfl
set_option maxRecDepth 1000000 in
theorem kw_492 : cd_q_Kind_groupBits ∈ WS := WS_tbl 492 rfl rfl
theorem kw_702 : (Jvm.Cond.methodLink "SquareCodes$Kind" (72 : Nat) ({ cls := "java/lang/String", name := "charAt", desc := "(I)C" } : Jvm.MethodName)) ∈ WS := WS_tbl 702 (by decide +kernel) rfl
theorem kw_703 : (Jvm.Cond.instanceMethod ({ cls := "java/lang/String", name := "charAt", desc := "(I)C" } : Jvm.MethodName)) ∈ WS := WS_tbl 703 (by decide +kernel) rfl
theorem kw_704 : (Jvm.Cond.selects "java/lang/String" ({ cls := "java/lang/String", name := "charAt", desc := "(I)C" } : Jvm.MethodName) ({ cls := "java/lang/String", name := "charAt", desc := "(I)C" } : Jvm.MethodName)) ∈ WS := WS_tbl 704 (by decide +kernel) rfl
set_option maxRecDepth 1000000 in
theorem kw_705 : cd_j_String_charAt ∈ WS := WS_tbl 705 rfl rfl
theorem kw_385 : (Jvm.Cond.fieldLink "SquareCodes$Kind" (53 : Nat) "SquareCodes$Kind" "KINDS" "[LSquareCodes$Kind;") ∈ WS := WS_tbl 385 (by decide +kernel) rfl
theorem kw_1020 : (Jvm.Cond.fieldLink "SquareCodes$Kind" (34 : Nat) "SquareCodes$Kind" "code" "I") ∈ WS := WS_tbl 1020 (by decide +kernel) rfl
theorem kw_387 : (Jvm.Cond.methodLink "SquareCodes$Kind" (56 : Nat) ({ cls := "SquareCodes$Kind", name := "hasAll", desc := "([CI)Z" } : Jvm.MethodName)) ∈ WS := WS_tbl 387 (by decide +kernel) rfl
theorem kw_389 : (Jvm.Cond.instanceMethod ({ cls := "SquareCodes$Kind", name := "hasAll", desc := "([CI)Z" } : Jvm.MethodName)) ∈ WS := WS_tbl 389 (by decide +kernel) rfl
theorem ks_4 : Cond.selects R_Kind y_q_Kind_hasAll y_q_Kind_hasAll ∈ WS := WS_sel 4 (by decide +kernel) rfl
set_option maxRecDepth 1000000 in
theorem kw_391 : cd_q_Kind_hasAll ∈ WS := WS_tbl 391 rfl rfl
section
theorem d_j_String_isLatin1_0 : decode b_j_String_isLatin1 0 = .ok (.getstatic 38, 3) := by decide +kernel
theorem d_j_String_isLatin1_3 : decode b_j_String_isLatin1 3 = .ok (.ifCond .eq 14, 3) := by decide +kernel
theorem d_j_String_isLatin1_6 : decode b_j_String_isLatin1 6 = .ok (.aload_n 0, 1) := by decide +kernel
theorem d_j_String_isLatin1_7 : decode b_j_String_isLatin1 7 = .ok (.getfield 15, 3) := by decide +kernel
theorem d_j_String_isLatin1_10 : decode b_j_String_isLatin1 10 = .ok (.ifCond .ne 7, 3) := by decide +kernel
theorem d_j_String_isLatin1_13 : decode b_j_String_isLatin1 13 = .ok (.iconst 1, 1) := by decide +kernel
theorem d_j_String_isLatin1_14 : decode b_j_String_isLatin1 14 = .ok (.goto 4, 3) := by decide +kernel
theorem d_j_String_isLatin1_17 : decode b_j_String_isLatin1 17 = .ok (.iconst 0, 1) := by decide +kernel
theorem d_j_String_isLatin1_18 : decode b_j_String_isLatin1 18 = .ok (.ireturn, 1) := by decide +kernel
end
section
variable {p : Program} {l : Launch} {e : Env} {R : Room} {s : State} {m : MethodId} {args : Array Value} {below : List Frame} {meth : Method} {c : Code} {cells slots : Nat} {Q : State → Prop} {A : Nat → Prop} {H0 : Heap} {D : va_G}
set_option maxHeartbeats 1000000 in
set_option maxRecDepth 100000 in
theorem bd_j_String_isLatin1 (cI cC : ClassId) (sa : Nat → Nat) (S : CallFix p m c b_j_String_isLatin1 1 s args (cd_j_String_isLatin1 :: WS) R_java_lang_String) (hRf : 0 ≤ R.frames) (hRl : 0 ≤ R.locals) (hRc : cells ≤ R.cells ∧ slots ≤ R.slots) (hK : va_K D classes [(cI, .int), (cC, .char)] s) (hSt : SB sa A s s.heap) (kr : ∀ (pc : Nat) (ls : Array Slot) (H : Heap) (locs : List Loc), decode b_j_String_isLatin1 pc = .ok (.ireturn, 1) → va_S A s.heap H locs → W p l e R s m args below meth c H locs cells slots Q (F0 m pc ls [.int (nI 1)])) : ∀ (ls : Array Slot) (H : Heap) (locs : List Loc), lv_has ls 1 [(0, .ref (sa 10))] → va_S A s.heap H locs → W p l e R s m args below meth c H locs cells slots Q (F0 m 0 ls []) := by
  obtain ⟨hx, hb, hml, hown, hts⟩ := id S
  intro ls H locs hl hS
  refine n_gets hx hb hts (ks_cs hSt) hS hown kw_411 d_j_String_isLatin1_0 ?_
  refine n_if_eq hx hb d_j_String_isLatin1_3 (tgt := 17) rfl (by omega) (fun g3 => absurd g3 (by decide)) (fun g3 => ?_)
  refine lv_aload_n hx hb d_j_String_isLatin1_6 rfl (lv_at hl 0 rfl) ?_
  refine n_kget hx hb hts (ks_coder hSt) hS hown kw_1009 d_j_String_isLatin1_7 ?_
  refine n_if_ne hx hb d_j_String_isLatin1_10 (tgt := 17) rfl (by omega) (fun g10 => absurd g10 (by decide)) (fun g10 => ?_)
  refine lv_iconst (v := nI 1) hx hb d_j_String_isLatin1_13 (by decide) ?_
  refine lv_goto hx hb d_j_String_isLatin1_14 (tgt := 18) rfl ?_
  exact kr _ ls H locs d_j_String_isLatin1_18 hS
set_option maxHeartbeats 1000000 in
set_option maxRecDepth 100000 in
theorem c_j_String_isLatin1 (l : Launch) (D : va_G) (cI cC : ClassId) (sa : Nat → Nat) : Met l y_j_String_isLatin1 (cd_j_String_isLatin1 :: WS) { frames := 0, cells := 0, slots := 0, locals := 0 } (va_Pc [.ref (sa 10)] (srP sa D [] [(cI, .int), (cC, .char)])) (pQ (nI 1)) 0 0 noA := by
  refine Met.ofW (cc := b_j_String_isLatin1) (maxL := 1) (ret := (some .boolean)) (by decide) rfl ?_
  intro p e s m args below meth c s₁ B hml hv0
  obtain ⟨rfl, ⟨hP, hK⟩, hSt⟩ := hv0
  have hts := atoms_spec (ws := cd_j_String_isLatin1 :: WS) B.pre
  have hown : s.vm.findClass R_java_lang_String = some m.cls := findClass_of_methodNamed B.named
  have hlocks := B.notSynchronized
  have hl := lv_entry ([.ref (sa 10)]) (n := 1) (Nat.le_of_ble_eq_true rfl)
  rw [lg_entry_eq]
  generalize (lg_sl ([.ref (sa 10)]) ++ List.replicate (1 - (lg_sl ([.ref (sa 10)])).length) Slot.unset).toArray = ls at hl ⊢
  refine bd_j_String_isLatin1 cI cC sa  ⟨B.exec, B.bytes, hml, hown, hts⟩ (Nat.le_refl _) (Nat.le_refl _) ⟨Nat.le_refl _, Nat.le_refl _⟩ hK hSt (fun pc ls H locs hd hS => ?_) ls _ _ hl (va_S.rf (A := noA))
  exact W.zret B.exec B.bytes B.returns rfl (fun t ht _ => ⟨⟨_, (), rfl, rfl, trivial⟩, hS.F ht⟩) hS.2.2 hd
end
section
theorem d_j_String_coder_x2_0 : decode b_j_String_coder_x2 0 = .ok (.getstatic 38, 3) := by decide +kernel
theorem d_j_String_coder_x2_3 : decode b_j_String_coder_x2 3 = .ok (.ifCond .eq 10, 3) := by decide +kernel
theorem d_j_String_coder_x2_6 : decode b_j_String_coder_x2 6 = .ok (.aload_n 0, 1) := by decide +kernel
theorem d_j_String_coder_x2_7 : decode b_j_String_coder_x2 7 = .ok (.getfield 15, 3) := by decide +kernel
theorem d_j_String_coder_x2_10 : decode b_j_String_coder_x2 10 = .ok (.goto 4, 3) := by decide +kernel
theorem d_j_String_coder_x2_13 : decode b_j_String_coder_x2 13 = .ok (.iconst 1, 1) := by decide +kernel
theorem d_j_String_coder_x2_14 : decode b_j_String_coder_x2 14 = .ok (.ireturn, 1) := by decide +kernel
end
section
variable {p : Program} {l : Launch} {e : Env} {R : Room} {s : State} {m : MethodId} {args : Array Value} {below : List Frame} {meth : Method} {c : Code} {cells slots : Nat} {Q : State → Prop} {A : Nat → Prop} {H0 : Heap} {D : va_G}
set_option maxHeartbeats 1000000 in
set_option maxRecDepth 100000 in
theorem bd_j_String_coder_x2 (cI cC : ClassId) (sa : Nat → Nat) (S : CallFix p m c b_j_String_coder_x2 1 s args (cd_j_String_coder_x2 :: WS) R_java_lang_String) (hRf : 0 ≤ R.frames) (hRl : 0 ≤ R.locals) (hRc : cells ≤ R.cells ∧ slots ≤ R.slots) (hK : va_K D classes [(cI, .int), (cC, .char)] s) (hSt : SB sa A s s.heap) (kr : ∀ (pc : Nat) (ls : Array Slot) (H : Heap) (locs : List Loc), decode b_j_String_coder_x2 pc = .ok (.ireturn, 1) → va_S A s.heap H locs → W p l e R s m args below meth c H locs cells slots Q (F0 m pc ls [.int (nI 0)])) : ∀ (ls : Array Slot) (H : Heap) (locs : List Loc), lv_has ls 1 [(0, .ref (sa 10))] → va_S A s.heap H locs → W p l e R s m args below meth c H locs cells slots Q (F0 m 0 ls []) := by
  obtain ⟨hx, hb, hml, hown, hts⟩ := id S
  intro ls H locs hl hS
  refine n_gets hx hb hts (ks_cs hSt) hS hown kw_411 d_j_String_coder_x2_0 ?_
  refine n_if_eq hx hb d_j_String_coder_x2_3 (tgt := 13) rfl (by omega) (fun g3 => absurd g3 (by decide)) (fun g3 => ?_)
  refine lv_aload_n hx hb d_j_String_coder_x2_6 rfl (lv_at hl 0 rfl) ?_
  refine n_kget hx hb hts (ks_coder hSt) hS hown kw_1009 d_j_String_coder_x2_7 ?_
  refine lv_goto hx hb d_j_String_coder_x2_10 (tgt := 14) rfl ?_
  exact kr _ ls H locs d_j_String_coder_x2_14 hS
set_option maxHeartbeats 1000000 in
set_option maxRecDepth 100000 in
theorem c_j_String_coder_x2 (l : Launch) (D : va_G) (cI cC : ClassId) (sa : Nat → Nat) : Met l y_j_String_coder_x2 (cd_j_String_coder_x2 :: WS) { frames := 0, cells := 0, slots := 0, locals := 0 } (va_Pc [.ref (sa 10)] (srP sa D [] [(cI, .int), (cC, .char)])) (pQ (nI 0)) 0 0 noA := by
  refine Met.ofW (cc := b_j_String_coder_x2) (maxL := 1) (ret := (some .byte)) (by decide) rfl ?_
  intro p e s m args below meth c s₁ B hml hv0
  obtain ⟨rfl, ⟨hP, hK⟩, hSt⟩ := hv0
  have hts := atoms_spec (ws := cd_j_String_coder_x2 :: WS) B.pre
  have hown : s.vm.findClass R_java_lang_String = some m.cls := findClass_of_methodNamed B.named
  have hlocks := B.notSynchronized
  have hl := lv_entry ([.ref (sa 10)]) (n := 1) (Nat.le_of_ble_eq_true rfl)
  rw [lg_entry_eq]
  generalize (lg_sl ([.ref (sa 10)]) ++ List.replicate (1 - (lg_sl ([.ref (sa 10)])).length) Slot.unset).toArray = ls at hl ⊢
  refine bd_j_String_coder_x2 cI cC sa  ⟨B.exec, B.bytes, hml, hown, hts⟩ (Nat.le_refl _) (Nat.le_refl _) ⟨Nat.le_refl _, Nat.le_refl _⟩ hK hSt (fun pc ls H locs hd hS => ?_) ls _ _ hl (va_S.rf (A := noA))
  exact W.zret B.exec B.bytes B.returns rfl (fun t ht _ => ⟨⟨_, (), rfl, rfl, trivial⟩, hS.F ht⟩) hS.2.2 hd
end
section
theorem d_j_String_length_x1_0 : decode b_j_String_length_x1 0 = .ok (.aload_n 0, 1) := by decide +kernel
theorem d_j_String_length_x1_1 : decode b_j_String_length_x1 1 = .ok (.getfield 9, 3) := by decide +kernel
theorem d_j_String_length_x1_4 : decode b_j_String_length_x1 4 = .ok (.arraylength, 1) := by decide +kernel
theorem d_j_String_length_x1_5 : decode b_j_String_length_x1 5 = .ok (.aload_n 0, 1) := by decide +kernel
theorem d_j_String_length_x1_6 : decode b_j_String_length_x1 6 = .ok (.invokevirtual 335, 3) := by decide +kernel
theorem d_j_String_length_x1_9 : decode b_j_String_length_x1 9 = .ok (.ishr, 1) := by decide +kernel
theorem d_j_String_length_x1_10 : decode b_j_String_length_x1 10 = .ok (.ireturn, 1) := by decide +kernel
end
section
variable {p : Program} {l : Launch} {e : Env} {R : Room} {s : State} {m : MethodId} {args : Array Value} {below : List Frame} {meth : Method} {c : Code} {cells slots : Nat} {Q : State → Prop} {A : Nat → Prop} {H0 : Heap} {D : va_G}
set_option maxHeartbeats 1000000 in
set_option maxRecDepth 100000 in
theorem bd_j_String_length_x1 (cI cC : ClassId) (sa : Nat → Nat) (S : CallFix p m c b_j_String_length_x1 1 s args (cd_j_String_length_x1 :: WS) R_java_lang_String) (hRf : 1 ≤ R.frames) (hRl : 20 ≤ R.locals) (hRc : cells ≤ R.cells ∧ slots ≤ R.slots) (hK : va_K D classes [(cI, .int), (cC, .char)] s) (hSt : SB sa A s s.heap) (kr : ∀ (pc : Nat) (ls : Array Slot) (H : Heap) (locs : List Loc), decode b_j_String_length_x1 pc = .ok (.ireturn, 1) → va_S A s.heap H locs → W p l e R s m args below meth c H locs cells slots Q (F0 m pc ls [.int (nI 45)])) : ∀ (ls : Array Slot) (H : Heap) (locs : List Loc), lv_has ls 1 [(0, .ref (sa 10))] → va_S A s.heap H locs → W p l e R s m args below meth c H locs cells slots Q (F0 m 0 ls []) := by
  obtain ⟨hx, hb, hml, hown, hts⟩ := id S
  intro ls H locs hl hS
  refine lv_aload_n hx hb d_j_String_length_x1_0 rfl (lv_at hl 0 rfl) ?_
  refine n_kget hx hb hts (ks_value hSt) hS hown kw_1010 d_j_String_length_x1_1 ?_
  refine va_tlen (v := nI 45) hx hb (ks_by hSt) hS rfl d_j_String_length_x1_4 ?_
  refine lv_aload_n hx hb d_j_String_length_x1_5 rfl (lv_at hl 0 rfl) ?_
  refine q_readVr (n := 0) (As := []) (rest := [.int (nI 45)]) (wc := []) S (c_j_String_coder_x2 l D cI cC sa) hSt hK va_P0 (o_recv (ks_o hSt) hS) [] rfl (q_goodV kw_417 kw_418 kw_419 kw_17 kw_420) (by decide +kernel) rfl rfl rfl ⟨Nat.le_trans (Nat.le_of_ble_eq_true rfl) hRf, Nat.le_trans (Nat.le_of_ble_eq_true rfl) hRl⟩ rfl hl.1 rfl (Nat.le_of_ble_eq_true rfl) d_j_String_length_x1_6 hRc hS (fun H locs _ hS => ?_)
  refine n_ishr hx hb d_j_String_length_x1_9 (by decide) (by decide) ?_
  refine n_topn (show 45 / 2 ^ 0 = 45 from rfl) ?_
  exact kr _ ls H locs d_j_String_length_x1_10 hS
set_option maxHeartbeats 1000000 in
set_option maxRecDepth 100000 in
theorem c_j_String_length_x1 (l : Launch) (D : va_G) (cI cC : ClassId) (sa : Nat → Nat) : Met l y_j_String_length_x1 (cd_j_String_length_x1 :: WS) { frames := 1, cells := 0, slots := 0, locals := 20 } (va_Pc [.ref (sa 10)] (srP sa D [] [(cI, .int), (cC, .char)])) (pQ (nI 45)) 0 0 noA := by
  refine Met.ofW (cc := b_j_String_length_x1) (maxL := 1) (ret := (some .int)) (by decide) rfl ?_
  intro p e s m args below meth c s₁ B hml hv0
  obtain ⟨rfl, ⟨hP, hK⟩, hSt⟩ := hv0
  have hts := atoms_spec (ws := cd_j_String_length_x1 :: WS) B.pre
  have hown : s.vm.findClass R_java_lang_String = some m.cls := findClass_of_methodNamed B.named
  have hlocks := B.notSynchronized
  have hl := lv_entry ([.ref (sa 10)]) (n := 1) (Nat.le_of_ble_eq_true rfl)
  rw [lg_entry_eq]
  generalize (lg_sl ([.ref (sa 10)]) ++ List.replicate (1 - (lg_sl ([.ref (sa 10)])).length) Slot.unset).toArray = ls at hl ⊢
  refine bd_j_String_length_x1 cI cC sa  ⟨B.exec, B.bytes, hml, hown, hts⟩ (Nat.le_refl _) (Nat.le_refl _) ⟨Nat.le_refl _, Nat.le_refl _⟩ hK hSt (fun pc ls H locs hd hS => ?_) ls _ _ hl (va_S.rf (A := noA))
  exact W.iret B.exec B.bytes B.returns (fun t ht _ => ⟨⟨_, (), rfl, rfl, trivial⟩, hS.F ht⟩) hS.2.2 hd
end
section
theorem d_j_Math_max_x4_0 : decode b_j_Math_max_x4 0 = .ok (.iload_n 0, 1) := by decide +kernel
theorem d_j_Math_max_x4_1 : decode b_j_Math_max_x4 1 = .ok (.iload_n 1, 1) := by decide +kernel
theorem d_j_Math_max_x4_2 : decode b_j_Math_max_x4 2 = .ok (.if_icmp .lt 7, 3) := by decide +kernel
theorem d_j_Math_max_x4_5 : decode b_j_Math_max_x4 5 = .ok (.iload_n 0, 1) := by decide +kernel
theorem d_j_Math_max_x4_6 : decode b_j_Math_max_x4 6 = .ok (.goto 4, 3) := by decide +kernel
theorem d_j_Math_max_x4_9 : decode b_j_Math_max_x4 9 = .ok (.iload_n 1, 1) := by decide +kernel
theorem d_j_Math_max_x4_10 : decode b_j_Math_max_x4 10 = .ok (.ireturn, 1) := by decide +kernel
end
section
variable {p : Program} {l : Launch} {e : Env} {R : Room} {s : State} {m : MethodId} {args : Array Value} {below : List Frame} {meth : Method} {c : Code} {cells slots : Nat} {Q : State → Prop} {A : Nat → Prop} {H0 : Heap} {D : va_G}
set_option maxHeartbeats 1000000 in
set_option maxRecDepth 100000 in
theorem bd_j_Math_max_x4 (a b : Nat) (ha : a < 2 ^ 31) (hb9 : b < 2 ^ 31) (S : CallFix p m c b_j_Math_max_x4 2 s args (cd_j_Math_max_x4 :: WS) R_java_lang_Math) (hRf : 0 ≤ R.frames) (hRl : 0 ≤ R.locals) (hRc : cells ≤ R.cells ∧ slots ≤ R.slots) (kr : ∀ (pc : Nat) (ls : Array Slot) (H : Heap) (locs : List Loc), decode b_j_Math_max_x4 pc = .ok (.ireturn, 1) → va_S A H0 H locs → W p l e R s m args below meth c H locs cells slots Q (F0 m pc ls [.int (nI (max a b))])) : ∀ (ls : Array Slot) (H : Heap) (locs : List Loc), lv_has ls 2 [(0, .int (nI a)), (1, .int (nI b))] → va_S A H0 H locs → W p l e R s m args below meth c H locs cells slots Q (F0 m 0 ls []) := by
  obtain ⟨hx, hb, hml, hown, hts⟩ := id S
  intro ls H locs hl hS
  refine lv_iload_n hx hb d_j_Math_max_x4_0 rfl (lv_at hl 0 rfl) ?_
  refine lv_iload_n hx hb d_j_Math_max_x4_1 rfl (lv_at hl 1 rfl) ?_
  refine n_icmp_lt hx hb d_j_Math_max_x4_2 (tgt := 9) rfl (by omega) (by omega) (fun g2 => ?_) (fun g2 => ?_)
  · skip
    refine lv_iload_n hx hb d_j_Math_max_x4_9 rfl (lv_at hl 1 rfl) ?_
    refine n_topn (show b = max a b from (by omega)) ?_
    exact kr _ ls H locs d_j_Math_max_x4_10 hS
  · skip
    refine lv_iload_n hx hb d_j_Math_max_x4_5 rfl (lv_at hl 0 rfl) ?_
    refine lv_goto hx hb d_j_Math_max_x4_6 (tgt := 10) rfl ?_
    refine n_topn (show a = max a b from (by omega)) ?_
    exact kr _ ls H locs d_j_Math_max_x4_10 hS
set_option maxHeartbeats 1000000 in
set_option maxRecDepth 100000 in
theorem c_j_Math_max_x4 (l : Launch) (a b : Nat) (ha : a < 2 ^ 31) (hb9 : b < 2 ^ 31) : Met l y_j_Math_max_x4 (cd_j_Math_max_x4 :: WS) { frames := 0, cells := 0, slots := 0, locals := 0 } (va_Pc [.int (nI a), .int (nI b)] (fun _ => True)) (pQ ((nI (max a b)))) 0 0 noA := by
  refine va_MetF (cc := b_j_Math_max_x4) (maxL := 2) (ret := (some .int)) (by decide +kernel) rfl ?_
  intro p e s m args below meth c s₁ B hml hv0
  obtain ⟨rfl, -⟩ := hv0
  have hts := atoms_spec (ws := cd_j_Math_max_x4 :: WS) B.pre
  have hown : s.vm.findClass R_java_lang_Math = some m.cls := findClass_of_methodNamed B.named
  have hlocks := B.notSynchronized
  have hl := lv_entry ([.int (nI a), .int (nI b)]) (n := 2) (Nat.le_of_ble_eq_true rfl)
  rw [lg_entry_eq]
  generalize (lg_sl ([.int (nI a), .int (nI b)]) ++ List.replicate (2 - (lg_sl ([.int (nI a), .int (nI b)])).length) Slot.unset).toArray = ls at hl ⊢
  refine bd_j_Math_max_x4 a b ha hb9 ⟨B.exec, B.bytes, hml, hown, hts⟩ (Nat.le_refl _) (Nat.le_refl _) ⟨Nat.le_refl _, Nat.le_refl _⟩ (fun pc ls H locs hd hS => ?_) ls _ _ hl (va_S.rf (A := noA))
  exact W.iret B.exec B.bytes B.returns (fun t ht _ => ⟨⟨_, (), rfl, rfl, trivial⟩, hS.F ht⟩) hS.2.2 hd
end
section
theorem d_j_Math_min_0 : decode b_j_Math_min 0 = .ok (.iload_n 0, 1) := by decide +kernel
theorem d_j_Math_min_1 : decode b_j_Math_min 1 = .ok (.iload_n 1, 1) := by decide +kernel
theorem d_j_Math_min_2 : decode b_j_Math_min 2 = .ok (.if_icmp .gt 7, 3) := by decide +kernel
theorem d_j_Math_min_5 : decode b_j_Math_min 5 = .ok (.iload_n 0, 1) := by decide +kernel
theorem d_j_Math_min_6 : decode b_j_Math_min 6 = .ok (.goto 4, 3) := by decide +kernel
theorem d_j_Math_min_9 : decode b_j_Math_min 9 = .ok (.iload_n 1, 1) := by decide +kernel
theorem d_j_Math_min_10 : decode b_j_Math_min 10 = .ok (.ireturn, 1) := by decide +kernel
end
section
variable {p : Program} {l : Launch} {e : Env} {R : Room} {s : State} {m : MethodId} {args : Array Value} {below : List Frame} {meth : Method} {c : Code} {cells slots : Nat} {Q : State → Prop} {A : Nat → Prop} {H0 : Heap} {D : va_G}
set_option maxHeartbeats 1000000 in
set_option maxRecDepth 100000 in
theorem bd_j_Math_min (a b : Nat) (ha : a < 2 ^ 31) (hb9 : b < 2 ^ 31) (S : CallFix p m c b_j_Math_min 2 s args (cd_j_Math_min :: WS) R_java_lang_Math) (hRf : 0 ≤ R.frames) (hRl : 0 ≤ R.locals) (hRc : cells ≤ R.cells ∧ slots ≤ R.slots) (kr : ∀ (pc : Nat) (ls : Array Slot) (H : Heap) (locs : List Loc), decode b_j_Math_min pc = .ok (.ireturn, 1) → va_S A H0 H locs → W p l e R s m args below meth c H locs cells slots Q (F0 m pc ls [.int (nI (min a b))])) : ∀ (ls : Array Slot) (H : Heap) (locs : List Loc), lv_has ls 2 [(0, .int (nI a)), (1, .int (nI b))] → va_S A H0 H locs → W p l e R s m args below meth c H locs cells slots Q (F0 m 0 ls []) := by
  obtain ⟨hx, hb, hml, hown, hts⟩ := id S
  intro ls H locs hl hS
  refine lv_iload_n hx hb d_j_Math_min_0 rfl (lv_at hl 0 rfl) ?_
  refine lv_iload_n hx hb d_j_Math_min_1 rfl (lv_at hl 1 rfl) ?_
  refine n_icmp_gt hx hb d_j_Math_min_2 (tgt := 9) rfl (by omega) (by omega) (fun g2 => ?_) (fun g2 => ?_)
  · skip
    refine lv_iload_n hx hb d_j_Math_min_9 rfl (lv_at hl 1 rfl) ?_
    refine n_topn (show b = min a b from (by omega)) ?_
    exact kr _ ls H locs d_j_Math_min_10 hS
  · skip
    refine lv_iload_n hx hb d_j_Math_min_5 rfl (lv_at hl 0 rfl) ?_
    refine lv_goto hx hb d_j_Math_min_6 (tgt := 10) rfl ?_
    refine n_topn (show a = min a b from (by omega)) ?_
    exact kr _ ls H locs d_j_Math_min_10 hS
set_option maxHeartbeats 1000000 in
set_option maxRecDepth 100000 in
theorem c_j_Math_min (l : Launch) (a b : Nat) (ha : a < 2 ^ 31) (hb9 : b < 2 ^ 31) : Met l y_j_Math_min (cd_j_Math_min :: WS) { frames := 0, cells := 0, slots := 0, locals := 0 } (va_Pc [.int (nI a), .int (nI b)] (fun _ => True)) (pQ ((nI (min a b)))) 0 0 noA := by
  refine va_MetF (cc := b_j_Math_min) (maxL := 2) (ret := (some .int)) (by decide +kernel) rfl ?_
  intro p e s m args below meth c s₁ B hml hv0
  obtain ⟨rfl, -⟩ := hv0
  have hts := atoms_spec (ws := cd_j_Math_min :: WS) B.pre
  have hown : s.vm.findClass R_java_lang_Math = some m.cls := findClass_of_methodNamed B.named
  have hlocks := B.notSynchronized
  have hl := lv_entry ([.int (nI a), .int (nI b)]) (n := 2) (Nat.le_of_ble_eq_true rfl)
  rw [lg_entry_eq]
  generalize (lg_sl ([.int (nI a), .int (nI b)]) ++ List.replicate (2 - (lg_sl ([.int (nI a), .int (nI b)])).length) Slot.unset).toArray = ls at hl ⊢
  refine bd_j_Math_min a b ha hb9 ⟨B.exec, B.bytes, hml, hown, hts⟩ (Nat.le_refl _) (Nat.le_refl _) ⟨Nat.le_refl _, Nat.le_refl _⟩ (fun pc ls H locs hd hS => ?_) ls _ _ hl (va_S.rf (A := noA))
  exact W.iret B.exec B.bytes B.returns (fun t ht _ => ⟨⟨_, (), rfl, rfl, trivial⟩, hS.F ht⟩) hS.2.2 hd
end
section
theorem d_j_StringLatin1_canEncode_0 : decode b_j_StringLatin1_canEncode 0 = .ok (.iload_n 0, 1) := by decide +kernel
theorem d_j_StringLatin1_canEncode_1 : decode b_j_StringLatin1_canEncode 1 = .ok (.ifCond .lt 14, 3) := by decide +kernel
theorem d_j_StringLatin1_canEncode_4 : decode b_j_StringLatin1_canEncode 4 = .ok (.iload_n 0, 1) := by decide +kernel
theorem d_j_StringLatin1_canEncode_5 : decode b_j_StringLatin1_canEncode 5 = .ok (.sipush 255, 3) := by decide +kernel
theorem d_j_StringLatin1_canEncode_8 : decode b_j_StringLatin1_canEncode 8 = .ok (.if_icmp .gt 7, 3) := by decide +kernel
theorem d_j_StringLatin1_canEncode_11 : decode b_j_StringLatin1_canEncode 11 = .ok (.iconst 1, 1) := by decide +kernel
theorem d_j_StringLatin1_canEncode_12 : decode b_j_StringLatin1_canEncode 12 = .ok (.goto 4, 3) := by decide +kernel
theorem d_j_StringLatin1_canEncode_15 : decode b_j_StringLatin1_canEncode 15 = .ok (.iconst 0, 1) := by decide +kernel
theorem d_j_StringLatin1_canEncode_16 : decode b_j_StringLatin1_canEncode 16 = .ok (.ireturn, 1) := by decide +kernel
end
section
variable {p : Program} {l : Launch} {e : Env} {R : Room} {s : State} {m : MethodId} {args : Array Value} {below : List Frame} {meth : Method} {c : Code} {cells slots : Nat} {Q : State → Prop} {A : Nat → Prop} {H0 : Heap} {D : va_G}
set_option maxHeartbeats 1000000 in
set_option maxRecDepth 100000 in
theorem bd_j_StringLatin1_canEncode (x : Nat) (hx0 : x < 256) (S : CallFix p m c b_j_StringLatin1_canEncode 1 s args (cd_j_StringLatin1_canEncode :: WS) R_java_lang_StringLatin1) (hRf : 0 ≤ R.frames) (hRl : 0 ≤ R.locals) (hRc : cells ≤ R.cells ∧ slots ≤ R.slots) (kr : ∀ (pc : Nat) (ls : Array Slot) (H : Heap) (locs : List Loc), decode b_j_StringLatin1_canEncode pc = .ok (.ireturn, 1) → va_S A H0 H locs → W p l e R s m args below meth c H locs cells slots Q (F0 m pc ls [.int (nI 1)])) : ∀ (ls : Array Slot) (H : Heap) (locs : List Loc), lv_has ls 1 [(0, .int (nI x))] → va_S A H0 H locs → W p l e R s m args below meth c H locs cells slots Q (F0 m 0 ls []) := by
  obtain ⟨hx, hb, hml, hown, hts⟩ := id S
  intro ls H locs hl hS
  refine lv_iload_n hx hb d_j_StringLatin1_canEncode_0 rfl (lv_at hl 0 rfl) ?_
  refine n_if_lt hx hb d_j_StringLatin1_canEncode_1 (tgt := 15) rfl (by omega) ?_
  refine lv_iload_n hx hb d_j_StringLatin1_canEncode_4 rfl (lv_at hl 0 rfl) ?_
  refine lv_sipush (v := nI 255) hx hb d_j_StringLatin1_canEncode_5 (by decide) ?_
  refine n_icmp_gt hx hb d_j_StringLatin1_canEncode_8 (tgt := 15) rfl (by omega) (by omega) (fun g8 => absurd g8 (by omega)) (fun g8 => ?_)
  refine lv_iconst (v := nI 1) hx hb d_j_StringLatin1_canEncode_11 (by decide) ?_
  refine lv_goto hx hb d_j_StringLatin1_canEncode_12 (tgt := 16) rfl ?_
  exact kr _ ls H locs d_j_StringLatin1_canEncode_16 hS
set_option maxHeartbeats 1000000 in
set_option maxRecDepth 100000 in
theorem c_j_StringLatin1_canEncode (l : Launch) (x : Nat) (hx0 : x < 256) : Met l y_j_StringLatin1_canEncode (cd_j_StringLatin1_canEncode :: WS) { frames := 0, cells := 0, slots := 0, locals := 0 } (va_Pc [.int (nI x)] (fun _ => True)) (pQ ((nI 1))) 0 0 noA := by
  refine Met.ofW (cc := b_j_StringLatin1_canEncode) (maxL := 1) (ret := (some .boolean)) (by decide) rfl ?_
  intro p e s m args below meth c s₁ B hml hv0
  obtain ⟨rfl, -⟩ := hv0
  have hts := atoms_spec (ws := cd_j_StringLatin1_canEncode :: WS) B.pre
  have hown : s.vm.findClass R_java_lang_StringLatin1 = some m.cls := findClass_of_methodNamed B.named
  have hlocks := B.notSynchronized
  have hl := lv_entry ([.int (nI x)]) (n := 1) (Nat.le_of_ble_eq_true rfl)
  rw [lg_entry_eq]
  generalize (lg_sl ([.int (nI x)]) ++ List.replicate (1 - (lg_sl ([.int (nI x)])).length) Slot.unset).toArray = ls at hl ⊢
  refine bd_j_StringLatin1_canEncode x hx0 ⟨B.exec, B.bytes, hml, hown, hts⟩ (Nat.le_refl _) (Nat.le_refl _) ⟨Nat.le_refl _, Nat.le_refl _⟩ (fun pc ls H locs hd hS => ?_) ls _ _ hl (va_S.rf (A := noA))
  exact W.zret B.exec B.bytes B.returns rfl (fun t ht _ => ⟨⟨_, (), rfl, rfl, trivial⟩, hS.F ht⟩) hS.2.2 hd
end
section
theorem d_j_StringLatin1_indexOfChar_0 : decode b_j_StringLatin1_indexOfChar 0 = .ok (.iload_n 1, 1) := by decide +kernel
theorem d_j_StringLatin1_indexOfChar_1 : decode b_j_StringLatin1_indexOfChar 1 = .ok (.i2b, 1) := by decide +kernel
theorem d_j_StringLatin1_indexOfChar_2 : decode b_j_StringLatin1_indexOfChar 2 = .ok (.istore 4, 2) := by decide +kernel
theorem d_j_StringLatin1_indexOfChar_4 : decode b_j_StringLatin1_indexOfChar 4 = .ok (.iload_n 2, 1) := by decide +kernel
theorem d_j_StringLatin1_indexOfChar_5 : decode b_j_StringLatin1_indexOfChar 5 = .ok (.istore 5, 2) := by decide +kernel
theorem d_j_StringLatin1_indexOfChar_7 : decode b_j_StringLatin1_indexOfChar 7 = .ok (.iload 5, 2) := by decide +kernel
theorem d_j_StringLatin1_indexOfChar_9 : decode b_j_StringLatin1_indexOfChar 9 = .ok (.iload_n 3, 1) := by decide +kernel
theorem d_j_StringLatin1_indexOfChar_10 : decode b_j_StringLatin1_indexOfChar 10 = .ok (.if_icmp .ge 21, 3) := by decide +kernel
theorem d_j_StringLatin1_indexOfChar_13 : decode b_j_StringLatin1_indexOfChar 13 = .ok (.aload_n 0, 1) := by decide +kernel
theorem d_j_StringLatin1_indexOfChar_14 : decode b_j_StringLatin1_indexOfChar 14 = .ok (.iload 5, 2) := by decide +kernel
theorem d_j_StringLatin1_indexOfChar_16 : decode b_j_StringLatin1_indexOfChar 16 = .ok (.baload, 1) := by decide +kernel
theorem d_j_StringLatin1_indexOfChar_17 : decode b_j_StringLatin1_indexOfChar 17 = .ok (.iload 4, 2) := by decide +kernel
theorem d_j_StringLatin1_indexOfChar_19 : decode b_j_StringLatin1_indexOfChar 19 = .ok (.if_icmp .ne 6, 3) := by decide +kernel
theorem d_j_StringLatin1_indexOfChar_22 : decode b_j_StringLatin1_indexOfChar 22 = .ok (.iload 5, 2) := by decide +kernel
theorem d_j_StringLatin1_indexOfChar_24 : decode b_j_StringLatin1_indexOfChar 24 = .ok (.ireturn, 1) := by decide +kernel
theorem d_j_StringLatin1_indexOfChar_25 : decode b_j_StringLatin1_indexOfChar 25 = .ok (.iinc 5 1, 3) := by decide +kernel
theorem d_j_StringLatin1_indexOfChar_28 : decode b_j_StringLatin1_indexOfChar 28 = .ok (.goto (-21), 3) := by decide +kernel
theorem d_j_StringLatin1_indexOfChar_31 : decode b_j_StringLatin1_indexOfChar 31 = .ok (.iconst (-1), 1) := by decide +kernel
theorem d_j_StringLatin1_indexOfChar_32 : decode b_j_StringLatin1_indexOfChar 32 = .ok (.ireturn, 1) := by decide +kernel
end
section
variable {p : Program} {l : Launch} {e : Env} {R : Room} {s : State} {m : MethodId} {args : Array Value} {below : List Frame} {meth : Method} {c : Code} {cells slots : Nat} {Q : State → Prop} {A : Nat → Prop} {H0 : Heap} {D : va_G}
set_option maxHeartbeats 1000000 in
set_option maxRecDepth 100000 in
theorem lp_j_StringLatin1_indexOfChar_no_7 (cI cC : ClassId) (sa : Nat → Nat) (x : Nat) (hx0 : x < 127) (hno : ∀ j, j < 45 → pbT j ≠ x) (S : CallFix p m c b_j_StringLatin1_indexOfChar 6 s args (cd_j_StringLatin1_indexOfChar :: WS) R_java_lang_StringLatin1) (hRf : 0 ≤ R.frames) (hRl : 0 ≤ R.locals) (hRc : cells ≤ R.cells ∧ slots ≤ R.slots) (hK : va_K D classes [(cI, .int), (cC, .char)] s) (hSt : SB sa A s s.heap) (kx : ∀ (ls : Array Slot) (H : Heap) (locs : List Loc), lv_has ls 6 [(0, .ref (sa 11)), (1, .int (nI x)), (2, .int (nI 0)), (3, .int (nI 45)), (4, .int (nI x)), (5, .int (nI 45))] → va_S A s.heap H locs → W p l e R s m args below meth c H locs cells slots Q (F0 m 31 ls [])) :
    ∀ k, k ≤ 45 → ∀ (ls : Array Slot) (H : Heap) (locs : List Loc), lv_has ls 6 [(0, .ref (sa 11)), (1, .int (nI x)), (2, .int (nI 0)), (3, .int (nI 45)), (4, .int (nI x)), (5, .int (nI k))] → va_S A s.heap H locs → W p l e R s m args below meth c H locs cells slots Q (F0 m 7 ls []) := by
  obtain ⟨hx, hb, hml, hown, hts⟩ := id S
  refine up_loop (fun k hkk ih => ?_)
  intro ls H locs hl hS
  have hpb := (pb_chk k) 
  refine lv_iload hx hb d_j_StringLatin1_indexOfChar_7 (lv_at hl 5 rfl) ?_
  refine lv_iload_n hx hb d_j_StringLatin1_indexOfChar_9 rfl (lv_at hl 3 rfl) ?_
  refine n_icmp_ge hx hb d_j_StringLatin1_indexOfChar_10 (tgt := 31) rfl (by omega) (by omega) (fun g10 => ?_) (fun g10 => ?_)
  · skip
    obtain rfl : k = 45 := by omega
    exact kx ls H locs (lv_sub hl [0, 1, 2, 3, 4, 5] rfl) hS
  · skip
    refine lv_aload_n hx hb d_j_StringLatin1_indexOfChar_13 rfl (lv_at hl 0 rfl) ?_
    refine lv_iload hx hb d_j_StringLatin1_indexOfChar_14 (lv_at hl 5 rfl) ?_
    refine n_tb hx hb (ks_by hSt) hS (by omega) (by decide) d_j_StringLatin1_indexOfChar_16 ?_
    refine lv_iload hx hb d_j_StringLatin1_indexOfChar_17 (lv_at hl 4 rfl) ?_
    refine n_icmp_ne hx hb d_j_StringLatin1_indexOfChar_19 (tgt := 25) rfl (by have h9 := (pb_chk k (by omega)).2.1; omega) (by omega) (fun g19 => ?_) (fun g19 => absurd g19 (hno k (by omega)))
    refine lv_iinc (k := 5) (v := nI (k + 1)) hx hb d_j_StringLatin1_indexOfChar_25 hl rfl (nx_inc k 1) (Nat.le_of_ble_eq_true rfl) rfl (fun ls hl => ?_)
    have hl : lv_has ls 6 [(5, .int (nI (k + 1))), (0, .ref (sa 11)), (1, .int (nI x)), (2, .int (nI 0)), (3, .int (nI 45)), (4, .int (nI x))] := hl
    refine lv_goto hx hb d_j_StringLatin1_indexOfChar_28 (tgt := 7) rfl ?_
    exact ih (by omega) ls H locs (lv_sub hl [1, 2, 3, 4, 5, 0] rfl) hS
set_option maxHeartbeats 1000000 in
set_option maxRecDepth 100000 in
theorem bd_j_StringLatin1_indexOfChar_no (cI cC : ClassId) (sa : Nat → Nat) (x : Nat) (hx0 : x < 127) (hno : ∀ j, j < 45 → pbT j ≠ x) (S : CallFix p m c b_j_StringLatin1_indexOfChar 6 s args (cd_j_StringLatin1_indexOfChar :: WS) R_java_lang_StringLatin1) (hRf : 0 ≤ R.frames) (hRl : 0 ≤ R.locals) (hRc : cells ≤ R.cells ∧ slots ≤ R.slots) (hK : va_K D classes [(cI, .int), (cC, .char)] s) (hSt : SB sa A s s.heap) (kr : ∀ (pc : Nat) (ls : Array Slot) (H : Heap) (locs : List Loc), decode b_j_StringLatin1_indexOfChar pc = .ok (.ireturn, 1) → va_S A s.heap H locs → W p l e R s m args below meth c H locs cells slots Q (F0 m pc ls [.int (-1)])) : ∀ (ls : Array Slot) (H : Heap) (locs : List Loc), lv_has ls 6 [(0, .ref (sa 11)), (1, .int (nI x)), (2, .int (nI 0)), (3, .int (nI 45))] → va_S A s.heap H locs → W p l e R s m args below meth c H locs cells slots Q (F0 m 0 ls []) := by
  obtain ⟨hx, hb, hml, hown, hts⟩ := id S
  intro ls H locs hl hS
  refine lv_iload_n hx hb d_j_StringLatin1_indexOfChar_0 rfl (lv_at hl 1 rfl) ?_
  refine lv_i2b (v := nI x) hx hb d_j_StringLatin1_indexOfChar_1 (by_id x hx0) ?_
  refine lv_istore hx hb d_j_StringLatin1_indexOfChar_2 hl (Nat.le_of_ble_eq_true rfl) rfl (fun ls hl => ?_)
  have hl : lv_has ls 6 [(4, .int (nI x)), (0, .ref (sa 11)), (1, .int (nI x)), (2, .int (nI 0)), (3, .int (nI 45))] := hl
  refine lv_iload_n hx hb d_j_StringLatin1_indexOfChar_4 rfl (lv_at hl 3 rfl) ?_
  refine lv_istore hx hb d_j_StringLatin1_indexOfChar_5 hl (Nat.le_of_ble_eq_true rfl) rfl (fun ls hl => ?_)
  have hl : lv_has ls 6 [(5, .int (nI 0)), (4, .int (nI x)), (0, .ref (sa 11)), (1, .int (nI x)), (2, .int (nI 0)), (3, .int (nI 45))] := hl
  refine lp_j_StringLatin1_indexOfChar_no_7 cI cC sa x hx0 hno S hRf hRl hRc hK hSt  (fun ls H locs hl hS => ?_) 0 (by omega) ls H locs (lv_sub hl [2, 3, 4, 5, 1, 0] rfl) hS
  refine lv_iconst (v := (-1)) hx hb d_j_StringLatin1_indexOfChar_31 (by decide) ?_
  exact kr _ ls H locs d_j_StringLatin1_indexOfChar_32 hS
set_option maxHeartbeats 1000000 in
set_option maxRecDepth 100000 in
theorem c_j_StringLatin1_indexOfChar_no (l : Launch) (D : va_G) (cI cC : ClassId) (sa : Nat → Nat) (x : Nat) (hx0 : x < 127) (hno : ∀ j, j < 45 → pbT j ≠ x) : Met l y_j_StringLatin1_indexOfChar (cd_j_StringLatin1_indexOfChar :: WS) { frames := 0, cells := 0, slots := 0, locals := 0 } (va_Pc [.ref (sa 11), .int (nI x), .int (nI 0), .int (nI 45)] (srP sa D [] [(cI, .int), (cC, .char)])) (pQ (-1)) 0 0 noA := by
  refine Met.ofW (cc := b_j_StringLatin1_indexOfChar) (maxL := 6) (ret := (some .int)) (by decide) rfl ?_
  intro p e s m args below meth c s₁ B hml hv0
  obtain ⟨rfl, ⟨hP, hK⟩, hSt⟩ := hv0
  have hts := atoms_spec (ws := cd_j_StringLatin1_indexOfChar :: WS) B.pre
  have hown : s.vm.findClass R_java_lang_StringLatin1 = some m.cls := findClass_of_methodNamed B.named
  have hlocks := B.notSynchronized
  have hl := lv_entry ([.ref (sa 11), .int (nI x), .int (nI 0), .int (nI 45)]) (n := 6) (Nat.le_of_ble_eq_true rfl)
  rw [lg_entry_eq]
  generalize (lg_sl ([.ref (sa 11), .int (nI x), .int (nI 0), .int (nI 45)]) ++ List.replicate (6 - (lg_sl ([.ref (sa 11), .int (nI x), .int (nI 0), .int (nI 45)])).length) Slot.unset).toArray = ls at hl ⊢
  refine bd_j_StringLatin1_indexOfChar_no cI cC sa x hx0 hno ⟨B.exec, B.bytes, hml, hown, hts⟩ (Nat.le_refl _) (Nat.le_refl _) ⟨Nat.le_refl _, Nat.le_refl _⟩ hK hSt (fun pc ls H locs hd hS => ?_) ls _ _ hl (va_S.rf (A := noA))
  exact W.iret B.exec B.bytes B.returns (fun t ht _ => ⟨⟨_, (), rfl, rfl, trivial⟩, hS.F ht⟩) hS.2.2 hd
end
section
variable {p : Program} {l : Launch} {e : Env} {R : Room} {s : State} {m : MethodId} {args : Array Value} {below : List Frame} {meth : Method} {c : Code} {cells slots : Nat} {Q : State → Prop} {A : Nat → Prop} {H0 : Heap} {D : va_G}
set_option maxHeartbeats 1000000 in
set_option maxRecDepth 100000 in
theorem lp_j_StringLatin1_indexOfChar_at_7 (cI cC : ClassId) (sa : Nat → Nat) (x x0 : Nat) (hx0 : x < 127) (hx1 : x0 < 45) (hnr : pbT x0 = x) (hlo : ∀ j, j < x0 → pbT j ≠ x) (S : CallFix p m c b_j_StringLatin1_indexOfChar 6 s args (cd_j_StringLatin1_indexOfChar :: WS) R_java_lang_StringLatin1) (hRf : 0 ≤ R.frames) (hRl : 0 ≤ R.locals) (hRc : cells ≤ R.cells ∧ slots ≤ R.slots) (hK : va_K D classes [(cI, .int), (cC, .char)] s) (hSt : SB sa A s s.heap) (kr : ∀ (pc : Nat) (ls : Array Slot) (H : Heap) (locs : List Loc), decode b_j_StringLatin1_indexOfChar pc = .ok (.ireturn, 1) → va_S A s.heap H locs → W p l e R s m args below meth c H locs cells slots Q (F0 m pc ls [.int (nI x0)])) :
    ∀ k, k ≤ x0 → ∀ (ls : Array Slot) (H : Heap) (locs : List Loc), lv_has ls 6 [(0, .ref (sa 11)), (1, .int (nI x)), (2, .int (nI 0)), (3, .int (nI 45)), (4, .int (nI x)), (5, .int (nI k))] → va_S A s.heap H locs → W p l e R s m args below meth c H locs cells slots Q (F0 m 7 ls []) := by
  obtain ⟨hx, hb, hml, hown, hts⟩ := id S
  refine up_loop (fun k hkk ih => ?_)
  intro ls H locs hl hS
  refine lv_iload hx hb d_j_StringLatin1_indexOfChar_7 (lv_at hl 5 rfl) ?_
  refine lv_iload_n hx hb d_j_StringLatin1_indexOfChar_9 rfl (lv_at hl 3 rfl) ?_
  refine n_icmp_ge hx hb d_j_StringLatin1_indexOfChar_10 (tgt := 31) rfl (by omega) (by omega) (fun g10 => absurd g10 (by omega)) (fun g10 => ?_)
  refine lv_aload_n hx hb d_j_StringLatin1_indexOfChar_13 rfl (lv_at hl 0 rfl) ?_
  refine lv_iload hx hb d_j_StringLatin1_indexOfChar_14 (lv_at hl 5 rfl) ?_
  refine n_tb hx hb (ks_by hSt) hS (by omega) (by decide) d_j_StringLatin1_indexOfChar_16 ?_
  rcases Nat.lt_or_ge k x0 with hdd | hdd
  · skip
    refine lv_iload hx hb d_j_StringLatin1_indexOfChar_17 (lv_at hl 4 rfl) ?_
    refine n_icmp_ne hx hb d_j_StringLatin1_indexOfChar_19 (tgt := 25) rfl (by have h9 := (pb_chk k (by omega)).2.1; omega) (by omega) (fun g19 => ?_) (fun g19 => absurd g19 (hlo k hdd))
    refine lv_iinc (k := 5) (v := nI (k + 1)) hx hb d_j_StringLatin1_indexOfChar_25 hl rfl (nx_inc k 1) (Nat.le_of_ble_eq_true rfl) rfl (fun ls hl => ?_)
    have hl : lv_has ls 6 [(5, .int (nI (k + 1))), (0, .ref (sa 11)), (1, .int (nI x)), (2, .int (nI 0)), (3, .int (nI 45)), (4, .int (nI x))] := hl
    refine lv_goto hx hb d_j_StringLatin1_indexOfChar_28 (tgt := 7) rfl ?_
    exact ih (by omega) ls H locs (lv_sub hl [1, 2, 3, 4, 5, 0] rfl) hS
  · skip
    have e0 : k = x0 := by omega
    have hnk : pbT k = x := by rw [e0]; exact hnr
    refine lv_iload hx hb d_j_StringLatin1_indexOfChar_17 (lv_at hl 4 rfl) ?_
    refine n_icmp_ne hx hb d_j_StringLatin1_indexOfChar_19 (tgt := 25) rfl (by have h9 := (pb_chk k (by omega)).2.1; omega) (by omega) (fun g19 => absurd g19 (fun z => z hnk)) (fun g19 => ?_)
    refine lv_iload hx hb d_j_StringLatin1_indexOfChar_22 (lv_at hl 5 rfl) ?_
    refine n_topn (show k = x0 from (by omega)) ?_
    exact kr _ ls H locs d_j_StringLatin1_indexOfChar_24 hS
set_option maxHeartbeats 1000000 in
set_option maxRecDepth 100000 in
theorem bd_j_StringLatin1_indexOfChar_at (cI cC : ClassId) (sa : Nat → Nat) (x x0 : Nat) (hx0 : x < 127) (hx1 : x0 < 45) (hnr : pbT x0 = x) (hlo : ∀ j, j < x0 → pbT j ≠ x) (S : CallFix p m c b_j_StringLatin1_indexOfChar 6 s args (cd_j_StringLatin1_indexOfChar :: WS) R_java_lang_StringLatin1) (hRf : 0 ≤ R.frames) (hRl : 0 ≤ R.locals) (hRc : cells ≤ R.cells ∧ slots ≤ R.slots) (hK : va_K D classes [(cI, .int), (cC, .char)] s) (hSt : SB sa A s s.heap) (kr : ∀ (pc : Nat) (ls : Array Slot) (H : Heap) (locs : List Loc), decode b_j_StringLatin1_indexOfChar pc = .ok (.ireturn, 1) → va_S A s.heap H locs → W p l e R s m args below meth c H locs cells slots Q (F0 m pc ls [.int (nI x0)])) : ∀ (ls : Array Slot) (H : Heap) (locs : List Loc), lv_has ls 6 [(0, .ref (sa 11)), (1, .int (nI x)), (2, .int (nI 0)), (3, .int (nI 45))] → va_S A s.heap H locs → W p l e R s m args below meth c H locs cells slots Q (F0 m 0 ls []) := by
  obtain ⟨hx, hb, hml, hown, hts⟩ := id S
  intro ls H locs hl hS
  refine lv_iload_n hx hb d_j_StringLatin1_indexOfChar_0 rfl (lv_at hl 1 rfl) ?_
  refine lv_i2b (v := nI x) hx hb d_j_StringLatin1_indexOfChar_1 (by_id x hx0) ?_
  refine lv_istore hx hb d_j_StringLatin1_indexOfChar_2 hl (Nat.le_of_ble_eq_true rfl) rfl (fun ls hl => ?_)
  have hl : lv_has ls 6 [(4, .int (nI x)), (0, .ref (sa 11)), (1, .int (nI x)), (2, .int (nI 0)), (3, .int (nI 45))] := hl
  refine lv_iload_n hx hb d_j_StringLatin1_indexOfChar_4 rfl (lv_at hl 3 rfl) ?_
  refine lv_istore hx hb d_j_StringLatin1_indexOfChar_5 hl (Nat.le_of_ble_eq_true rfl) rfl (fun ls hl => ?_)
  have hl : lv_has ls 6 [(5, .int (nI 0)), (4, .int (nI x)), (0, .ref (sa 11)), (1, .int (nI x)), (2, .int (nI 0)), (3, .int (nI 45))] := hl
  exact lp_j_StringLatin1_indexOfChar_at_7 cI cC sa x x0 hx0 hx1 hnr hlo S hRf hRl hRc hK hSt  kr  0 (by omega) ls H locs (lv_sub hl [2, 3, 4, 5, 1, 0] rfl) hS
set_option maxHeartbeats 1000000 in
set_option maxRecDepth 100000 in
theorem c_j_StringLatin1_indexOfChar_at (l : Launch) (D : va_G) (cI cC : ClassId) (sa : Nat → Nat) (x x0 : Nat) (hx0 : x < 127) (hx1 : x0 < 45) (hnr : pbT x0 = x) (hlo : ∀ j, j < x0 → pbT j ≠ x) : Met l y_j_StringLatin1_indexOfChar (cd_j_StringLatin1_indexOfChar :: WS) { frames := 0, cells := 0, slots := 0, locals := 0 } (va_Pc [.ref (sa 11), .int (nI x), .int (nI 0), .int (nI 45)] (srP sa D [] [(cI, .int), (cC, .char)])) (pQ (nI x0)) 0 0 noA := by
  refine Met.ofW (cc := b_j_StringLatin1_indexOfChar) (maxL := 6) (ret := (some .int)) (by decide) rfl ?_
  intro p e s m args below meth c s₁ B hml hv0
  obtain ⟨rfl, ⟨hP, hK⟩, hSt⟩ := hv0
  have hts := atoms_spec (ws := cd_j_StringLatin1_indexOfChar :: WS) B.pre
  have hown : s.vm.findClass R_java_lang_StringLatin1 = some m.cls := findClass_of_methodNamed B.named
  have hlocks := B.notSynchronized
  have hl := lv_entry ([.ref (sa 11), .int (nI x), .int (nI 0), .int (nI 45)]) (n := 6) (Nat.le_of_ble_eq_true rfl)
  rw [lg_entry_eq]
  generalize (lg_sl ([.ref (sa 11), .int (nI x), .int (nI 0), .int (nI 45)]) ++ List.replicate (6 - (lg_sl ([.ref (sa 11), .int (nI x), .int (nI 0), .int (nI 45)])).length) Slot.unset).toArray = ls at hl ⊢
  refine bd_j_StringLatin1_indexOfChar_at cI cC sa x x0 hx0 hx1 hnr hlo ⟨B.exec, B.bytes, hml, hown, hts⟩ (Nat.le_refl _) (Nat.le_refl _) ⟨Nat.le_refl _, Nat.le_refl _⟩ hK hSt (fun pc ls H locs hd hS => ?_) ls _ _ hl (va_S.rf (A := noA))
  exact W.iret B.exec B.bytes B.returns (fun t ht _ => ⟨⟨_, (), rfl, rfl, trivial⟩, hS.F ht⟩) hS.2.2 hd
end
section
variable {p : Program} {l : Launch} {e : Env} {R : Room} {s : State} {m : MethodId} {args : Array Value} {below : List Frame} {meth : Method} {c : Code} {cells slots : Nat} {Q : State → Prop} {A : Nat → Prop} {H0 : Heap} {D : va_G}
set_option maxHeartbeats 1000000 in
set_option maxRecDepth 100000 in
theorem c_j_StringLatin1_indexOfChar (l : Launch) (D : va_G) (cI cC : ClassId) (sa : Nat → Nat) (x : Nat) (hx0 : x < 127) : Met l y_j_StringLatin1_indexOfChar (cd_j_StringLatin1_indexOfChar :: WS) { frames := 0, cells := 0, slots := 0, locals := 0 } (va_Pc [.ref (sa 11), .int (nI x), .int (nI 0), .int (nI 45)] (srP sa D [] [(cI, .int), (cC, .char)])) (pQ (plI x)) 0 0 noA := by
  rcases pl_tab x hx0 with ⟨a1, a2, a3⟩ | ⟨a1, a2⟩
  · rw [a1]
    exact c_j_StringLatin1_indexOfChar_at l D cI cC sa x (pxT x) hx0 a2 a3 (fun j hj z => by have := pb_inj j (by omega) _ a2 (z.trans a3.symm); omega)
  · rw [a1]
    exact c_j_StringLatin1_indexOfChar_no l D cI cC sa x hx0 a2
end
section
theorem d_j_StringLatin1_indexOf_x3_0 : decode b_j_StringLatin1_indexOf_x3 0 = .ok (.iload_n 1, 1) := by decide +kernel
theorem d_j_StringLatin1_indexOf_x3_1 : decode b_j_StringLatin1_indexOf_x3 1 = .ok (.invokestatic 88, 3) := by decide +kernel
theorem d_j_StringLatin1_indexOf_x3_4 : decode b_j_StringLatin1_indexOf_x3 4 = .ok (.ifCond .ne 5, 3) := by decide +kernel
theorem d_j_StringLatin1_indexOf_x3_7 : decode b_j_StringLatin1_indexOf_x3 7 = .ok (.iconst (-1), 1) := by decide +kernel
theorem d_j_StringLatin1_indexOf_x3_8 : decode b_j_StringLatin1_indexOf_x3 8 = .ok (.ireturn, 1) := by decide +kernel
theorem d_j_StringLatin1_indexOf_x3_9 : decode b_j_StringLatin1_indexOf_x3 9 = .ok (.iload_n 2, 1) := by decide +kernel
theorem d_j_StringLatin1_indexOf_x3_10 : decode b_j_StringLatin1_indexOf_x3 10 = .ok (.iconst 0, 1) := by decide +kernel
theorem d_j_StringLatin1_indexOf_x3_11 : decode b_j_StringLatin1_indexOf_x3 11 = .ok (.invokestatic 92, 3) := by decide +kernel
theorem d_j_StringLatin1_indexOf_x3_14 : decode b_j_StringLatin1_indexOf_x3 14 = .ok (.istore_n 2, 1) := by decide +kernel
theorem d_j_StringLatin1_indexOf_x3_15 : decode b_j_StringLatin1_indexOf_x3 15 = .ok (.iload_n 3, 1) := by decide +kernel
theorem d_j_StringLatin1_indexOf_x3_16 : decode b_j_StringLatin1_indexOf_x3 16 = .ok (.aload_n 0, 1) := by decide +kernel
theorem d_j_StringLatin1_indexOf_x3_17 : decode b_j_StringLatin1_indexOf_x3 17 = .ok (.arraylength, 1) := by decide +kernel
theorem d_j_StringLatin1_indexOf_x3_18 : decode b_j_StringLatin1_indexOf_x3 18 = .ok (.invokestatic 38, 3) := by decide +kernel
theorem d_j_StringLatin1_indexOf_x3_21 : decode b_j_StringLatin1_indexOf_x3 21 = .ok (.istore_n 3, 1) := by decide +kernel
theorem d_j_StringLatin1_indexOf_x3_22 : decode b_j_StringLatin1_indexOf_x3 22 = .ok (.iload_n 2, 1) := by decide +kernel
theorem d_j_StringLatin1_indexOf_x3_23 : decode b_j_StringLatin1_indexOf_x3 23 = .ok (.iload_n 3, 1) := by decide +kernel
theorem d_j_StringLatin1_indexOf_x3_24 : decode b_j_StringLatin1_indexOf_x3 24 = .ok (.if_icmp .lt 5, 3) := by decide +kernel
theorem d_j_StringLatin1_indexOf_x3_27 : decode b_j_StringLatin1_indexOf_x3 27 = .ok (.iconst (-1), 1) := by decide +kernel
theorem d_j_StringLatin1_indexOf_x3_28 : decode b_j_StringLatin1_indexOf_x3 28 = .ok (.ireturn, 1) := by decide +kernel
theorem d_j_StringLatin1_indexOf_x3_29 : decode b_j_StringLatin1_indexOf_x3 29 = .ok (.aload_n 0, 1) := by decide +kernel
theorem d_j_StringLatin1_indexOf_x3_30 : decode b_j_StringLatin1_indexOf_x3 30 = .ok (.iload_n 1, 1) := by decide +kernel
theorem d_j_StringLatin1_indexOf_x3_31 : decode b_j_StringLatin1_indexOf_x3 31 = .ok (.iload_n 2, 1) := by decide +kernel
theorem d_j_StringLatin1_indexOf_x3_32 : decode b_j_StringLatin1_indexOf_x3 32 = .ok (.iload_n 3, 1) := by decide +kernel
theorem d_j_StringLatin1_indexOf_x3_33 : decode b_j_StringLatin1_indexOf_x3 33 = .ok (.invokestatic 95, 3) := by decide +kernel
theorem d_j_StringLatin1_indexOf_x3_36 : decode b_j_StringLatin1_indexOf_x3 36 = .ok (.ireturn, 1) := by decide +kernel
end
section
variable {p : Program} {l : Launch} {e : Env} {R : Room} {s : State} {m : MethodId} {args : Array Value} {below : List Frame} {meth : Method} {c : Code} {cells slots : Nat} {Q : State → Prop} {A : Nat → Prop} {H0 : Heap} {D : va_G}
set_option maxHeartbeats 1000000 in
set_option maxRecDepth 100000 in
theorem bd_j_StringLatin1_indexOf_x3 (cI cC : ClassId) (sa : Nat → Nat) (x : Nat) (hx0 : x < 127) (S : CallFix p m c b_j_StringLatin1_indexOf_x3 4 s args (cd_j_StringLatin1_indexOf_x3 :: WS) R_java_lang_StringLatin1) (hRf : 1 ≤ R.frames) (hRl : 25 ≤ R.locals) (hRc : cells ≤ R.cells ∧ slots ≤ R.slots) (hK : va_K D classes [(cI, .int), (cC, .char)] s) (hSt : SB sa A s s.heap) (kr : ∀ (pc : Nat) (ls : Array Slot) (H : Heap) (locs : List Loc), decode b_j_StringLatin1_indexOf_x3 pc = .ok (.ireturn, 1) → va_S A s.heap H locs → W p l e R s m args below meth c H locs cells slots Q (F0 m pc ls [.int (plI x)])) : ∀ (ls : Array Slot) (H : Heap) (locs : List Loc), lv_has ls 4 [(0, .ref (sa 11)), (1, .int (nI x)), (2, .int (nI 0)), (3, .int (nI 45))] → va_S A s.heap H locs → W p l e R s m args below meth c H locs cells slots Q (F0 m 0 ls []) := by
  obtain ⟨hx, hb, hml, hown, hts⟩ := id S
  intro ls H locs hl hS
  refine lv_iload_n hx hb d_j_StringLatin1_indexOf_x3_0 rfl (lv_at hl 1 rfl) ?_
  refine q_pureS (n := 1) (As := [.int (nI x)]) (rest := []) S (c_j_StringLatin1_canEncode l x (by omega)) (q_goodS kw_424 kw_425 kw_18 kw_426) (by decide +kernel) rfl rfl ⟨Nat.le_trans (Nat.le_of_ble_eq_true rfl) hRf, Nat.le_trans (Nat.le_of_ble_eq_true rfl) hRl⟩ rfl hl.1 rfl (Nat.le_of_ble_eq_true rfl) d_j_StringLatin1_indexOf_x3_1 hRc hS (fun H locs hkp hS => ?_)
  refine n_if_ne hx hb d_j_StringLatin1_indexOf_x3_4 (tgt := 9) rfl (by omega) (fun g4 => ?_) (fun g4 => absurd g4 (by decide))
  refine lv_iload_n hx hb d_j_StringLatin1_indexOf_x3_9 rfl (lv_at hl 2 rfl) ?_
  refine lv_iconst (v := nI 0) hx hb d_j_StringLatin1_indexOf_x3_10 (by decide) ?_
  refine q_pureS (n := 2) (As := [.int (nI 0), .int (nI 0)]) (rest := []) S (c_j_Math_max_x4 l 0 0 (by decide) (by decide)) (q_goodS kw_427 kw_428 kw_19 kw_429) (by decide +kernel) rfl rfl ⟨Nat.le_trans (Nat.le_of_ble_eq_true rfl) hRf, Nat.le_trans (Nat.le_of_ble_eq_true rfl) hRl⟩ rfl hl.1 rfl (Nat.le_of_ble_eq_true rfl) d_j_StringLatin1_indexOf_x3_11 hRc hS (fun H locs hkp hS => ?_)
  refine n_topn (show max 0 0 = 0 from rfl) ?_
  refine lv_istore_n hx hb d_j_StringLatin1_indexOf_x3_14 rfl hl (Nat.le_of_ble_eq_true rfl) rfl (fun ls hl => ?_)
  have hl : lv_has ls 4 [(2, .int (nI 0)), (0, .ref (sa 11)), (1, .int (nI x)), (3, .int (nI 45))] := hl
  refine lv_iload_n hx hb d_j_StringLatin1_indexOf_x3_15 rfl (lv_at hl 3 rfl) ?_
  refine lv_aload_n hx hb d_j_StringLatin1_indexOf_x3_16 rfl (lv_at hl 1 rfl) ?_
  refine va_tlen (v := nI 45) hx hb (ks_by hSt) hS rfl d_j_StringLatin1_indexOf_x3_17 ?_
  refine q_pureS (n := 2) (As := [.int (nI 45), .int (nI 45)]) (rest := []) S (c_j_Math_min l 45 45 (by decide) (by decide)) (q_goodS kw_430 kw_431 kw_19 kw_432) (by decide +kernel) rfl rfl ⟨Nat.le_trans (Nat.le_of_ble_eq_true rfl) hRf, Nat.le_trans (Nat.le_of_ble_eq_true rfl) hRl⟩ rfl hl.1 rfl (Nat.le_of_ble_eq_true rfl) d_j_StringLatin1_indexOf_x3_18 hRc hS (fun H locs hkp hS => ?_)
  refine n_topn (show min 45 45 = 45 from rfl) ?_
  refine lv_istore_n hx hb d_j_StringLatin1_indexOf_x3_21 rfl hl (Nat.le_of_ble_eq_true rfl) rfl (fun ls hl => ?_)
  have hl : lv_has ls 4 [(3, .int (nI 45)), (2, .int (nI 0)), (0, .ref (sa 11)), (1, .int (nI x))] := hl
  refine lv_iload_n hx hb d_j_StringLatin1_indexOf_x3_22 rfl (lv_at hl 1 rfl) ?_
  refine lv_iload_n hx hb d_j_StringLatin1_indexOf_x3_23 rfl (lv_at hl 0 rfl) ?_
  refine n_icmp_lt hx hb d_j_StringLatin1_indexOf_x3_24 (tgt := 29) rfl (by omega) (by omega) (fun g24 => ?_) (fun g24 => absurd g24 (by decide))
  refine lv_aload_n hx hb d_j_StringLatin1_indexOf_x3_29 rfl (lv_at hl 2 rfl) ?_
  refine lv_iload_n hx hb d_j_StringLatin1_indexOf_x3_30 rfl (lv_at hl 3 rfl) ?_
  refine lv_iload_n hx hb d_j_StringLatin1_indexOf_x3_31 rfl (lv_at hl 1 rfl) ?_
  refine lv_iload_n hx hb d_j_StringLatin1_indexOf_x3_32 rfl (lv_at hl 0 rfl) ?_
  refine q_readSs (n := 4) (As := [.ref (sa 11), .int (nI x), .int (nI 0), .int (nI 45)]) (rest := []) (wc := []) S (c_j_StringLatin1_indexOfChar l D cI cC sa x hx0) hSt hK va_P0 [] rfl (q_goodS kw_433 kw_434 kw_18 kw_435) (by decide +kernel) rfl rfl ⟨Nat.le_trans (Nat.le_of_ble_eq_true rfl) hRf, Nat.le_trans (Nat.le_of_ble_eq_true rfl) hRl⟩ rfl hl.1 rfl (Nat.le_of_ble_eq_true rfl) d_j_StringLatin1_indexOf_x3_33 hRc hS (fun H locs _ hS => ?_)
  exact kr _ ls H locs d_j_StringLatin1_indexOf_x3_36 hS
set_option maxHeartbeats 1000000 in
set_option maxRecDepth 100000 in
theorem c_j_StringLatin1_indexOf_x3 (l : Launch) (D : va_G) (cI cC : ClassId) (sa : Nat → Nat) (x : Nat) (hx0 : x < 127) : Met l y_j_StringLatin1_indexOf_x3 (cd_j_StringLatin1_indexOf_x3 :: WS) { frames := 1, cells := 0, slots := 0, locals := 25 } (va_Pc [.ref (sa 11), .int (nI x), .int (nI 0), .int (nI 45)] (srP sa D [] [(cI, .int), (cC, .char)])) (pQ (plI x)) 0 0 noA := by
  refine Met.ofW (cc := b_j_StringLatin1_indexOf_x3) (maxL := 4) (ret := (some .int)) (by decide) rfl ?_
  intro p e s m args below meth c s₁ B hml hv0
  obtain ⟨rfl, ⟨hP, hK⟩, hSt⟩ := hv0
  have hts := atoms_spec (ws := cd_j_StringLatin1_indexOf_x3 :: WS) B.pre
  have hown : s.vm.findClass R_java_lang_StringLatin1 = some m.cls := findClass_of_methodNamed B.named
  have hlocks := B.notSynchronized
  have hl := lv_entry ([.ref (sa 11), .int (nI x), .int (nI 0), .int (nI 45)]) (n := 4) (Nat.le_of_ble_eq_true rfl)
  rw [lg_entry_eq]
  generalize (lg_sl ([.ref (sa 11), .int (nI x), .int (nI 0), .int (nI 45)]) ++ List.replicate (4 - (lg_sl ([.ref (sa 11), .int (nI x), .int (nI 0), .int (nI 45)])).length) Slot.unset).toArray = ls at hl ⊢
  refine bd_j_StringLatin1_indexOf_x3 cI cC sa x hx0 ⟨B.exec, B.bytes, hml, hown, hts⟩ (Nat.le_refl _) (Nat.le_refl _) ⟨Nat.le_refl _, Nat.le_refl _⟩ hK hSt (fun pc ls H locs hd hS => ?_) ls _ _ hl (va_S.rf (A := noA))
  exact W.iret B.exec B.bytes B.returns (fun t ht _ => ⟨⟨_, (), rfl, rfl, trivial⟩, hS.F ht⟩) hS.2.2 hd
end
section
theorem d_j_String_indexOf_1_0 : decode b_j_String_indexOf_1 0 = .ok (.aload_n 0, 1) := by decide +kernel
theorem d_j_String_indexOf_1_1 : decode b_j_String_indexOf_1 1 = .ok (.invokevirtual 492, 3) := by decide +kernel
theorem d_j_String_indexOf_1_4 : decode b_j_String_indexOf_1 4 = .ok (.ifCond .eq 19, 3) := by decide +kernel
theorem d_j_String_indexOf_1_7 : decode b_j_String_indexOf_1 7 = .ok (.aload_n 0, 1) := by decide +kernel
theorem d_j_String_indexOf_1_8 : decode b_j_String_indexOf_1 8 = .ok (.getfield 9, 3) := by decide +kernel
theorem d_j_String_indexOf_1_11 : decode b_j_String_indexOf_1 11 = .ok (.iload_n 1, 1) := by decide +kernel
theorem d_j_String_indexOf_1_12 : decode b_j_String_indexOf_1 12 = .ok (.iload_n 2, 1) := by decide +kernel
theorem d_j_String_indexOf_1_13 : decode b_j_String_indexOf_1 13 = .ok (.aload_n 0, 1) := by decide +kernel
theorem d_j_String_indexOf_1_14 : decode b_j_String_indexOf_1 14 = .ok (.invokevirtual 505, 3) := by decide +kernel
theorem d_j_String_indexOf_1_17 : decode b_j_String_indexOf_1 17 = .ok (.invokestatic 637, 3) := by decide +kernel
theorem d_j_String_indexOf_1_20 : decode b_j_String_indexOf_1 20 = .ok (.goto 16, 3) := by decide +kernel
theorem d_j_String_indexOf_1_23 : decode b_j_String_indexOf_1 23 = .ok (.aload_n 0, 1) := by decide +kernel
theorem d_j_String_indexOf_1_24 : decode b_j_String_indexOf_1 24 = .ok (.getfield 9, 3) := by decide +kernel
theorem d_j_String_indexOf_1_27 : decode b_j_String_indexOf_1 27 = .ok (.iload_n 1, 1) := by decide +kernel
theorem d_j_String_indexOf_1_28 : decode b_j_String_indexOf_1 28 = .ok (.iload_n 2, 1) := by decide +kernel
theorem d_j_String_indexOf_1_29 : decode b_j_String_indexOf_1 29 = .ok (.aload_n 0, 1) := by decide +kernel
theorem d_j_String_indexOf_1_30 : decode b_j_String_indexOf_1 30 = .ok (.invokevirtual 505, 3) := by decide +kernel
theorem d_j_String_indexOf_1_33 : decode b_j_String_indexOf_1 33 = .ok (.invokestatic 640, 3) := by decide +kernel
theorem d_j_String_indexOf_1_36 : decode b_j_String_indexOf_1 36 = .ok (.ireturn, 1) := by decide +kernel
end
section
variable {p : Program} {l : Launch} {e : Env} {R : Room} {s : State} {m : MethodId} {args : Array Value} {below : List Frame} {meth : Method} {c : Code} {cells slots : Nat} {Q : State → Prop} {A : Nat → Prop} {H0 : Heap} {D : va_G}
set_option maxHeartbeats 1000000 in
set_option maxRecDepth 100000 in
theorem bd_j_String_indexOf_1 (cI cC : ClassId) (sa : Nat → Nat) (x : Nat) (hx0 : x < 127) (S : CallFix p m c b_j_String_indexOf_1 3 s args (cd_j_String_indexOf_1 :: WS) R_java_lang_String) (hRf : 2 ≤ R.frames) (hRl : 48 ≤ R.locals) (hRc : cells ≤ R.cells ∧ slots ≤ R.slots) (hK : va_K D classes [(cI, .int), (cC, .char)] s) (hSt : SB sa A s s.heap) (kr : ∀ (pc : Nat) (ls : Array Slot) (H : Heap) (locs : List Loc), decode b_j_String_indexOf_1 pc = .ok (.ireturn, 1) → va_S A s.heap H locs → W p l e R s m args below meth c H locs cells slots Q (F0 m pc ls [.int (plI x)])) : ∀ (ls : Array Slot) (H : Heap) (locs : List Loc), lv_has ls 3 [(0, .ref (sa 10)), (1, .int (nI x)), (2, .int (nI 0))] → va_S A s.heap H locs → W p l e R s m args below meth c H locs cells slots Q (F0 m 0 ls []) := by
  obtain ⟨hx, hb, hml, hown, hts⟩ := id S
  intro ls H locs hl hS
  refine lv_aload_n hx hb d_j_String_indexOf_1_0 rfl (lv_at hl 0 rfl) ?_
  refine q_readVr (n := 0) (As := []) (rest := []) (wc := []) S (c_j_String_isLatin1 l D cI cC sa) hSt hK va_P0 (o_recv (ks_o hSt) hS) [] rfl (q_goodV kw_407 kw_408 kw_409 kw_17 kw_410) (by decide +kernel) rfl rfl rfl ⟨Nat.le_trans (Nat.le_of_ble_eq_true rfl) hRf, Nat.le_trans (Nat.le_of_ble_eq_true rfl) hRl⟩ rfl hl.1 rfl (Nat.le_of_ble_eq_true rfl) d_j_String_indexOf_1_1 hRc hS (fun H locs _ hS => ?_)
  refine n_if_eq hx hb d_j_String_indexOf_1_4 (tgt := 23) rfl (by omega) (fun g4 => absurd g4 (by decide)) (fun g4 => ?_)
  refine lv_aload_n hx hb d_j_String_indexOf_1_7 rfl (lv_at hl 0 rfl) ?_
  refine n_kget hx hb hts (ks_value hSt) hS hown kw_1010 d_j_String_indexOf_1_8 ?_
  refine lv_iload_n hx hb d_j_String_indexOf_1_11 rfl (lv_at hl 1 rfl) ?_
  refine lv_iload_n hx hb d_j_String_indexOf_1_12 rfl (lv_at hl 2 rfl) ?_
  refine lv_aload_n hx hb d_j_String_indexOf_1_13 rfl (lv_at hl 0 rfl) ?_
  refine q_readVr (n := 0) (As := []) (rest := [.int (nI 0), .int (nI x), .ref (sa 11)]) (wc := []) S (c_j_String_length_x1 l D cI cC sa) hSt hK va_P0 (o_recv (ks_o hSt) hS) [] rfl (q_goodV kw_413 kw_414 kw_415 kw_17 kw_416) (by decide +kernel) rfl rfl rfl ⟨Nat.le_trans (Nat.le_of_ble_eq_true rfl) hRf, Nat.le_trans (Nat.le_of_ble_eq_true rfl) hRl⟩ rfl hl.1 rfl (Nat.le_of_ble_eq_true rfl) d_j_String_indexOf_1_14 hRc hS (fun H locs _ hS => ?_)
  refine q_readSs (n := 4) (As := [.ref (sa 11), .int (nI x), .int (nI 0), .int (nI 45)]) (rest := []) (wc := []) S (c_j_StringLatin1_indexOf_x3 l D cI cC sa x hx0) hSt hK va_P0 [] rfl (q_goodS kw_421 kw_422 kw_18 kw_423) (by decide +kernel) rfl rfl ⟨Nat.le_trans (Nat.le_of_ble_eq_true rfl) hRf, Nat.le_trans (Nat.le_of_ble_eq_true rfl) hRl⟩ rfl hl.1 rfl (Nat.le_of_ble_eq_true rfl) d_j_String_indexOf_1_17 hRc hS (fun H locs _ hS => ?_)
  refine lv_goto hx hb d_j_String_indexOf_1_20 (tgt := 36) rfl ?_
  exact kr _ ls H locs d_j_String_indexOf_1_36 hS
set_option maxHeartbeats 1000000 in
set_option maxRecDepth 100000 in
theorem c_j_String_indexOf_1 (l : Launch) (D : va_G) (cI cC : ClassId) (sa : Nat → Nat) (x : Nat) (hx0 : x < 127) : Met l y_j_String_indexOf_1 (cd_j_String_indexOf_1 :: WS) { frames := 2, cells := 0, slots := 0, locals := 48 } (va_Pc [.ref (sa 10), .int (nI x), .int (nI 0)] (srP sa D [] [(cI, .int), (cC, .char)])) (pQ (plI x)) 0 0 noA := by
  refine Met.ofW (cc := b_j_String_indexOf_1) (maxL := 3) (ret := (some .int)) (by decide) rfl ?_
  intro p e s m args below meth c s₁ B hml hv0
  obtain ⟨rfl, ⟨hP, hK⟩, hSt⟩ := hv0
  have hts := atoms_spec (ws := cd_j_String_indexOf_1 :: WS) B.pre
  have hown : s.vm.findClass R_java_lang_String = some m.cls := findClass_of_methodNamed B.named
  have hlocks := B.notSynchronized
  have hl := lv_entry ([.ref (sa 10), .int (nI x), .int (nI 0)]) (n := 3) (Nat.le_of_ble_eq_true rfl)
  rw [lg_entry_eq]
  generalize (lg_sl ([.ref (sa 10), .int (nI x), .int (nI 0)]) ++ List.replicate (3 - (lg_sl ([.ref (sa 10), .int (nI x), .int (nI 0)])).length) Slot.unset).toArray = ls at hl ⊢
  refine bd_j_String_indexOf_1 cI cC sa x hx0 ⟨B.exec, B.bytes, hml, hown, hts⟩ (Nat.le_refl _) (Nat.le_refl _) ⟨Nat.le_refl _, Nat.le_refl _⟩ hK hSt (fun pc ls H locs hd hS => ?_) ls _ _ hl (va_S.rf (A := noA))
  exact W.iret B.exec B.bytes B.returns (fun t ht _ => ⟨⟨_, (), rfl, rfl, trivial⟩, hS.F ht⟩) hS.2.2 hd
end
section
theorem d_j_String_indexOf_0_0 : decode b_j_String_indexOf_0 0 = .ok (.aload_n 0, 1) := by decide +kernel
theorem d_j_String_indexOf_0_1 : decode b_j_String_indexOf_0 1 = .ok (.iload_n 1, 1) := by decide +kernel
theorem d_j_String_indexOf_0_2 : decode b_j_String_indexOf_0 2 = .ok (.iconst 0, 1) := by decide +kernel
theorem d_j_String_indexOf_0_3 : decode b_j_String_indexOf_0 3 = .ok (.invokevirtual 633, 3) := by decide +kernel
theorem d_j_String_indexOf_0_6 : decode b_j_String_indexOf_0 6 = .ok (.ireturn, 1) := by decide +kernel
end
section
variable {p : Program} {l : Launch} {e : Env} {R : Room} {s : State} {m : MethodId} {args : Array Value} {below : List Frame} {meth : Method} {c : Code} {cells slots : Nat} {Q : State → Prop} {A : Nat → Prop} {H0 : Heap} {D : va_G}
set_option maxHeartbeats 1000000 in
set_option maxRecDepth 100000 in
theorem bd_j_String_indexOf_0 (cI cC : ClassId) (sa : Nat → Nat) (x : Nat) (hx0 : x < 127) (S : CallFix p m c b_j_String_indexOf_0 2 s args (cd_j_String_indexOf_0 :: WS) R_java_lang_String) (hRf : 3 ≤ R.frames) (hRl : 70 ≤ R.locals) (hRc : cells ≤ R.cells ∧ slots ≤ R.slots) (hK : va_K D classes [(cI, .int), (cC, .char)] s) (hSt : SB sa A s s.heap) (kr : ∀ (pc : Nat) (ls : Array Slot) (H : Heap) (locs : List Loc), decode b_j_String_indexOf_0 pc = .ok (.ireturn, 1) → va_S A s.heap H locs → W p l e R s m args below meth c H locs cells slots Q (F0 m pc ls [.int (plI x)])) : ∀ (ls : Array Slot) (H : Heap) (locs : List Loc), lv_has ls 2 [(0, .ref (sa 10)), (1, .int (nI x))] → va_S A s.heap H locs → W p l e R s m args below meth c H locs cells slots Q (F0 m 0 ls []) := by
  obtain ⟨hx, hb, hml, hown, hts⟩ := id S
  intro ls H locs hl hS
  refine lv_aload_n hx hb d_j_String_indexOf_0_0 rfl (lv_at hl 0 rfl) ?_
  refine lv_iload_n hx hb d_j_String_indexOf_0_1 rfl (lv_at hl 1 rfl) ?_
  refine lv_iconst (v := nI 0) hx hb d_j_String_indexOf_0_2 (by decide) ?_
  refine q_readVr (n := 2) (As := [.int (nI x), .int (nI 0)]) (rest := []) (wc := []) S (c_j_String_indexOf_1 l D cI cC sa x hx0) hSt hK va_P0 (o_recv (ks_o hSt) hS) [] rfl (q_goodV kw_403 kw_404 kw_405 kw_17 kw_406) (by decide +kernel) rfl rfl rfl ⟨Nat.le_trans (Nat.le_of_ble_eq_true rfl) hRf, Nat.le_trans (Nat.le_of_ble_eq_true rfl) hRl⟩ rfl hl.1 rfl (Nat.le_of_ble_eq_true rfl) d_j_String_indexOf_0_3 hRc hS (fun H locs _ hS => ?_)
  exact kr _ ls H locs d_j_String_indexOf_0_6 hS
set_option maxHeartbeats 1000000 in
set_option maxRecDepth 100000 in
theorem c_j_String_indexOf_0 (l : Launch) (D : va_G) (cI cC : ClassId) (sa : Nat → Nat) (x : Nat) (hx0 : x < 127) : Met l y_j_String_indexOf_0 (cd_j_String_indexOf_0 :: WS) { frames := 3, cells := 0, slots := 0, locals := 70 } (va_Pc [.ref (sa 10), .int (nI x)] (srP sa D [] [(cI, .int), (cC, .char)])) (pQ (plI x)) 0 0 noA := by
  refine Met.ofW (cc := b_j_String_indexOf_0) (maxL := 2) (ret := (some .int)) (by decide) rfl ?_
  intro p e s m args below meth c s₁ B hml hv0
  obtain ⟨rfl, ⟨hP, hK⟩, hSt⟩ := hv0
  have hts := atoms_spec (ws := cd_j_String_indexOf_0 :: WS) B.pre
  have hown : s.vm.findClass R_java_lang_String = some m.cls := findClass_of_methodNamed B.named
  have hlocks := B.notSynchronized
  have hl := lv_entry ([.ref (sa 10), .int (nI x)]) (n := 2) (Nat.le_of_ble_eq_true rfl)
  rw [lg_entry_eq]
  generalize (lg_sl ([.ref (sa 10), .int (nI x)]) ++ List.replicate (2 - (lg_sl ([.ref (sa 10), .int (nI x)])).length) Slot.unset).toArray = ls at hl ⊢
  refine bd_j_String_indexOf_0 cI cC sa x hx0 ⟨B.exec, B.bytes, hml, hown, hts⟩ (Nat.le_refl _) (Nat.le_refl _) ⟨Nat.le_refl _, Nat.le_refl _⟩ hK hSt (fun pc ls H locs hd hS => ?_) ls _ _ hl (va_S.rf (A := noA))
  exact W.iret B.exec B.bytes B.returns (fun t ht _ => ⟨⟨_, (), rfl, rfl, trivial⟩, hS.F ht⟩) hS.2.2 hd
end
section
theorem d_j_Preconditions_checkIndex_x7_0 : decode b_j_Preconditions_checkIndex_x7 0 = .ok (.iload_n 0, 1) := by decide +kernel
theorem d_j_Preconditions_checkIndex_x7_1 : decode b_j_Preconditions_checkIndex_x7 1 = .ok (.ifCond .lt 8, 3) := by decide +kernel
theorem d_j_Preconditions_checkIndex_x7_4 : decode b_j_Preconditions_checkIndex_x7 4 = .ok (.iload_n 0, 1) := by decide +kernel
theorem d_j_Preconditions_checkIndex_x7_5 : decode b_j_Preconditions_checkIndex_x7 5 = .ok (.iload_n 1, 1) := by decide +kernel
theorem d_j_Preconditions_checkIndex_x7_6 : decode b_j_Preconditions_checkIndex_x7 6 = .ok (.if_icmp .lt 10, 3) := by decide +kernel
theorem d_j_Preconditions_checkIndex_x7_9 : decode b_j_Preconditions_checkIndex_x7 9 = .ok (.aload_n 2, 1) := by decide +kernel
theorem d_j_Preconditions_checkIndex_x7_10 : decode b_j_Preconditions_checkIndex_x7 10 = .ok (.iload_n 0, 1) := by decide +kernel
theorem d_j_Preconditions_checkIndex_x7_11 : decode b_j_Preconditions_checkIndex_x7 11 = .ok (.iload_n 1, 1) := by decide +kernel
theorem d_j_Preconditions_checkIndex_x7_12 : decode b_j_Preconditions_checkIndex_x7 12 = .ok (.invokestatic 95, 3) := by decide +kernel
theorem d_j_Preconditions_checkIndex_x7_15 : decode b_j_Preconditions_checkIndex_x7 15 = .ok (.athrow, 1) := by decide +kernel
theorem d_j_Preconditions_checkIndex_x7_16 : decode b_j_Preconditions_checkIndex_x7 16 = .ok (.iload_n 0, 1) := by decide +kernel
theorem d_j_Preconditions_checkIndex_x7_17 : decode b_j_Preconditions_checkIndex_x7 17 = .ok (.ireturn, 1) := by decide +kernel
end
section
variable {p : Program} {l : Launch} {e : Env} {R : Room} {s : State} {m : MethodId} {args : Array Value} {below : List Frame} {meth : Method} {c : Code} {cells slots : Nat} {Q : State → Prop} {A : Nat → Prop} {H0 : Heap} {D : va_G}
set_option maxHeartbeats 1000000 in
set_option maxRecDepth 100000 in
theorem bd_j_Preconditions_checkIndex_x7_n (cI cC : ClassId) (x y : Nat) (hx0 : x < y) (hy0 : y < 2 ^ 31) (S : CallFix p m c b_j_Preconditions_checkIndex_x7 3 s args (cd_j_Preconditions_checkIndex_x7 :: WS) R_jdk_internal_util_Preconditions) (hRf : 0 ≤ R.frames) (hRl : 0 ≤ R.locals) (hRc : cells ≤ R.cells ∧ slots ≤ R.slots) (hK : va_K D classes [(cI, .int), (cC, .char)] s) (kr : ∀ (pc : Nat) (ls : Array Slot) (H : Heap) (locs : List Loc), decode b_j_Preconditions_checkIndex_x7 pc = .ok (.ireturn, 1) → va_S A H0 H locs → W p l e R s m args below meth c H locs cells slots Q (F0 m pc ls [.int (nI x)])) : ∀ (ls : Array Slot) (H : Heap) (locs : List Loc), lv_has ls 3 [(0, .int (nI x)), (1, .int (nI y)), (2, .null)] → va_S A H0 H locs → W p l e R s m args below meth c H locs cells slots Q (F0 m 0 ls []) := by
  obtain ⟨hx, hb, hml, hown, hts⟩ := id S
  intro ls H locs hl hS
  refine lv_iload_n hx hb d_j_Preconditions_checkIndex_x7_0 rfl (lv_at hl 0 rfl) ?_
  refine n_if_lt hx hb d_j_Preconditions_checkIndex_x7_1 (tgt := 9) rfl (by omega) ?_
  refine lv_iload_n hx hb d_j_Preconditions_checkIndex_x7_4 rfl (lv_at hl 0 rfl) ?_
  refine lv_iload_n hx hb d_j_Preconditions_checkIndex_x7_5 rfl (lv_at hl 1 rfl) ?_
  refine n_icmp_lt hx hb d_j_Preconditions_checkIndex_x7_6 (tgt := 16) rfl (by omega) (by omega) (fun g6 => ?_) (fun g6 => absurd g6 (by omega))
  refine lv_iload_n hx hb d_j_Preconditions_checkIndex_x7_16 rfl (lv_at hl 0 rfl) ?_
  exact kr _ ls H locs d_j_Preconditions_checkIndex_x7_17 hS
set_option maxHeartbeats 1000000 in
set_option maxRecDepth 100000 in
theorem c_j_Preconditions_checkIndex_x7_n (l : Launch) (D : va_G) (cI cC : ClassId) (x y : Nat) (hx0 : x < y) (hy0 : y < 2 ^ 31) : Met l y_j_Preconditions_checkIndex_x7 (cd_j_Preconditions_checkIndex_x7 :: WS) { frames := 0, cells := 0, slots := 0, locals := 0 } (va_Pc [.int (nI x), .int (nI y), .null] (rP D [] [(cI, .int), (cC, .char)])) (pQ (nI x)) 0 0 noA := by
  refine Met.ofW (cc := b_j_Preconditions_checkIndex_x7) (maxL := 3) (ret := (some .int)) (by decide) rfl ?_
  intro p e s m args below meth c s₁ B hml hv0
  obtain ⟨rfl, hP, hK⟩ := hv0
  have hts := atoms_spec (ws := cd_j_Preconditions_checkIndex_x7 :: WS) B.pre
  have hown : s.vm.findClass R_jdk_internal_util_Preconditions = some m.cls := findClass_of_methodNamed B.named
  have hlocks := B.notSynchronized
  have hl := lv_entry ([.int (nI x), .int (nI y), .null]) (n := 3) (Nat.le_of_ble_eq_true rfl)
  rw [lg_entry_eq]
  generalize (lg_sl ([.int (nI x), .int (nI y), .null]) ++ List.replicate (3 - (lg_sl ([.int (nI x), .int (nI y), .null])).length) Slot.unset).toArray = ls at hl ⊢
  refine bd_j_Preconditions_checkIndex_x7_n cI cC x y hx0 hy0 ⟨B.exec, B.bytes, hml, hown, hts⟩ (Nat.le_refl _) (Nat.le_refl _) ⟨Nat.le_refl _, Nat.le_refl _⟩ hK (fun pc ls H locs hd hS => ?_) ls _ _ hl (va_S.rf (A := noA))
  exact W.iret B.exec B.bytes B.returns (fun t ht _ => ⟨⟨_, (), rfl, rfl, trivial⟩, hS.F ht⟩) hS.2.2 hd
end
section
variable {p : Program} {l : Launch} {e : Env} {R : Room} {s : State} {m : MethodId} {args : Array Value} {below : List Frame} {meth : Method} {c : Code} {cells slots : Nat} {Q : State → Prop} {A : Nat → Prop} {H0 : Heap} {D : va_G}
set_option maxHeartbeats 1000000 in
set_option maxRecDepth 100000 in
theorem bd_j_Preconditions_checkIndex_x7_r (cI cC : ClassId) (x y fz : Nat) (hx0 : x < y) (hy0 : y < 2 ^ 31) (S : CallFix p m c b_j_Preconditions_checkIndex_x7 3 s args (cd_j_Preconditions_checkIndex_x7 :: WS) R_jdk_internal_util_Preconditions) (hRf : 0 ≤ R.frames) (hRl : 0 ≤ R.locals) (hRc : cells ≤ R.cells ∧ slots ≤ R.slots) (hK : va_K D classes [(cI, .int), (cC, .char)] s) (kr : ∀ (pc : Nat) (ls : Array Slot) (H : Heap) (locs : List Loc), decode b_j_Preconditions_checkIndex_x7 pc = .ok (.ireturn, 1) → va_S A H0 H locs → W p l e R s m args below meth c H locs cells slots Q (F0 m pc ls [.int (nI x)])) : ∀ (ls : Array Slot) (H : Heap) (locs : List Loc), lv_has ls 3 [(0, .int (nI x)), (1, .int (nI y)), (2, .ref fz)] → va_S A H0 H locs → W p l e R s m args below meth c H locs cells slots Q (F0 m 0 ls []) := by
  obtain ⟨hx, hb, hml, hown, hts⟩ := id S
  intro ls H locs hl hS
  refine lv_iload_n hx hb d_j_Preconditions_checkIndex_x7_0 rfl (lv_at hl 0 rfl) ?_
  refine n_if_lt hx hb d_j_Preconditions_checkIndex_x7_1 (tgt := 9) rfl (by omega) ?_
  refine lv_iload_n hx hb d_j_Preconditions_checkIndex_x7_4 rfl (lv_at hl 0 rfl) ?_
  refine lv_iload_n hx hb d_j_Preconditions_checkIndex_x7_5 rfl (lv_at hl 1 rfl) ?_
  refine n_icmp_lt hx hb d_j_Preconditions_checkIndex_x7_6 (tgt := 16) rfl (by omega) (by omega) (fun g6 => ?_) (fun g6 => absurd g6 (by omega))
  refine lv_iload_n hx hb d_j_Preconditions_checkIndex_x7_16 rfl (lv_at hl 0 rfl) ?_
  exact kr _ ls H locs d_j_Preconditions_checkIndex_x7_17 hS
set_option maxHeartbeats 1000000 in
set_option maxRecDepth 100000 in
theorem c_j_Preconditions_checkIndex_x7_r (l : Launch) (D : va_G) (cI cC : ClassId) (x y fz : Nat) (hx0 : x < y) (hy0 : y < 2 ^ 31) : Met l y_j_Preconditions_checkIndex_x7 (cd_j_Preconditions_checkIndex_x7 :: WS) { frames := 0, cells := 0, slots := 0, locals := 0 } (va_Pc [.int (nI x), .int (nI y), .ref fz] (rP D [] [(cI, .int), (cC, .char)])) (pQ (nI x)) 0 0 noA := by
  refine Met.ofW (cc := b_j_Preconditions_checkIndex_x7) (maxL := 3) (ret := (some .int)) (by decide) rfl ?_
  intro p e s m args below meth c s₁ B hml hv0
  obtain ⟨rfl, hP, hK⟩ := hv0
  have hts := atoms_spec (ws := cd_j_Preconditions_checkIndex_x7 :: WS) B.pre
  have hown : s.vm.findClass R_jdk_internal_util_Preconditions = some m.cls := findClass_of_methodNamed B.named
  have hlocks := B.notSynchronized
  have hl := lv_entry ([.int (nI x), .int (nI y), .ref fz]) (n := 3) (Nat.le_of_ble_eq_true rfl)
  rw [lg_entry_eq]
  generalize (lg_sl ([.int (nI x), .int (nI y), .ref fz]) ++ List.replicate (3 - (lg_sl ([.int (nI x), .int (nI y), .ref fz])).length) Slot.unset).toArray = ls at hl ⊢
  refine bd_j_Preconditions_checkIndex_x7_r cI cC x y fz hx0 hy0 ⟨B.exec, B.bytes, hml, hown, hts⟩ (Nat.le_refl _) (Nat.le_refl _) ⟨Nat.le_refl _, Nat.le_refl _⟩ hK (fun pc ls H locs hd hS => ?_) ls _ _ hl (va_S.rf (A := noA))
  exact W.iret B.exec B.bytes B.returns (fun t ht _ => ⟨⟨_, (), rfl, rfl, trivial⟩, hS.F ht⟩) hS.2.2 hd
end
section
theorem d_j_String_checkIndex_0 : decode b_j_String_checkIndex 0 = .ok (.iload_n 0, 1) := by decide +kernel
theorem d_j_String_checkIndex_1 : decode b_j_String_checkIndex 1 = .ok (.iload_n 1, 1) := by decide +kernel
theorem d_j_String_checkIndex_2 : decode b_j_String_checkIndex 2 = .ok (.getstatic 1053, 3) := by decide +kernel
theorem d_j_String_checkIndex_5 : decode b_j_String_checkIndex 5 = .ok (.invokestatic 1059, 3) := by decide +kernel
theorem d_j_String_checkIndex_8 : decode b_j_String_checkIndex 8 = .ok (.pop, 1) := by decide +kernel
theorem d_j_String_checkIndex_9 : decode b_j_String_checkIndex 9 = .ok (.return_, 1) := by decide +kernel
end
section
variable {p : Program} {l : Launch} {e : Env} {R : Room} {s : State} {m : MethodId} {args : Array Value} {below : List Frame} {meth : Method} {c : Code} {cells slots : Nat} {Q : State → Prop} {A : Nat → Prop} {H0 : Heap} {D : va_G}
set_option maxHeartbeats 1000000 in
set_option maxRecDepth 100000 in
theorem bd_j_String_checkIndex (cI cC : ClassId) (sa : Nat → Nat) (x y : Nat) (hx0 : x < y) (hy0 : y < 2 ^ 31) (S : CallFix p m c b_j_String_checkIndex 2 s args (cd_j_String_checkIndex :: WS) R_java_lang_String) (hRf : 1 ≤ R.frames) (hRl : 22 ≤ R.locals) (hRc : cells ≤ R.cells ∧ slots ≤ R.slots) (hK : va_K D classes [(cI, .int), (cC, .char)] s) (hSt : SB sa A s s.heap) (kr : ∀ (pc : Nat) (ls : Array Slot) (H : Heap) (locs : List Loc), decode b_j_String_checkIndex pc = .ok (.return_, 1) → va_S A s.heap H locs → W p l e R s m args below meth c H locs cells slots Q (F0 m pc ls [])) : ∀ (ls : Array Slot) (H : Heap) (locs : List Loc), lv_has ls 2 [(0, .int (nI x)), (1, .int (nI y))] → va_S A s.heap H locs → W p l e R s m args below meth c H locs cells slots Q (F0 m 0 ls []) := by
  obtain ⟨hx, hb, hml, hown, hts⟩ := id S
  intro ls H locs hl hS
  refine lv_iload_n hx hb d_j_String_checkIndex_0 rfl (lv_at hl 0 rfl) ?_
  refine lv_iload_n hx hb d_j_String_checkIndex_1 rfl (lv_at hl 1 rfl) ?_
  rcases ks_fz hSt with hz | ⟨fz, hz⟩
  · skip
    refine n_gets hx hb hts hz hS hown kw_454 d_j_String_checkIndex_2 ?_
    refine q_readS (n := 3) (As := [.int (nI x), .int (nI y), .null]) (rest := []) (wc := []) S (c_j_Preconditions_checkIndex_x7_n l D cI cC x y hx0 hy0) hK va_P0 [] rfl (q_goodS kw_712 kw_713 kw_21 kw_714) (by decide +kernel) rfl rfl ⟨Nat.le_trans (Nat.le_of_ble_eq_true rfl) hRf, Nat.le_trans (Nat.le_of_ble_eq_true rfl) hRl⟩ rfl hl.1 rfl (Nat.le_of_ble_eq_true rfl) d_j_String_checkIndex_5 hRc hS (fun H locs _ hS => ?_)
    refine lv_pop hx hb d_j_String_checkIndex_8 rfl ?_
    exact kr _ ls H locs d_j_String_checkIndex_9 hS
  · skip
    refine n_gets hx hb hts hz hS hown kw_454 d_j_String_checkIndex_2 ?_
    refine q_readS (n := 3) (As := [.int (nI x), .int (nI y), .ref fz]) (rest := []) (wc := []) S (c_j_Preconditions_checkIndex_x7_r l D cI cC x y fz hx0 hy0) hK va_P0 [] rfl (q_goodS kw_712 kw_713 kw_21 kw_714) (by decide +kernel) rfl rfl ⟨Nat.le_trans (Nat.le_of_ble_eq_true rfl) hRf, Nat.le_trans (Nat.le_of_ble_eq_true rfl) hRl⟩ rfl hl.1 rfl (Nat.le_of_ble_eq_true rfl) d_j_String_checkIndex_5 hRc hS (fun H locs _ hS => ?_)
    refine lv_pop hx hb d_j_String_checkIndex_8 rfl ?_
    exact kr _ ls H locs d_j_String_checkIndex_9 hS
set_option maxHeartbeats 1000000 in
set_option maxRecDepth 100000 in
theorem c_j_String_checkIndex (l : Launch) (D : va_G) (cI cC : ClassId) (sa : Nat → Nat) (x y : Nat) (hx0 : x < y) (hy0 : y < 2 ^ 31) : Met l y_j_String_checkIndex (cd_j_String_checkIndex :: WS) { frames := 1, cells := 0, slots := 0, locals := 22 } (va_Pc [.int (nI x), .int (nI y)] (srP sa D [] [(cI, .int), (cC, .char)])) (va_Qv (fun (_ : Unit) => True) (fun _ _ => True) noA) 0 0 noA := by
  refine Met.ofW (cc := b_j_String_checkIndex) (maxL := 2) (ret := none) (by decide) rfl ?_
  intro p e s m args below meth c s₁ B hml hv0
  obtain ⟨rfl, ⟨hP, hK⟩, hSt⟩ := hv0
  have hts := atoms_spec (ws := cd_j_String_checkIndex :: WS) B.pre
  have hown : s.vm.findClass R_java_lang_String = some m.cls := findClass_of_methodNamed B.named
  have hlocks := B.notSynchronized
  have hl := lv_entry ([.int (nI x), .int (nI y)]) (n := 2) (Nat.le_of_ble_eq_true rfl)
  rw [lg_entry_eq]
  generalize (lg_sl ([.int (nI x), .int (nI y)]) ++ List.replicate (2 - (lg_sl ([.int (nI x), .int (nI y)])).length) Slot.unset).toArray = ls at hl ⊢
  refine bd_j_String_checkIndex cI cC sa x y hx0 hy0 ⟨B.exec, B.bytes, hml, hown, hts⟩ (Nat.le_refl _) (Nat.le_refl _) ⟨Nat.le_refl _, Nat.le_refl _⟩ hK hSt (fun pc ls H locs hd hS => ?_) ls _ _ hl (va_S.rf (A := noA))
  exact W.vret B.exec B.bytes B.returns (fun t ht _ => ⟨⟨(), rfl, trivial, trivial⟩, hS.F ht⟩) hS.2.2 hd
end
section
theorem d_j_StringLatin1_charAt_0 : decode b_j_StringLatin1_charAt 0 = .ok (.iload_n 1, 1) := by decide +kernel
theorem d_j_StringLatin1_charAt_1 : decode b_j_StringLatin1_charAt 1 = .ok (.aload_n 0, 1) := by decide +kernel
theorem d_j_StringLatin1_charAt_2 : decode b_j_StringLatin1_charAt 2 = .ok (.arraylength, 1) := by decide +kernel
theorem d_j_StringLatin1_charAt_3 : decode b_j_StringLatin1_charAt 3 = .ok (.invokestatic 9, 3) := by decide +kernel
theorem d_j_StringLatin1_charAt_6 : decode b_j_StringLatin1_charAt 6 = .ok (.aload_n 0, 1) := by decide +kernel
theorem d_j_StringLatin1_charAt_7 : decode b_j_StringLatin1_charAt 7 = .ok (.iload_n 1, 1) := by decide +kernel
theorem d_j_StringLatin1_charAt_8 : decode b_j_StringLatin1_charAt 8 = .ok (.baload, 1) := by decide +kernel
theorem d_j_StringLatin1_charAt_9 : decode b_j_StringLatin1_charAt 9 = .ok (.sipush 255, 3) := by decide +kernel
theorem d_j_StringLatin1_charAt_12 : decode b_j_StringLatin1_charAt 12 = .ok (.iand, 1) := by decide +kernel
theorem d_j_StringLatin1_charAt_13 : decode b_j_StringLatin1_charAt 13 = .ok (.i2c, 1) := by decide +kernel
theorem d_j_StringLatin1_charAt_14 : decode b_j_StringLatin1_charAt 14 = .ok (.ireturn, 1) := by decide +kernel
end
section
variable {p : Program} {l : Launch} {e : Env} {R : Room} {s : State} {m : MethodId} {args : Array Value} {below : List Frame} {meth : Method} {c : Code} {cells slots : Nat} {Q : State → Prop} {A : Nat → Prop} {H0 : Heap} {D : va_G}
set_option maxHeartbeats 1000000 in
set_option maxRecDepth 100000 in
theorem bd_j_StringLatin1_charAt (cI cC : ClassId) (sa : Nat → Nat) (x : Nat) (hx0 : x < 45) (S : CallFix p m c b_j_StringLatin1_charAt 2 s args (cd_j_StringLatin1_charAt :: WS) R_java_lang_StringLatin1) (hRf : 2 ≤ R.frames) (hRl : 43 ≤ R.locals) (hRc : cells ≤ R.cells ∧ slots ≤ R.slots) (hK : va_K D classes [(cI, .int), (cC, .char)] s) (hSt : SB sa A s s.heap) (kr : ∀ (pc : Nat) (ls : Array Slot) (H : Heap) (locs : List Loc), decode b_j_StringLatin1_charAt pc = .ok (.ireturn, 1) → va_S A s.heap H locs → W p l e R s m args below meth c H locs cells slots Q (F0 m pc ls [.int (nI (pbT x))])) : ∀ (ls : Array Slot) (H : Heap) (locs : List Loc), lv_has ls 2 [(0, .ref (sa 11)), (1, .int (nI x))] → va_S A s.heap H locs → W p l e R s m args below meth c H locs cells slots Q (F0 m 0 ls []) := by
  obtain ⟨hx, hb, hml, hown, hts⟩ := id S
  intro ls H locs hl hS
  refine lv_iload_n hx hb d_j_StringLatin1_charAt_0 rfl (lv_at hl 1 rfl) ?_
  refine lv_aload_n hx hb d_j_StringLatin1_charAt_1 rfl (lv_at hl 0 rfl) ?_
  refine va_tlen (v := nI 45) hx hb (ks_by hSt) hS rfl d_j_StringLatin1_charAt_2 ?_
  refine q_readSvs (n := 2) (As := [.int (nI x), .int (nI 45)]) (rest := []) (wc := []) S (c_j_String_checkIndex l D cI cC sa x 45 hx0 (by decide)) hSt hK va_P0 [] rfl (q_goodS kw_709 kw_710 kw_17 kw_711) (by decide +kernel) rfl rfl ⟨Nat.le_trans (Nat.le_of_ble_eq_true rfl) hRf, Nat.le_trans (Nat.le_of_ble_eq_true rfl) hRl⟩ rfl hl.1 rfl (Nat.le_of_ble_eq_true rfl) d_j_StringLatin1_charAt_3 hRc hS (fun H locs _ hS => ?_)
  refine lv_aload_n hx hb d_j_StringLatin1_charAt_6 rfl (lv_at hl 0 rfl) ?_
  refine lv_iload_n hx hb d_j_StringLatin1_charAt_7 rfl (lv_at hl 1 rfl) ?_
  refine n_tb hx hb (ks_by hSt) hS (by omega) (by decide) d_j_StringLatin1_charAt_8 ?_
  refine lv_sipush (v := nI 255) hx hb d_j_StringLatin1_charAt_9 (by decide) ?_
  refine n_iand hx hb d_j_StringLatin1_charAt_12 ?_
  refine n_topn (show (pbT x) &&& 255 = pbT x from (pb_and x hx0)) ?_
  refine lv_i2c (v := nI (pbT x)) hx hb d_j_StringLatin1_charAt_13 (ch_id _ (pb_chk x hx0).2.1) ?_
  exact kr _ ls H locs d_j_StringLatin1_charAt_14 hS
set_option maxHeartbeats 1000000 in
set_option maxRecDepth 100000 in
theorem c_j_StringLatin1_charAt (l : Launch) (D : va_G) (cI cC : ClassId) (sa : Nat → Nat) (x : Nat) (hx0 : x < 45) : Met l y_j_StringLatin1_charAt (cd_j_StringLatin1_charAt :: WS) { frames := 2, cells := 0, slots := 0, locals := 43 } (va_Pc [.ref (sa 11), .int (nI x)] (srP sa D [] [(cI, .int), (cC, .char)])) (pQ (nI (pbT x))) 0 0 noA := by
  refine Met.ofW (cc := b_j_StringLatin1_charAt) (maxL := 2) (ret := (some .char)) (by decide) rfl ?_
  intro p e s m args below meth c s₁ B hml hv0
  obtain ⟨rfl, ⟨hP, hK⟩, hSt⟩ := hv0
  have hts := atoms_spec (ws := cd_j_StringLatin1_charAt :: WS) B.pre
  have hown : s.vm.findClass R_java_lang_StringLatin1 = some m.cls := findClass_of_methodNamed B.named
  have hlocks := B.notSynchronized
  have hl := lv_entry ([.ref (sa 11), .int (nI x)]) (n := 2) (Nat.le_of_ble_eq_true rfl)
  rw [lg_entry_eq]
  generalize (lg_sl ([.ref (sa 11), .int (nI x)]) ++ List.replicate (2 - (lg_sl ([.ref (sa 11), .int (nI x)])).length) Slot.unset).toArray = ls at hl ⊢
  refine bd_j_StringLatin1_charAt cI cC sa x hx0 ⟨B.exec, B.bytes, hml, hown, hts⟩ (Nat.le_refl _) (Nat.le_refl _) ⟨Nat.le_refl _, Nat.le_refl _⟩ hK hSt (fun pc ls H locs hd hS => ?_) ls _ _ hl (va_S.rf (A := noA))
  exact W.zret B.exec B.bytes B.returns (ch_fit _ (Nat.lt_trans (pb_chk x hx0).2.1 (by decide))) (fun t ht _ => ⟨⟨_, (), rfl, rfl, trivial⟩, hS.F ht⟩) hS.2.2 hd
end
section
theorem d_j_String_charAt_0 : decode b_j_String_charAt 0 = .ok (.aload_n 0, 1) := by decide +kernel
theorem d_j_String_charAt_1 : decode b_j_String_charAt 1 = .ok (.invokevirtual 492, 3) := by decide +kernel
theorem d_j_String_charAt_4 : decode b_j_String_charAt 4 = .ok (.ifCond .eq 12, 3) := by decide +kernel
theorem d_j_String_charAt_7 : decode b_j_String_charAt 7 = .ok (.aload_n 0, 1) := by decide +kernel
theorem d_j_String_charAt_8 : decode b_j_String_charAt 8 = .ok (.getfield 9, 3) := by decide +kernel
theorem d_j_String_charAt_11 : decode b_j_String_charAt 11 = .ok (.iload_n 1, 1) := by decide +kernel
theorem d_j_String_charAt_12 : decode b_j_String_charAt 12 = .ok (.invokestatic 495, 3) := by decide +kernel
theorem d_j_String_charAt_15 : decode b_j_String_charAt 15 = .ok (.ireturn, 1) := by decide +kernel
theorem d_j_String_charAt_16 : decode b_j_String_charAt 16 = .ok (.aload_n 0, 1) := by decide +kernel
theorem d_j_String_charAt_17 : decode b_j_String_charAt 17 = .ok (.getfield 9, 3) := by decide +kernel
theorem d_j_String_charAt_20 : decode b_j_String_charAt 20 = .ok (.iload_n 1, 1) := by decide +kernel
theorem d_j_String_charAt_21 : decode b_j_String_charAt 21 = .ok (.invokestatic 498, 3) := by decide +kernel
theorem d_j_String_charAt_24 : decode b_j_String_charAt 24 = .ok (.ireturn, 1) := by decide +kernel
end
section
variable {p : Program} {l : Launch} {e : Env} {R : Room} {s : State} {m : MethodId} {args : Array Value} {below : List Frame} {meth : Method} {c : Code} {cells slots : Nat} {Q : State → Prop} {A : Nat → Prop} {H0 : Heap} {D : va_G}
set_option maxHeartbeats 1000000 in
set_option maxRecDepth 100000 in
theorem bd_j_String_charAt (cI cC : ClassId) (sa : Nat → Nat) (x : Nat) (hx0 : x < 45) (S : CallFix p m c b_j_String_charAt 2 s args (cd_j_String_charAt :: WS) R_java_lang_String) (hRf : 3 ≤ R.frames) (hRl : 64 ≤ R.locals) (hRc : cells ≤ R.cells ∧ slots ≤ R.slots) (hK : va_K D classes [(cI, .int), (cC, .char)] s) (hSt : SB sa A s s.heap) (kr : ∀ (pc : Nat) (ls : Array Slot) (H : Heap) (locs : List Loc), decode b_j_String_charAt pc = .ok (.ireturn, 1) → va_S A s.heap H locs → W p l e R s m args below meth c H locs cells slots Q (F0 m pc ls [.int (nI (pbT x))])) : ∀ (ls : Array Slot) (H : Heap) (locs : List Loc), lv_has ls 2 [(0, .ref (sa 10)), (1, .int (nI x))] → va_S A s.heap H locs → W p l e R s m args below meth c H locs cells slots Q (F0 m 0 ls []) := by
  obtain ⟨hx, hb, hml, hown, hts⟩ := id S
  intro ls H locs hl hS
  refine lv_aload_n hx hb d_j_String_charAt_0 rfl (lv_at hl 0 rfl) ?_
  refine q_readVr (n := 0) (As := []) (rest := []) (wc := []) S (c_j_String_isLatin1 l D cI cC sa) hSt hK va_P0 (o_recv (ks_o hSt) hS) [] rfl (q_goodV kw_407 kw_408 kw_409 kw_17 kw_410) (by decide +kernel) rfl rfl rfl ⟨Nat.le_trans (Nat.le_of_ble_eq_true rfl) hRf, Nat.le_trans (Nat.le_of_ble_eq_true rfl) hRl⟩ rfl hl.1 rfl (Nat.le_of_ble_eq_true rfl) d_j_String_charAt_1 hRc hS (fun H locs _ hS => ?_)
  refine n_if_eq hx hb d_j_String_charAt_4 (tgt := 16) rfl (by omega) (fun g4 => absurd g4 (by decide)) (fun g4 => ?_)
  refine lv_aload_n hx hb d_j_String_charAt_7 rfl (lv_at hl 0 rfl) ?_
  refine n_kget hx hb hts (ks_value hSt) hS hown kw_1010 d_j_String_charAt_8 ?_
  refine lv_iload_n hx hb d_j_String_charAt_11 rfl (lv_at hl 1 rfl) ?_
  refine q_readSs (n := 2) (As := [.ref (sa 11), .int (nI x)]) (rest := []) (wc := []) S (c_j_StringLatin1_charAt l D cI cC sa x hx0) hSt hK va_P0 [] rfl (q_goodS kw_706 kw_707 kw_18 kw_708) (by decide +kernel) rfl rfl ⟨Nat.le_trans (Nat.le_of_ble_eq_true rfl) hRf, Nat.le_trans (Nat.le_of_ble_eq_true rfl) hRl⟩ rfl hl.1 rfl (Nat.le_of_ble_eq_true rfl) d_j_String_charAt_12 hRc hS (fun H locs _ hS => ?_)
  exact kr _ ls H locs d_j_String_charAt_15 hS
set_option maxHeartbeats 1000000 in
set_option maxRecDepth 100000 in
theorem c_j_String_charAt (l : Launch) (D : va_G) (cI cC : ClassId) (sa : Nat → Nat) (x : Nat) (hx0 : x < 45) : Met l y_j_String_charAt (cd_j_String_charAt :: WS) { frames := 3, cells := 0, slots := 0, locals := 64 } (va_Pc [.ref (sa 10), .int (nI x)] (srP sa D [] [(cI, .int), (cC, .char)])) (pQ (nI (pbT x))) 0 0 noA := by
  refine Met.ofW (cc := b_j_String_charAt) (maxL := 2) (ret := (some .char)) (by decide) rfl ?_
  intro p e s m args below meth c s₁ B hml hv0
  obtain ⟨rfl, ⟨hP, hK⟩, hSt⟩ := hv0
  have hts := atoms_spec (ws := cd_j_String_charAt :: WS) B.pre
  have hown : s.vm.findClass R_java_lang_String = some m.cls := findClass_of_methodNamed B.named
  have hlocks := B.notSynchronized
  have hl := lv_entry ([.ref (sa 10), .int (nI x)]) (n := 2) (Nat.le_of_ble_eq_true rfl)
  rw [lg_entry_eq]
  generalize (lg_sl ([.ref (sa 10), .int (nI x)]) ++ List.replicate (2 - (lg_sl ([.ref (sa 10), .int (nI x)])).length) Slot.unset).toArray = ls at hl ⊢
  refine bd_j_String_charAt cI cC sa x hx0 ⟨B.exec, B.bytes, hml, hown, hts⟩ (Nat.le_refl _) (Nat.le_refl _) ⟨Nat.le_refl _, Nat.le_refl _⟩ hK hSt (fun pc ls H locs hd hS => ?_) ls _ _ hl (va_S.rf (A := noA))
  exact W.zret B.exec B.bytes B.returns (ch_fit _ (Nat.lt_trans (pb_chk x hx0).2.1 (by decide))) (fun t ht _ => ⟨⟨_, (), rfl, rfl, trivial⟩, hS.F ht⟩) hS.2.2 hd
end
section
theorem d_q_Kind_valueOfCharacter_0 : decode b_q_Kind_valueOfCharacter 0 = .ok (.aload_n 0, 1) := by decide +kernel
theorem d_q_Kind_valueOfCharacter_1 : decode b_q_Kind_valueOfCharacter 1 = .ok (.getstatic 12, 3) := by decide +kernel
theorem d_q_Kind_valueOfCharacter_4 : decode b_q_Kind_valueOfCharacter 4 = .ok (.if_acmp .ne 5, 3) := by decide +kernel
theorem d_q_Kind_valueOfCharacter_7 : decode b_q_Kind_valueOfCharacter 7 = .ok (.iload_n 1, 1) := by decide +kernel
theorem d_q_Kind_valueOfCharacter_8 : decode b_q_Kind_valueOfCharacter 8 = .ok (.ireturn, 1) := by decide +kernel
theorem d_q_Kind_valueOfCharacter_9 : decode b_q_Kind_valueOfCharacter 9 = .ok (.ldc 64, 2) := by decide +kernel
theorem d_q_Kind_valueOfCharacter_11 : decode b_q_Kind_valueOfCharacter 11 = .ok (.iload_n 1, 1) := by decide +kernel
theorem d_q_Kind_valueOfCharacter_12 : decode b_q_Kind_valueOfCharacter 12 = .ok (.invokevirtual 66, 3) := by decide +kernel
theorem d_q_Kind_valueOfCharacter_15 : decode b_q_Kind_valueOfCharacter 15 = .ok (.istore_n 2, 1) := by decide +kernel
theorem d_q_Kind_valueOfCharacter_16 : decode b_q_Kind_valueOfCharacter 16 = .ok (.iload_n 2, 1) := by decide +kernel
theorem d_q_Kind_valueOfCharacter_17 : decode b_q_Kind_valueOfCharacter 17 = .ok (.aload_n 0, 1) := by decide +kernel
theorem d_q_Kind_valueOfCharacter_18 : decode b_q_Kind_valueOfCharacter 18 = .ok (.getfield 44, 3) := by decide +kernel
theorem d_q_Kind_valueOfCharacter_21 : decode b_q_Kind_valueOfCharacter 21 = .ok (.if_icmp .ge 7, 3) := by decide +kernel
theorem d_q_Kind_valueOfCharacter_24 : decode b_q_Kind_valueOfCharacter 24 = .ok (.iload_n 2, 1) := by decide +kernel
theorem d_q_Kind_valueOfCharacter_25 : decode b_q_Kind_valueOfCharacter 25 = .ok (.goto 4, 3) := by decide +kernel
theorem d_q_Kind_valueOfCharacter_28 : decode b_q_Kind_valueOfCharacter 28 = .ok (.iconst (-1), 1) := by decide +kernel
theorem d_q_Kind_valueOfCharacter_29 : decode b_q_Kind_valueOfCharacter 29 = .ok (.ireturn, 1) := by decide +kernel
end
section
variable {p : Program} {l : Launch} {e : Env} {R : Room} {s : State} {m : MethodId} {args : Array Value} {below : List Frame} {meth : Method} {c : Code} {cells slots : Nat} {Q : State → Prop} {A : Nat → Prop} {H0 : Heap} {D : va_G}
set_option maxHeartbeats 1000000 in
set_option maxRecDepth 100000 in
theorem bd_q_Kind_valueOfCharacter_0 (cI cC : ClassId) (sa : Nat → Nat) (x : Nat) (hx0 : x < 127) (S : CallFix p m c b_q_Kind_valueOfCharacter 3 s args (cd_q_Kind_valueOfCharacter :: WS) R_Kind) (hRf : 4 ≤ R.frames) (hRl : 91 ≤ R.locals) (hRc : cells ≤ R.cells ∧ slots ≤ R.slots) (hK : va_K D classes [(cI, .int), (cC, .char)] s) (hSt : SB sa A s s.heap) (kr : ∀ (pc : Nat) (ls : Array Slot) (H : Heap) (locs : List Loc), decode b_q_Kind_valueOfCharacter pc = .ok (.ireturn, 1) → va_S A s.heap H locs → W p l e R s m args below meth c H locs cells slots Q (F0 m pc ls [.int (vc0 x)])) : ∀ (ls : Array Slot) (H : Heap) (locs : List Loc), lv_has ls 3 [(0, .ref (sa 7)), (1, .int (nI x))] → va_S A s.heap H locs → W p l e R s m args below meth c H locs cells slots Q (F0 m 0 ls []) := by
  obtain ⟨hx, hb, hml, hown, hts⟩ := id S
  intro ls H locs hl hS
  refine lv_aload_n hx hb d_q_Kind_valueOfCharacter_0 rfl (lv_at hl 0 rfl) ?_
  refine n_gets hx hb hts (kz_2 hSt) hS hown kw_396 d_q_Kind_valueOfCharacter_1 ?_
  refine n_acmp_ne hx hb d_q_Kind_valueOfCharacter_4 (tgt := 9) rfl (kn_02 hSt) ?_
  refine va_ldcS hx hb hown hSt.2.2.2.1 d_q_Kind_valueOfCharacter_9 ?_
  refine lv_iload_n hx hb d_q_Kind_valueOfCharacter_11 rfl (lv_at hl 1 rfl) ?_
  refine q_readVr (n := 1) (As := [.int (nI x)]) (rest := []) (wc := []) S (c_j_String_indexOf_0 l D cI cC sa x hx0) hSt hK va_P0 (o_recv (ks_o hSt) hS) [] rfl (q_goodV kw_399 kw_400 kw_401 kw_17 kw_402) (by decide +kernel) rfl rfl rfl ⟨Nat.le_trans (Nat.le_of_ble_eq_true rfl) hRf, Nat.le_trans (Nat.le_of_ble_eq_true rfl) hRl⟩ rfl hl.1 rfl (Nat.le_of_ble_eq_true rfl) d_q_Kind_valueOfCharacter_12 hRc hS (fun H locs _ hS => ?_)
  refine lv_istore_n hx hb d_q_Kind_valueOfCharacter_15 rfl hl (Nat.le_of_ble_eq_true rfl) rfl (fun ls hl => ?_)
  have hl : lv_has ls 3 [(2, .int (plI x)), (0, .ref (sa 7)), (1, .int (nI x))] := hl
  refine lv_iload_n hx hb d_q_Kind_valueOfCharacter_16 rfl (lv_at hl 0 rfl) ?_
  refine lv_aload_n hx hb d_q_Kind_valueOfCharacter_17 rfl (lv_at hl 1 rfl) ?_
  refine n_kget hx hb hts (kf_0_base hSt) hS hown kw_1011 d_q_Kind_valueOfCharacter_18 ?_
  refine lv_icmp_ge hx hb d_q_Kind_valueOfCharacter_21 (tgt := 28) rfl (fun g21 => ?_) (fun g21 => ?_)
  · skip
    refine lv_iconst (v := (-1)) hx hb d_q_Kind_valueOfCharacter_28 (by decide) ?_
    refine n_top (show (-1) = (vc0 x) from (by first | exact (if_pos g21).symm | exact (if_neg g21).symm)) ?_
    exact kr _ ls H locs d_q_Kind_valueOfCharacter_29 hS
  · skip
    refine lv_iload_n hx hb d_q_Kind_valueOfCharacter_24 rfl (lv_at hl 0 rfl) ?_
    refine lv_goto hx hb d_q_Kind_valueOfCharacter_25 (tgt := 29) rfl ?_
    refine n_top (show (plI x) = (vc0 x) from (by first | exact (if_pos g21).symm | exact (if_neg g21).symm)) ?_
    exact kr _ ls H locs d_q_Kind_valueOfCharacter_29 hS
set_option maxHeartbeats 1000000 in
set_option maxRecDepth 100000 in
theorem c_q_Kind_valueOfCharacter_0 (l : Launch) (D : va_G) (cI cC : ClassId) (sa : Nat → Nat) (x : Nat) (hx0 : x < 127) : Met l y_q_Kind_valueOfCharacter (cd_q_Kind_valueOfCharacter :: WS) { frames := 4, cells := 0, slots := 0, locals := 91 } (va_Pc [.ref (sa 7), .int (nI x)] (srP sa D [] [(cI, .int), (cC, .char)])) (pQ (vc0 x)) 0 0 noA := by
  refine Met.ofW (cc := b_q_Kind_valueOfCharacter) (maxL := 3) (ret := (some .int)) (by decide) rfl ?_
  intro p e s m args below meth c s₁ B hml hv0
  obtain ⟨rfl, ⟨hP, hK⟩, hSt⟩ := hv0
  have hts := atoms_spec (ws := cd_q_Kind_valueOfCharacter :: WS) B.pre
  have hown : s.vm.findClass R_Kind = some m.cls := findClass_of_methodNamed B.named
  have hlocks := B.notSynchronized
  have hl := lv_entry ([.ref (sa 7), .int (nI x)]) (n := 3) (Nat.le_of_ble_eq_true rfl)
  rw [lg_entry_eq]
  generalize (lg_sl ([.ref (sa 7), .int (nI x)]) ++ List.replicate (3 - (lg_sl ([.ref (sa 7), .int (nI x)])).length) Slot.unset).toArray = ls at hl ⊢
  refine bd_q_Kind_valueOfCharacter_0 cI cC sa x hx0 ⟨B.exec, B.bytes, hml, hown, hts⟩ (Nat.le_refl _) (Nat.le_refl _) ⟨Nat.le_refl _, Nat.le_refl _⟩ hK hSt (fun pc ls H locs hd hS => ?_) ls _ _ hl (va_S.rf (A := noA))
  exact W.iret B.exec B.bytes B.returns (fun t ht _ => ⟨⟨_, (), rfl, rfl, trivial⟩, hS.F ht⟩) hS.2.2 hd
end
section
theorem d_q_Kind_hasAll_0 : decode b_q_Kind_hasAll 0 = .ok (.iconst 0, 1) := by decide +kernel
theorem d_q_Kind_hasAll_1 : decode b_q_Kind_hasAll 1 = .ok (.istore_n 3, 1) := by decide +kernel
theorem d_q_Kind_hasAll_2 : decode b_q_Kind_hasAll 2 = .ok (.iload_n 3, 1) := by decide +kernel
theorem d_q_Kind_hasAll_3 : decode b_q_Kind_hasAll 3 = .ok (.iload_n 2, 1) := by decide +kernel
theorem d_q_Kind_hasAll_4 : decode b_q_Kind_hasAll 4 = .ok (.if_icmp .ge 22, 3) := by decide +kernel
theorem d_q_Kind_hasAll_7 : decode b_q_Kind_hasAll 7 = .ok (.aload_n 0, 1) := by decide +kernel
theorem d_q_Kind_hasAll_8 : decode b_q_Kind_hasAll 8 = .ok (.aload_n 1, 1) := by decide +kernel
theorem d_q_Kind_hasAll_9 : decode b_q_Kind_hasAll 9 = .ok (.iload_n 3, 1) := by decide +kernel
theorem d_q_Kind_hasAll_10 : decode b_q_Kind_hasAll 10 = .ok (.caload, 1) := by decide +kernel
theorem d_q_Kind_hasAll_11 : decode b_q_Kind_hasAll 11 = .ok (.invokevirtual 60, 3) := by decide +kernel
theorem d_q_Kind_hasAll_14 : decode b_q_Kind_hasAll 14 = .ok (.iconst (-1), 1) := by decide +kernel
theorem d_q_Kind_hasAll_15 : decode b_q_Kind_hasAll 15 = .ok (.if_icmp .ne 5, 3) := by decide +kernel
theorem d_q_Kind_hasAll_18 : decode b_q_Kind_hasAll 18 = .ok (.iconst 0, 1) := by decide +kernel
theorem d_q_Kind_hasAll_19 : decode b_q_Kind_hasAll 19 = .ok (.ireturn, 1) := by decide +kernel
theorem d_q_Kind_hasAll_20 : decode b_q_Kind_hasAll 20 = .ok (.iinc 3 1, 3) := by decide +kernel
theorem d_q_Kind_hasAll_23 : decode b_q_Kind_hasAll 23 = .ok (.goto (-21), 3) := by decide +kernel
theorem d_q_Kind_hasAll_26 : decode b_q_Kind_hasAll 26 = .ok (.iconst 1, 1) := by decide +kernel
theorem d_q_Kind_hasAll_27 : decode b_q_Kind_hasAll 27 = .ok (.ireturn, 1) := by decide +kernel
end
section
variable {p : Program} {l : Launch} {e : Env} {R : Room} {s : State} {m : MethodId} {args : Array Value} {below : List Frame} {meth : Method} {c : Code} {cells slots : Nat} {Q : State → Prop} {A : Nat → Prop} {H0 : Heap} {D : va_G}
set_option maxHeartbeats 1000000 in
set_option maxRecDepth 100000 in
theorem lp_q_Kind_hasAll_0_yes_2 (cI cC : ClassId) (sa : Nat → Nat) (qt : Nat) (ty : Nat → Nat) (n : Nat) (hn0 : n ≤ 45) (hty : ∀ j, j < n → ty j < 127) (hall : ∀ j, j < n → (0 ≤ plI (ty j) ∧ plI (ty j) ≤ nI 9)) (S : CallFix p m c b_q_Kind_hasAll 4 s args (cd_q_Kind_hasAll :: WS) R_Kind) (hRf : 5 ≤ R.frames) (hRl : 113 ≤ R.locals) (hRc : cells ≤ R.cells ∧ slots ≤ R.slots) (hK : va_K D classes [(cI, .int), (cC, .char)] s) (hSt : SB sa A s s.heap) (kx : ∀ (ls : Array Slot) (H : Heap) (locs : List Loc), lv_has ls 4 [(0, .ref (sa 7)), (1, .ref qt), (2, .int (nI n)), (3, .int (nI n))] → va_P D classes [(qt, .inl (cC, 45, .inl (fun j => nI (ty j))))] H → va_S A s.heap H locs → W p l e R s m args below meth c H locs cells slots Q (F0 m 26 ls [])) :
    ∀ k, k ≤ n → ∀ (ls : Array Slot) (H : Heap) (locs : List Loc), lv_has ls 4 [(0, .ref (sa 7)), (1, .ref qt), (2, .int (nI n)), (3, .int (nI k))] → va_P D classes [(qt, .inl (cC, 45, .inl (fun j => nI (ty j))))] H → va_S A s.heap H locs → W p l e R s m args below meth c H locs cells slots Q (F0 m 2 ls []) := by
  obtain ⟨hx, hb, hml, hown, hts⟩ := id S
  refine up_loop (fun k hkk ih => ?_)
  intro ls H locs hl hP hS
  refine lv_iload_n hx hb d_q_Kind_hasAll_2 rfl (lv_at hl 3 rfl) ?_
  refine lv_iload_n hx hb d_q_Kind_hasAll_3 rfl (lv_at hl 2 rfl) ?_
  refine n_icmp_ge hx hb d_q_Kind_hasAll_4 (tgt := 26) rfl (by omega) (by omega) (fun g4 => ?_) (fun g4 => ?_)
  · skip
    obtain rfl : k = n := by omega
    exact kx ls H locs (lv_sub hl [0, 1, 2, 3] rfl) hP hS
  · skip
    refine lv_aload_n hx hb d_q_Kind_hasAll_7 rfl (lv_at hl 0 rfl) ?_
    refine lv_aload_n hx hb d_q_Kind_hasAll_8 rfl (lv_at hl 1 rfl) ?_
    refine lv_iload_n hx hb d_q_Kind_hasAll_9 rfl (lv_at hl 3 rfl) ?_
    refine n_cald hx hb hK hP 0 1 rfl rfl (by omega) (by decide) d_q_Kind_hasAll_10 ?_
    refine q_readVr (n := 1) (As := [.int (nI (ty k))]) (rest := []) (wc := []) S (c_q_Kind_valueOfCharacter_0 l D cI cC sa (ty k) (hty k (by omega))) hSt hK hP (o_recv (ko_0 hSt) hS) [] rfl (q_goodV kw_392 kw_393 kw_394 kw_16 kw_395) (by decide +kernel) rfl rfl rfl ⟨Nat.le_trans (Nat.le_of_ble_eq_true rfl) hRf, Nat.le_trans (Nat.le_of_ble_eq_true rfl) hRl⟩ rfl hl.1 rfl (Nat.le_of_ble_eq_true rfl) d_q_Kind_hasAll_11 hRc hS (fun H locs hP hS => ?_)
    refine lv_iconst (v := (-1)) hx hb d_q_Kind_hasAll_14 (by decide) ?_
    refine lv_icmp_ne hx hb d_q_Kind_hasAll_15 (tgt := 20) rfl (fun g15 => ?_) (fun g15 => absurd g15 ((vc0_chk (ty k) (hty k (by omega))).elim (fun h8 => h8.1) (fun h8 => absurd (hall k (by omega)) h8.2)))
    refine lv_iinc (k := 3) (v := nI (k + 1)) hx hb d_q_Kind_hasAll_20 hl rfl (nx_inc k 1) (Nat.le_of_ble_eq_true rfl) rfl (fun ls hl => ?_)
    have hl : lv_has ls 4 [(3, .int (nI (k + 1))), (0, .ref (sa 7)), (1, .ref qt), (2, .int (nI n))] := hl
    refine lv_goto hx hb d_q_Kind_hasAll_23 (tgt := 2) rfl ?_
    exact ih (by omega) ls H locs (lv_sub hl [1, 2, 3, 0] rfl) hP hS
set_option maxHeartbeats 1000000 in
set_option maxRecDepth 100000 in
theorem bd_q_Kind_hasAll_0_yes (cI cC : ClassId) (sa : Nat → Nat) (qt : Nat) (ty : Nat → Nat) (n : Nat) (hn0 : n ≤ 45) (hty : ∀ j, j < n → ty j < 127) (hall : ∀ j, j < n → (0 ≤ plI (ty j) ∧ plI (ty j) ≤ nI 9)) (S : CallFix p m c b_q_Kind_hasAll 4 s args (cd_q_Kind_hasAll :: WS) R_Kind) (hRf : 5 ≤ R.frames) (hRl : 113 ≤ R.locals) (hRc : cells ≤ R.cells ∧ slots ≤ R.slots) (hK : va_K D classes [(cI, .int), (cC, .char)] s) (hSt : SB sa A s s.heap) (kr : ∀ (pc : Nat) (ls : Array Slot) (H : Heap) (locs : List Loc), decode b_q_Kind_hasAll pc = .ok (.ireturn, 1) → va_P D classes [(qt, .inl (cC, 45, .inl (fun j => nI (ty j))))] H → va_S A s.heap H locs → W p l e R s m args below meth c H locs cells slots Q (F0 m pc ls [.int (nI 1)])) : ∀ (ls : Array Slot) (H : Heap) (locs : List Loc), lv_has ls 4 [(0, .ref (sa 7)), (1, .ref qt), (2, .int (nI n))] → va_P D classes [(qt, .inl (cC, 45, .inl (fun j => nI (ty j))))] H → va_S A s.heap H locs → W p l e R s m args below meth c H locs cells slots Q (F0 m 0 ls []) := by
  obtain ⟨hx, hb, hml, hown, hts⟩ := id S
  intro ls H locs hl hP hS
  refine lv_iconst (v := nI 0) hx hb d_q_Kind_hasAll_0 (by decide) ?_
  refine lv_istore_n hx hb d_q_Kind_hasAll_1 rfl hl (Nat.le_of_ble_eq_true rfl) rfl (fun ls hl => ?_)
  have hl : lv_has ls 4 [(3, .int (nI 0)), (0, .ref (sa 7)), (1, .ref qt), (2, .int (nI n))] := hl
  refine lp_q_Kind_hasAll_0_yes_2 cI cC sa qt ty n hn0 hty hall S hRf hRl hRc hK hSt  (fun ls H locs hl hP hS => ?_) 0 (by omega) ls H locs (lv_sub hl [1, 2, 3, 0] rfl) hP hS
  refine lv_iconst (v := nI 1) hx hb d_q_Kind_hasAll_26 (by decide) ?_
  exact kr _ ls H locs d_q_Kind_hasAll_27 hP hS
set_option maxHeartbeats 1000000 in
set_option maxRecDepth 100000 in
theorem c_q_Kind_hasAll_0_yes (l : Launch) (D : va_G) (cI cC : ClassId) (sa : Nat → Nat) (qt : Nat) (ty : Nat → Nat) (n : Nat) (hn0 : n ≤ 45) (hty : ∀ j, j < n → ty j < 127) (hall : ∀ j, j < n → (0 ≤ plI (ty j) ∧ plI (ty j) ≤ nI 9)) : Met l y_q_Kind_hasAll (cd_q_Kind_hasAll :: WS) { frames := 5, cells := 0, slots := 0, locals := 113 } (va_Pc [.ref (sa 7), .ref qt, .int (nI n)] (srP sa D [(qt, .inl (cC, 45, .inl (fun j => nI (ty j))))] [(cI, .int), (cC, .char)])) (pQ (nI 1)) 0 0 noA := by
  refine Met.ofW (cc := b_q_Kind_hasAll) (maxL := 4) (ret := (some .boolean)) (by decide) rfl ?_
  intro p e s m args below meth c s₁ B hml hv0
  obtain ⟨rfl, ⟨hP, hK⟩, hSt⟩ := hv0
  have hts := atoms_spec (ws := cd_q_Kind_hasAll :: WS) B.pre
  have hown : s.vm.findClass R_Kind = some m.cls := findClass_of_methodNamed B.named
  have hlocks := B.notSynchronized
  have hl := lv_entry ([.ref (sa 7), .ref qt, .int (nI n)]) (n := 4) (Nat.le_of_ble_eq_true rfl)
  rw [lg_entry_eq]
  generalize (lg_sl ([.ref (sa 7), .ref qt, .int (nI n)]) ++ List.replicate (4 - (lg_sl ([.ref (sa 7), .ref qt, .int (nI n)])).length) Slot.unset).toArray = ls at hl ⊢
  refine bd_q_Kind_hasAll_0_yes cI cC sa qt ty n hn0 hty hall ⟨B.exec, B.bytes, hml, hown, hts⟩ (Nat.le_refl _) (Nat.le_refl _) ⟨Nat.le_refl _, Nat.le_refl _⟩ hK hSt (fun pc ls H locs hd hP hS => ?_) ls _ _ hl hP (va_S.rf (A := noA))
  exact W.zret B.exec B.bytes B.returns rfl (fun t ht _ => ⟨⟨_, (), rfl, rfl, trivial⟩, hS.F ht⟩) hS.2.2 hd
end
section
variable {p : Program} {l : Launch} {e : Env} {R : Room} {s : State} {m : MethodId} {args : Array Value} {below : List Frame} {meth : Method} {c : Code} {cells slots : Nat} {Q : State → Prop} {A : Nat → Prop} {H0 : Heap} {D : va_G}
set_option maxHeartbeats 1000000 in
set_option maxRecDepth 100000 in
theorem lp_q_Kind_hasAll_0_no_2 (cI cC : ClassId) (sa : Nat → Nat) (qt : Nat) (ty : Nat → Nat) (n x0 : Nat) (hn0 : n ≤ 45) (hty : ∀ j, j < n → ty j < 127) (hx1 : x0 < n) (hbad : ¬ (0 ≤ plI (ty x0) ∧ plI (ty x0) ≤ nI 9)) (hall : ∀ j, j < x0 → (0 ≤ plI (ty j) ∧ plI (ty j) ≤ nI 9)) (S : CallFix p m c b_q_Kind_hasAll 4 s args (cd_q_Kind_hasAll :: WS) R_Kind) (hRf : 5 ≤ R.frames) (hRl : 113 ≤ R.locals) (hRc : cells ≤ R.cells ∧ slots ≤ R.slots) (hK : va_K D classes [(cI, .int), (cC, .char)] s) (hSt : SB sa A s s.heap) (kr : ∀ (pc : Nat) (ls : Array Slot) (H : Heap) (locs : List Loc), decode b_q_Kind_hasAll pc = .ok (.ireturn, 1) → va_P D classes [(qt, .inl (cC, 45, .inl (fun j => nI (ty j))))] H → va_S A s.heap H locs → W p l e R s m args below meth c H locs cells slots Q (F0 m pc ls [.int (nI 0)])) :
    ∀ k, k ≤ x0 → ∀ (ls : Array Slot) (H : Heap) (locs : List Loc), lv_has ls 4 [(0, .ref (sa 7)), (1, .ref qt), (2, .int (nI n)), (3, .int (nI k))] → va_P D classes [(qt, .inl (cC, 45, .inl (fun j => nI (ty j))))] H → va_S A s.heap H locs → W p l e R s m args below meth c H locs cells slots Q (F0 m 2 ls []) := by
  obtain ⟨hx, hb, hml, hown, hts⟩ := id S
  refine up_loop (fun k hkk ih => ?_)
  intro ls H locs hl hP hS
  refine lv_iload_n hx hb d_q_Kind_hasAll_2 rfl (lv_at hl 3 rfl) ?_
  refine lv_iload_n hx hb d_q_Kind_hasAll_3 rfl (lv_at hl 2 rfl) ?_
  refine n_icmp_ge hx hb d_q_Kind_hasAll_4 (tgt := 26) rfl (by omega) (by omega) (fun g4 => absurd g4 (by omega)) (fun g4 => ?_)
  refine lv_aload_n hx hb d_q_Kind_hasAll_7 rfl (lv_at hl 0 rfl) ?_
  refine lv_aload_n hx hb d_q_Kind_hasAll_8 rfl (lv_at hl 1 rfl) ?_
  refine lv_iload_n hx hb d_q_Kind_hasAll_9 rfl (lv_at hl 3 rfl) ?_
  refine n_cald hx hb hK hP 0 1 rfl rfl (by omega) (by decide) d_q_Kind_hasAll_10 ?_
  refine q_readVr (n := 1) (As := [.int (nI (ty k))]) (rest := []) (wc := []) S (c_q_Kind_valueOfCharacter_0 l D cI cC sa (ty k) (hty k (by omega))) hSt hK hP (o_recv (ko_0 hSt) hS) [] rfl (q_goodV kw_392 kw_393 kw_394 kw_16 kw_395) (by decide +kernel) rfl rfl rfl ⟨Nat.le_trans (Nat.le_of_ble_eq_true rfl) hRf, Nat.le_trans (Nat.le_of_ble_eq_true rfl) hRl⟩ rfl hl.1 rfl (Nat.le_of_ble_eq_true rfl) d_q_Kind_hasAll_11 hRc hS (fun H locs hP hS => ?_)
  rcases Nat.lt_or_ge k x0 with hdd | hdd
  · skip
    refine lv_iconst (v := (-1)) hx hb d_q_Kind_hasAll_14 (by decide) ?_
    refine lv_icmp_ne hx hb d_q_Kind_hasAll_15 (tgt := 20) rfl (fun g15 => ?_) (fun g15 => absurd g15 ((vc0_chk (ty k) (hty k (by omega))).elim (fun h8 => h8.1) (fun h8 => absurd (hall k hdd) h8.2)))
    refine lv_iinc (k := 3) (v := nI (k + 1)) hx hb d_q_Kind_hasAll_20 hl rfl (nx_inc k 1) (Nat.le_of_ble_eq_true rfl) rfl (fun ls hl => ?_)
    have hl : lv_has ls 4 [(3, .int (nI (k + 1))), (0, .ref (sa 7)), (1, .ref qt), (2, .int (nI n))] := hl
    refine lv_goto hx hb d_q_Kind_hasAll_23 (tgt := 2) rfl ?_
    exact ih (by omega) ls H locs (lv_sub hl [1, 2, 3, 0] rfl) hP hS
  · skip
    have e0 : k = x0 := by omega
    have hbk : ¬ (0 ≤ plI (ty k) ∧ plI (ty k) ≤ nI 9) := by rw [e0]; exact hbad
    refine lv_iconst (v := (-1)) hx hb d_q_Kind_hasAll_14 (by decide) ?_
    refine lv_icmp_ne hx hb d_q_Kind_hasAll_15 (tgt := 20) rfl (fun g15 => absurd g15 (fun z => z ((vc0_chk (ty k) (hty k (by omega))).elim (fun h8 => absurd h8.2 hbk) (fun h8 => h8.1)))) (fun g15 => ?_)
    refine lv_iconst (v := nI 0) hx hb d_q_Kind_hasAll_18 (by decide) ?_
    exact kr _ ls H locs d_q_Kind_hasAll_19 hP hS
set_option maxHeartbeats 1000000 in
set_option maxRecDepth 100000 in
theorem bd_q_Kind_hasAll_0_no (cI cC : ClassId) (sa : Nat → Nat) (qt : Nat) (ty : Nat → Nat) (n x0 : Nat) (hn0 : n ≤ 45) (hty : ∀ j, j < n → ty j < 127) (hx1 : x0 < n) (hbad : ¬ (0 ≤ plI (ty x0) ∧ plI (ty x0) ≤ nI 9)) (hall : ∀ j, j < x0 → (0 ≤ plI (ty j) ∧ plI (ty j) ≤ nI 9)) (S : CallFix p m c b_q_Kind_hasAll 4 s args (cd_q_Kind_hasAll :: WS) R_Kind) (hRf : 5 ≤ R.frames) (hRl : 113 ≤ R.locals) (hRc : cells ≤ R.cells ∧ slots ≤ R.slots) (hK : va_K D classes [(cI, .int), (cC, .char)] s) (hSt : SB sa A s s.heap) (kr : ∀ (pc : Nat) (ls : Array Slot) (H : Heap) (locs : List Loc), decode b_q_Kind_hasAll pc = .ok (.ireturn, 1) → va_P D classes [(qt, .inl (cC, 45, .inl (fun j => nI (ty j))))] H → va_S A s.heap H locs → W p l e R s m args below meth c H locs cells slots Q (F0 m pc ls [.int (nI 0)])) : ∀ (ls : Array Slot) (H : Heap) (locs : List Loc), lv_has ls 4 [(0, .ref (sa 7)), (1, .ref qt), (2, .int (nI n))] → va_P D classes [(qt, .inl (cC, 45, .inl (fun j => nI (ty j))))] H → va_S A s.heap H locs → W p l e R s m args below meth c H locs cells slots Q (F0 m 0 ls []) := by
  obtain ⟨hx, hb, hml, hown, hts⟩ := id S
  intro ls H locs hl hP hS
  refine lv_iconst (v := nI 0) hx hb d_q_Kind_hasAll_0 (by decide) ?_
  refine lv_istore_n hx hb d_q_Kind_hasAll_1 rfl hl (Nat.le_of_ble_eq_true rfl) rfl (fun ls hl => ?_)
  have hl : lv_has ls 4 [(3, .int (nI 0)), (0, .ref (sa 7)), (1, .ref qt), (2, .int (nI n))] := hl
  exact lp_q_Kind_hasAll_0_no_2 cI cC sa qt ty n x0 hn0 hty hx1 hbad hall S hRf hRl hRc hK hSt  kr  0 (by omega) ls H locs (lv_sub hl [1, 2, 3, 0] rfl) hP hS
set_option maxHeartbeats 1000000 in
set_option maxRecDepth 100000 in
theorem c_q_Kind_hasAll_0_no (l : Launch) (D : va_G) (cI cC : ClassId) (sa : Nat → Nat) (qt : Nat) (ty : Nat → Nat) (n x0 : Nat) (hn0 : n ≤ 45) (hty : ∀ j, j < n → ty j < 127) (hx1 : x0 < n) (hbad : ¬ (0 ≤ plI (ty x0) ∧ plI (ty x0) ≤ nI 9)) (hall : ∀ j, j < x0 → (0 ≤ plI (ty j) ∧ plI (ty j) ≤ nI 9)) : Met l y_q_Kind_hasAll (cd_q_Kind_hasAll :: WS) { frames := 5, cells := 0, slots := 0, locals := 113 } (va_Pc [.ref (sa 7), .ref qt, .int (nI n)] (srP sa D [(qt, .inl (cC, 45, .inl (fun j => nI (ty j))))] [(cI, .int), (cC, .char)])) (pQ (nI 0)) 0 0 noA := by
  refine Met.ofW (cc := b_q_Kind_hasAll) (maxL := 4) (ret := (some .boolean)) (by decide) rfl ?_
  intro p e s m args below meth c s₁ B hml hv0
  obtain ⟨rfl, ⟨hP, hK⟩, hSt⟩ := hv0
  have hts := atoms_spec (ws := cd_q_Kind_hasAll :: WS) B.pre
  have hown : s.vm.findClass R_Kind = some m.cls := findClass_of_methodNamed B.named
  have hlocks := B.notSynchronized
  have hl := lv_entry ([.ref (sa 7), .ref qt, .int (nI n)]) (n := 4) (Nat.le_of_ble_eq_true rfl)
  rw [lg_entry_eq]
  generalize (lg_sl ([.ref (sa 7), .ref qt, .int (nI n)]) ++ List.replicate (4 - (lg_sl ([.ref (sa 7), .ref qt, .int (nI n)])).length) Slot.unset).toArray = ls at hl ⊢
  refine bd_q_Kind_hasAll_0_no cI cC sa qt ty n x0 hn0 hty hx1 hbad hall ⟨B.exec, B.bytes, hml, hown, hts⟩ (Nat.le_refl _) (Nat.le_refl _) ⟨Nat.le_refl _, Nat.le_refl _⟩ hK hSt (fun pc ls H locs hd hP hS => ?_) ls _ _ hl hP (va_S.rf (A := noA))
  exact W.zret B.exec B.bytes B.returns rfl (fun t ht _ => ⟨⟨_, (), rfl, rfl, trivial⟩, hS.F ht⟩) hS.2.2 hd
end
section
theorem d_q_Kind_groupBits_0 : decode b_q_Kind_groupBits 0 = .ok (.aload_n 0, 1) := by decide +kernel
theorem d_q_Kind_groupBits_1 : decode b_q_Kind_groupBits 1 = .ok (.getfield 47, 3) := by decide +kernel
theorem d_q_Kind_groupBits_4 : decode b_q_Kind_groupBits 4 = .ok (.iload_n 1, 1) := by decide +kernel
theorem d_q_Kind_groupBits_5 : decode b_q_Kind_groupBits 5 = .ok (.imul, 1) := by decide +kernel
theorem d_q_Kind_groupBits_6 : decode b_q_Kind_groupBits 6 = .ok (.aload_n 0, 1) := by decide +kernel
theorem d_q_Kind_groupBits_7 : decode b_q_Kind_groupBits 7 = .ok (.getfield 50, 3) := by decide +kernel
theorem d_q_Kind_groupBits_10 : decode b_q_Kind_groupBits 10 = .ok (.iadd, 1) := by decide +kernel
theorem d_q_Kind_groupBits_11 : decode b_q_Kind_groupBits 11 = .ok (.ireturn, 1) := by decide +kernel
end
section
variable {p : Program} {l : Launch} {e : Env} {R : Room} {s : State} {m : MethodId} {args : Array Value} {below : List Frame} {meth : Method} {c : Code} {cells slots : Nat} {Q : State → Prop} {A : Nat → Prop} {H0 : Heap} {D : va_G}
set_option maxHeartbeats 1000000 in
set_option maxRecDepth 100000 in
theorem bd_q_Kind_groupBits_0 (cI cC : ClassId) (sa : Nat → Nat) (x : Nat) (hx0 : 1 ≤ x) (hx1 : x ≤ 3) (S : CallFix p m c b_q_Kind_groupBits 2 s args (cd_q_Kind_groupBits :: WS) R_Kind) (hRf : 0 ≤ R.frames) (hRl : 0 ≤ R.locals) (hRc : cells ≤ R.cells ∧ slots ≤ R.slots) (hK : va_K D classes [(cI, .int), (cC, .char)] s) (hSt : SB sa A s s.heap) (kr : ∀ (pc : Nat) (ls : Array Slot) (H : Heap) (locs : List Loc), decode b_q_Kind_groupBits pc = .ok (.ireturn, 1) → va_S A s.heap H locs → W p l e R s m args below meth c H locs cells slots Q (F0 m pc ls [.int (nI (gsz 1 x))])) : ∀ (ls : Array Slot) (H : Heap) (locs : List Loc), lv_has ls 2 [(0, .ref (sa 7)), (1, .int (nI x))] → va_S A s.heap H locs → W p l e R s m args below meth c H locs cells slots Q (F0 m 0 ls []) := by
  obtain ⟨hx, hb, hml, hown, hts⟩ := id S
  intro ls H locs hl hS
  refine lv_aload_n hx hb d_q_Kind_groupBits_0 rfl (lv_at hl 0 rfl) ?_
  refine n_kget hx hb hts (kf_0_characterBits hSt) hS hown kw_1014 d_q_Kind_groupBits_1 ?_
  refine lv_iload_n hx hb d_q_Kind_groupBits_4 rfl (lv_at hl 1 rfl) ?_
  refine n_imul hx hb d_q_Kind_groupBits_5 ?_
  refine lv_aload_n hx hb d_q_Kind_groupBits_6 rfl (lv_at hl 0 rfl) ?_
  refine n_kget hx hb hts (kf_0_extraBits hSt) hS hown kw_1015 d_q_Kind_groupBits_7 ?_
  refine n_iadd hx hb d_q_Kind_groupBits_10 ?_
  refine n_topn (show (3 * x) + 1 = gsz 1 x from (by unfold gsz; (repeat' split) <;> omega)) ?_
  exact kr _ ls H locs d_q_Kind_groupBits_11 hS
set_option maxHeartbeats 1000000 in
set_option maxRecDepth 100000 in
theorem c_q_Kind_groupBits_0 (l : Launch) (D : va_G) (cI cC : ClassId) (sa : Nat → Nat) (x : Nat) (hx0 : 1 ≤ x) (hx1 : x ≤ 3) : Met l y_q_Kind_groupBits (cd_q_Kind_groupBits :: WS) { frames := 0, cells := 0, slots := 0, locals := 0 } (va_Pc [.ref (sa 7), .int (nI x)] (srP sa D [] [(cI, .int), (cC, .char)])) (pQ (nI (gsz 1 x))) 0 0 noA := by
  refine Met.ofW (cc := b_q_Kind_groupBits) (maxL := 2) (ret := (some .int)) (by decide) rfl ?_
  intro p e s m args below meth c s₁ B hml hv0
  obtain ⟨rfl, ⟨hP, hK⟩, hSt⟩ := hv0
  have hts := atoms_spec (ws := cd_q_Kind_groupBits :: WS) B.pre
  have hown : s.vm.findClass R_Kind = some m.cls := findClass_of_methodNamed B.named
  have hlocks := B.notSynchronized
  have hl := lv_entry ([.ref (sa 7), .int (nI x)]) (n := 2) (Nat.le_of_ble_eq_true rfl)
  rw [lg_entry_eq]
  generalize (lg_sl ([.ref (sa 7), .int (nI x)]) ++ List.replicate (2 - (lg_sl ([.ref (sa 7), .int (nI x)])).length) Slot.unset).toArray = ls at hl ⊢
  refine bd_q_Kind_groupBits_0 cI cC sa x hx0 hx1 ⟨B.exec, B.bytes, hml, hown, hts⟩ (Nat.le_refl _) (Nat.le_refl _) ⟨Nat.le_refl _, Nat.le_refl _⟩ hK hSt (fun pc ls H locs hd hS => ?_) ls _ _ hl (va_S.rf (A := noA))
  exact W.iret B.exec B.bytes B.returns (fun t ht _ => ⟨⟨_, (), rfl, rfl, trivial⟩, hS.F ht⟩) hS.2.2 hd
end
section
theorem d_q_Kind_groupLimit_0 : decode b_q_Kind_groupLimit 0 = .ok (.iconst 1, 1) := by decide +kernel
theorem d_q_Kind_groupLimit_1 : decode b_q_Kind_groupLimit 1 = .ok (.istore_n 2, 1) := by decide +kernel
theorem d_q_Kind_groupLimit_2 : decode b_q_Kind_groupLimit 2 = .ok (.iconst 0, 1) := by decide +kernel
theorem d_q_Kind_groupLimit_3 : decode b_q_Kind_groupLimit 3 = .ok (.istore_n 3, 1) := by decide +kernel
theorem d_q_Kind_groupLimit_4 : decode b_q_Kind_groupLimit 4 = .ok (.iload_n 3, 1) := by decide +kernel
theorem d_q_Kind_groupLimit_5 : decode b_q_Kind_groupLimit 5 = .ok (.iload_n 1, 1) := by decide +kernel
theorem d_q_Kind_groupLimit_6 : decode b_q_Kind_groupLimit 6 = .ok (.if_icmp .ge 16, 3) := by decide +kernel
theorem d_q_Kind_groupLimit_9 : decode b_q_Kind_groupLimit 9 = .ok (.iload_n 2, 1) := by decide +kernel
theorem d_q_Kind_groupLimit_10 : decode b_q_Kind_groupLimit 10 = .ok (.aload_n 0, 1) := by decide +kernel
theorem d_q_Kind_groupLimit_11 : decode b_q_Kind_groupLimit 11 = .ok (.getfield 44, 3) := by decide +kernel
theorem d_q_Kind_groupLimit_14 : decode b_q_Kind_groupLimit 14 = .ok (.imul, 1) := by decide +kernel
theorem d_q_Kind_groupLimit_15 : decode b_q_Kind_groupLimit 15 = .ok (.istore_n 2, 1) := by decide +kernel
theorem d_q_Kind_groupLimit_16 : decode b_q_Kind_groupLimit 16 = .ok (.iinc 3 1, 3) := by decide +kernel
theorem d_q_Kind_groupLimit_19 : decode b_q_Kind_groupLimit 19 = .ok (.goto (-15), 3) := by decide +kernel
theorem d_q_Kind_groupLimit_22 : decode b_q_Kind_groupLimit 22 = .ok (.iload_n 2, 1) := by decide +kernel
theorem d_q_Kind_groupLimit_23 : decode b_q_Kind_groupLimit 23 = .ok (.ireturn, 1) := by decide +kernel
end
section
variable {p : Program} {l : Launch} {e : Env} {R : Room} {s : State} {m : MethodId} {args : Array Value} {below : List Frame} {meth : Method} {c : Code} {cells slots : Nat} {Q : State → Prop} {A : Nat → Prop} {H0 : Heap} {D : va_G}
set_option maxHeartbeats 1000000 in
set_option maxRecDepth 100000 in
theorem lp_q_Kind_groupLimit_0_4 (cI cC : ClassId) (sa : Nat → Nat) (x : Nat) (hx1 : x ≤ 3) (S : CallFix p m c b_q_Kind_groupLimit 4 s args (cd_q_Kind_groupLimit :: WS) R_Kind) (hRf : 0 ≤ R.frames) (hRl : 0 ≤ R.locals) (hRc : cells ≤ R.cells ∧ slots ≤ R.slots) (hK : va_K D classes [(cI, .int), (cC, .char)] s) (hSt : SB sa A s s.heap) (kx : ∀ (ls : Array Slot) (H : Heap) (locs : List Loc), lv_has ls 4 [(0, .ref (sa 7)), (1, .int (nI x)), (2, .int (nI (10 ^ x))), (3, .int (nI x))] → va_S A s.heap H locs → W p l e R s m args below meth c H locs cells slots Q (F0 m 22 ls [])) :
    ∀ k, k ≤ x → ∀ (ls : Array Slot) (H : Heap) (locs : List Loc), lv_has ls 4 [(0, .ref (sa 7)), (1, .int (nI x)), (2, .int (nI (10 ^ k))), (3, .int (nI k))] → va_S A s.heap H locs → W p l e R s m args below meth c H locs cells slots Q (F0 m 4 ls []) := by
  obtain ⟨hx, hb, hml, hown, hts⟩ := id S
  refine up_loop (fun k hkk ih => ?_)
  intro ls H locs hl hS
  refine lv_iload_n hx hb d_q_Kind_groupLimit_4 rfl (lv_at hl 3 rfl) ?_
  refine lv_iload_n hx hb d_q_Kind_groupLimit_5 rfl (lv_at hl 1 rfl) ?_
  refine n_icmp_ge hx hb d_q_Kind_groupLimit_6 (tgt := 22) rfl (by omega) (by omega) (fun g6 => ?_) (fun g6 => ?_)
  · skip
    obtain rfl : k = x := by omega
    exact kx ls H locs (lv_sub hl [0, 1, 2, 3] rfl) hS
  · skip
    refine lv_iload_n hx hb d_q_Kind_groupLimit_9 rfl (lv_at hl 2 rfl) ?_
    refine lv_aload_n hx hb d_q_Kind_groupLimit_10 rfl (lv_at hl 0 rfl) ?_
    refine n_kget hx hb hts (kf_0_base hSt) hS hown kw_1011 d_q_Kind_groupLimit_11 ?_
    refine n_imul hx hb d_q_Kind_groupLimit_14 ?_
    refine n_topn (show (10 ^ k) * 10 = 10 ^ (k + 1) from (Nat.pow_succ ..).symm) ?_
    refine lv_istore_n hx hb d_q_Kind_groupLimit_15 rfl hl (Nat.le_of_ble_eq_true rfl) rfl (fun ls hl => ?_)
    have hl : lv_has ls 4 [(2, .int (nI (10 ^ (k + 1)))), (0, .ref (sa 7)), (1, .int (nI x)), (3, .int (nI k))] := hl
    refine lv_iinc (k := 3) (v := nI (k + 1)) hx hb d_q_Kind_groupLimit_16 hl rfl (nx_inc k 1) (Nat.le_of_ble_eq_true rfl) rfl (fun ls hl => ?_)
    have hl : lv_has ls 4 [(3, .int (nI (k + 1))), (2, .int (nI (10 ^ (k + 1)))), (0, .ref (sa 7)), (1, .int (nI x))] := hl
    refine lv_goto hx hb d_q_Kind_groupLimit_19 (tgt := 4) rfl ?_
    exact ih (by omega) ls H locs (lv_sub hl [2, 3, 1, 0] rfl) hS
set_option maxHeartbeats 1000000 in
set_option maxRecDepth 100000 in
theorem bd_q_Kind_groupLimit_0 (cI cC : ClassId) (sa : Nat → Nat) (x : Nat) (hx1 : x ≤ 3) (S : CallFix p m c b_q_Kind_groupLimit 4 s args (cd_q_Kind_groupLimit :: WS) R_Kind) (hRf : 0 ≤ R.frames) (hRl : 0 ≤ R.locals) (hRc : cells ≤ R.cells ∧ slots ≤ R.slots) (hK : va_K D classes [(cI, .int), (cC, .char)] s) (hSt : SB sa A s s.heap) (kr : ∀ (pc : Nat) (ls : Array Slot) (H : Heap) (locs : List Loc), decode b_q_Kind_groupLimit pc = .ok (.ireturn, 1) → va_S A s.heap H locs → W p l e R s m args below meth c H locs cells slots Q (F0 m pc ls [.int (nI (10 ^ x))])) : ∀ (ls : Array Slot) (H : Heap) (locs : List Loc), lv_has ls 4 [(0, .ref (sa 7)), (1, .int (nI x))] → va_S A s.heap H locs → W p l e R s m args below meth c H locs cells slots Q (F0 m 0 ls []) := by
  obtain ⟨hx, hb, hml, hown, hts⟩ := id S
  intro ls H locs hl hS
  refine lv_iconst (v := nI 1) hx hb d_q_Kind_groupLimit_0 (by decide) ?_
  refine lv_istore_n hx hb d_q_Kind_groupLimit_1 rfl hl (Nat.le_of_ble_eq_true rfl) rfl (fun ls hl => ?_)
  have hl : lv_has ls 4 [(2, .int (nI 1)), (0, .ref (sa 7)), (1, .int (nI x))] := hl
  refine lv_iconst (v := nI 0) hx hb d_q_Kind_groupLimit_2 (by decide) ?_
  refine lv_istore_n hx hb d_q_Kind_groupLimit_3 rfl hl (Nat.le_of_ble_eq_true rfl) rfl (fun ls hl => ?_)
  have hl : lv_has ls 4 [(3, .int (nI 0)), (2, .int (nI 1)), (0, .ref (sa 7)), (1, .int (nI x))] := hl
  refine lp_q_Kind_groupLimit_0_4 cI cC sa x hx1 S hRf hRl hRc hK hSt  (fun ls H locs hl hS => ?_) 0 (by omega) ls H locs (lv_sub hl [2, 3, 1, 0] rfl) hS
  refine lv_iload_n hx hb d_q_Kind_groupLimit_22 rfl (lv_at hl 2 rfl) ?_
  exact kr _ ls H locs d_q_Kind_groupLimit_23 hS
set_option maxHeartbeats 1000000 in
set_option maxRecDepth 100000 in
theorem c_q_Kind_groupLimit_0 (l : Launch) (D : va_G) (cI cC : ClassId) (sa : Nat → Nat) (x : Nat) (hx1 : x ≤ 3) : Met l y_q_Kind_groupLimit (cd_q_Kind_groupLimit :: WS) { frames := 0, cells := 0, slots := 0, locals := 0 } (va_Pc [.ref (sa 7), .int (nI x)] (srP sa D [] [(cI, .int), (cC, .char)])) (pQ (nI (10 ^ x))) 0 0 noA := by
  refine Met.ofW (cc := b_q_Kind_groupLimit) (maxL := 4) (ret := (some .int)) (by decide) rfl ?_
  intro p e s m args below meth c s₁ B hml hv0
  obtain ⟨rfl, ⟨hP, hK⟩, hSt⟩ := hv0
  have hts := atoms_spec (ws := cd_q_Kind_groupLimit :: WS) B.pre
  have hown : s.vm.findClass R_Kind = some m.cls := findClass_of_methodNamed B.named
  have hlocks := B.notSynchronized
  have hl := lv_entry ([.ref (sa 7), .int (nI x)]) (n := 4) (Nat.le_of_ble_eq_true rfl)
  rw [lg_entry_eq]
  generalize (lg_sl ([.ref (sa 7), .int (nI x)]) ++ List.replicate (4 - (lg_sl ([.ref (sa 7), .int (nI x)])).length) Slot.unset).toArray = ls at hl ⊢
  refine bd_q_Kind_groupLimit_0 cI cC sa x hx1 ⟨B.exec, B.bytes, hml, hown, hts⟩ (Nat.le_refl _) (Nat.le_refl _) ⟨Nat.le_refl _, Nat.le_refl _⟩ hK hSt (fun pc ls H locs hd hS => ?_) ls _ _ hl (va_S.rf (A := noA))
  exact W.iret B.exec B.bytes B.returns (fun t ht _ => ⟨⟨_, (), rfl, rfl, trivial⟩, hS.F ht⟩) hS.2.2 hd
end
section
theorem d_q_Kind_bitsFor_0 : decode b_q_Kind_bitsFor 0 = .ok (.iload_n 1, 1) := by decide +kernel
theorem d_q_Kind_bitsFor_1 : decode b_q_Kind_bitsFor 1 = .ok (.aload_n 0, 1) := by decide +kernel
theorem d_q_Kind_bitsFor_2 : decode b_q_Kind_bitsFor 2 = .ok (.getfield 41, 3) := by decide +kernel
theorem d_q_Kind_bitsFor_5 : decode b_q_Kind_bitsFor 5 = .ok (.irem, 1) := by decide +kernel
theorem d_q_Kind_bitsFor_6 : decode b_q_Kind_bitsFor 6 = .ok (.istore_n 2, 1) := by decide +kernel
theorem d_q_Kind_bitsFor_7 : decode b_q_Kind_bitsFor 7 = .ok (.iconst 4, 1) := by decide +kernel
theorem d_q_Kind_bitsFor_8 : decode b_q_Kind_bitsFor 8 = .ok (.aload_n 0, 1) := by decide +kernel
theorem d_q_Kind_bitsFor_9 : decode b_q_Kind_bitsFor 9 = .ok (.getfield 38, 3) := by decide +kernel
theorem d_q_Kind_bitsFor_12 : decode b_q_Kind_bitsFor 12 = .ok (.iadd, 1) := by decide +kernel
theorem d_q_Kind_bitsFor_13 : decode b_q_Kind_bitsFor 13 = .ok (.iload_n 1, 1) := by decide +kernel
theorem d_q_Kind_bitsFor_14 : decode b_q_Kind_bitsFor 14 = .ok (.aload_n 0, 1) := by decide +kernel
theorem d_q_Kind_bitsFor_15 : decode b_q_Kind_bitsFor 15 = .ok (.getfield 41, 3) := by decide +kernel
theorem d_q_Kind_bitsFor_18 : decode b_q_Kind_bitsFor 18 = .ok (.idiv, 1) := by decide +kernel
theorem d_q_Kind_bitsFor_19 : decode b_q_Kind_bitsFor 19 = .ok (.aload_n 0, 1) := by decide +kernel
theorem d_q_Kind_bitsFor_20 : decode b_q_Kind_bitsFor 20 = .ok (.aload_n 0, 1) := by decide +kernel
theorem d_q_Kind_bitsFor_21 : decode b_q_Kind_bitsFor 21 = .ok (.getfield 41, 3) := by decide +kernel
theorem d_q_Kind_bitsFor_24 : decode b_q_Kind_bitsFor 24 = .ok (.invokevirtual 76, 3) := by decide +kernel
theorem d_q_Kind_bitsFor_27 : decode b_q_Kind_bitsFor 27 = .ok (.imul, 1) := by decide +kernel
theorem d_q_Kind_bitsFor_28 : decode b_q_Kind_bitsFor 28 = .ok (.iadd, 1) := by decide +kernel
theorem d_q_Kind_bitsFor_29 : decode b_q_Kind_bitsFor 29 = .ok (.istore_n 3, 1) := by decide +kernel
theorem d_q_Kind_bitsFor_30 : decode b_q_Kind_bitsFor 30 = .ok (.iload_n 2, 1) := by decide +kernel
theorem d_q_Kind_bitsFor_31 : decode b_q_Kind_bitsFor 31 = .ok (.ifCond .ne 7, 3) := by decide +kernel
theorem d_q_Kind_bitsFor_34 : decode b_q_Kind_bitsFor 34 = .ok (.iload_n 3, 1) := by decide +kernel
theorem d_q_Kind_bitsFor_35 : decode b_q_Kind_bitsFor 35 = .ok (.goto 10, 3) := by decide +kernel
theorem d_q_Kind_bitsFor_38 : decode b_q_Kind_bitsFor 38 = .ok (.iload_n 3, 1) := by decide +kernel
theorem d_q_Kind_bitsFor_39 : decode b_q_Kind_bitsFor 39 = .ok (.aload_n 0, 1) := by decide +kernel
theorem d_q_Kind_bitsFor_40 : decode b_q_Kind_bitsFor 40 = .ok (.iload_n 2, 1) := by decide +kernel
theorem d_q_Kind_bitsFor_41 : decode b_q_Kind_bitsFor 41 = .ok (.invokevirtual 76, 3) := by decide +kernel
theorem d_q_Kind_bitsFor_44 : decode b_q_Kind_bitsFor 44 = .ok (.iadd, 1) := by decide +kernel
theorem d_q_Kind_bitsFor_45 : decode b_q_Kind_bitsFor 45 = .ok (.ireturn, 1) := by decide +kernel
end
section
variable {p : Program} {l : Launch} {e : Env} {R : Room} {s : State} {m : MethodId} {args : Array Value} {below : List Frame} {meth : Method} {c : Code} {cells slots : Nat} {Q : State → Prop} {A : Nat → Prop} {H0 : Heap} {D : va_G}
set_option maxHeartbeats 1000000 in
set_option maxRecDepth 100000 in
theorem bd_q_Kind_bitsFor_0 (cI cC : ClassId) (sa : Nat → Nat) (n : Nat) (hn0 : n ≤ 45) (S : CallFix p m c b_q_Kind_bitsFor 4 s args (cd_q_Kind_bitsFor :: WS) R_Kind) (hRf : 1 ≤ R.frames) (hRl : 21 ≤ R.locals) (hRc : cells ≤ R.cells ∧ slots ≤ R.slots) (hK : va_K D classes [(cI, .int), (cC, .char)] s) (hSt : SB sa A s s.heap) (kr : ∀ (pc : Nat) (ls : Array Slot) (H : Heap) (locs : List Loc), decode b_q_Kind_bitsFor pc = .ok (.ireturn, 1) → va_S A s.heap H locs → W p l e R s m args below meth c H locs cells slots Q (F0 m pc ls [.int (nI (4 + gwd 1 + bfN 1 n))])) : ∀ (ls : Array Slot) (H : Heap) (locs : List Loc), lv_has ls 4 [(0, .ref (sa 7)), (1, .int (nI n))] → va_S A s.heap H locs → W p l e R s m args below meth c H locs cells slots Q (F0 m 0 ls []) := by
  obtain ⟨hx, hb, hml, hown, hts⟩ := id S
  intro ls H locs hl hS
  refine lv_iload_n hx hb d_q_Kind_bitsFor_0 rfl (lv_at hl 1 rfl) ?_
  refine lv_aload_n hx hb d_q_Kind_bitsFor_1 rfl (lv_at hl 0 rfl) ?_
  refine n_kget hx hb hts (kf_0_group hSt) hS hown kw_1012 d_q_Kind_bitsFor_2 ?_
  refine n_irem hx hb d_q_Kind_bitsFor_5 (by omega) (by omega) (by omega) ?_
  refine lv_istore_n hx hb d_q_Kind_bitsFor_6 rfl hl (Nat.le_of_ble_eq_true rfl) rfl (fun ls hl => ?_)
  have hl : lv_has ls 4 [(2, .int (nI (n % 3))), (0, .ref (sa 7)), (1, .int (nI n))] := hl
  refine lv_iconst (v := nI 4) hx hb d_q_Kind_bitsFor_7 (by decide) ?_
  refine lv_aload_n hx hb d_q_Kind_bitsFor_8 rfl (lv_at hl 1 rfl) ?_
  refine n_kget hx hb hts (kf_0_countBits hSt) hS hown kw_1013 d_q_Kind_bitsFor_9 ?_
  refine n_iadd hx hb d_q_Kind_bitsFor_12 ?_
  refine lv_iload_n hx hb d_q_Kind_bitsFor_13 rfl (lv_at hl 2 rfl) ?_
  refine lv_aload_n hx hb d_q_Kind_bitsFor_14 rfl (lv_at hl 1 rfl) ?_
  refine n_kget hx hb hts (kf_0_group hSt) hS hown kw_1012 d_q_Kind_bitsFor_15 ?_
  refine n_idiv hx hb d_q_Kind_bitsFor_18 (by omega) (by omega) (by omega) ?_
  refine lv_aload_n hx hb d_q_Kind_bitsFor_19 rfl (lv_at hl 1 rfl) ?_
  refine lv_aload_n hx hb d_q_Kind_bitsFor_20 rfl (lv_at hl 1 rfl) ?_
  refine n_kget hx hb hts (kf_0_group hSt) hS hown kw_1012 d_q_Kind_bitsFor_21 ?_
  refine q_readVr (n := 1) (As := [.int (nI 3)]) (rest := [.int (nI (n / 3)), .int (nI (4 + 10))]) (wc := []) S (c_q_Kind_groupBits_0 l D cI cC sa 3 (by decide) (by decide)) hSt hK va_P0 (o_recv (ko_0 hSt) hS) [] rfl (q_goodV kw_489 kw_490 kw_491 kw_16 kw_492) (by decide +kernel) rfl rfl rfl ⟨Nat.le_trans (Nat.le_of_ble_eq_true rfl) hRf, Nat.le_trans (Nat.le_of_ble_eq_true rfl) hRl⟩ rfl hl.1 rfl (Nat.le_of_ble_eq_true rfl) d_q_Kind_bitsFor_24 hRc hS (fun H locs _ hS => ?_)
  refine n_imul hx hb d_q_Kind_bitsFor_27 ?_
  refine n_iadd hx hb d_q_Kind_bitsFor_28 ?_
  refine lv_istore_n hx hb d_q_Kind_bitsFor_29 rfl hl (Nat.le_of_ble_eq_true rfl) rfl (fun ls hl => ?_)
  have hl : lv_has ls 4 [(3, .int (nI ((4 + 10) + ((n / 3) * (gsz 1 3))))), (2, .int (nI (n % 3))), (0, .ref (sa 7)), (1, .int (nI n))] := hl
  refine lv_iload_n hx hb d_q_Kind_bitsFor_30 rfl (lv_at hl 1 rfl) ?_
  refine n_if_ne hx hb d_q_Kind_bitsFor_31 (tgt := 38) rfl (by omega) (fun g31 => ?_) (fun g31 => ?_)
  · skip
    refine lv_iload_n hx hb d_q_Kind_bitsFor_38 rfl (lv_at hl 0 rfl) ?_
    refine lv_aload_n hx hb d_q_Kind_bitsFor_39 rfl (lv_at hl 2 rfl) ?_
    refine lv_iload_n hx hb d_q_Kind_bitsFor_40 rfl (lv_at hl 1 rfl) ?_
    refine q_readVr (n := 1) (As := [.int (nI (n % 3))]) (rest := [.int (nI ((4 + 10) + ((n / 3) * (gsz 1 3))))]) (wc := []) S (c_q_Kind_groupBits_0 l D cI cC sa (n % 3) (by omega) (by omega)) hSt hK va_P0 (o_recv (ko_0 hSt) hS) [] rfl (q_goodV kw_489 kw_490 kw_491 kw_16 kw_492) (by decide +kernel) rfl rfl rfl ⟨Nat.le_trans (Nat.le_of_ble_eq_true rfl) hRf, Nat.le_trans (Nat.le_of_ble_eq_true rfl) hRl⟩ rfl hl.1 rfl (Nat.le_of_ble_eq_true rfl) d_q_Kind_bitsFor_41 hRc hS (fun H locs _ hS => ?_)
    refine n_iadd hx hb d_q_Kind_bitsFor_44 ?_
    refine n_topn (show ((4 + 10) + ((n / 3) * (gsz 1 3))) + (gsz 1 (n % 3)) = 4 + gwd 1 + bfN 1 n from (by first | exact bf_t0 (by omega) | exact bf_f0 (by omega))) ?_
    exact kr _ ls H locs d_q_Kind_bitsFor_45 hS
  · skip
    refine lv_iload_n hx hb d_q_Kind_bitsFor_34 rfl (lv_at hl 0 rfl) ?_
    refine lv_goto hx hb d_q_Kind_bitsFor_35 (tgt := 45) rfl ?_
    refine n_topn (show (4 + 10) + ((n / 3) * (gsz 1 3)) = 4 + gwd 1 + bfN 1 n from (by first | exact bf_t0 (by omega) | exact bf_f0 (by omega))) ?_
    exact kr _ ls H locs d_q_Kind_bitsFor_45 hS
set_option maxHeartbeats 1000000 in
set_option maxRecDepth 100000 in
theorem c_q_Kind_bitsFor_0 (l : Launch) (D : va_G) (cI cC : ClassId) (sa : Nat → Nat) (n : Nat) (hn0 : n ≤ 45) : Met l y_q_Kind_bitsFor (cd_q_Kind_bitsFor :: WS) { frames := 1, cells := 0, slots := 0, locals := 21 } (va_Pc [.ref (sa 7), .int (nI n)] (srP sa D [] [(cI, .int), (cC, .char)])) (pQ (nI (4 + gwd 1 + bfN 1 n))) 0 0 noA := by
  refine Met.ofW (cc := b_q_Kind_bitsFor) (maxL := 4) (ret := (some .int)) (by decide) rfl ?_
  intro p e s m args below meth c s₁ B hml hv0
  obtain ⟨rfl, ⟨hP, hK⟩, hSt⟩ := hv0
  have hts := atoms_spec (ws := cd_q_Kind_bitsFor :: WS) B.pre
  have hown : s.vm.findClass R_Kind = some m.cls := findClass_of_methodNamed B.named
  have hlocks := B.notSynchronized
  have hl := lv_entry ([.ref (sa 7), .int (nI n)]) (n := 4) (Nat.le_of_ble_eq_true rfl)
  rw [lg_entry_eq]
  generalize (lg_sl ([.ref (sa 7), .int (nI n)]) ++ List.replicate (4 - (lg_sl ([.ref (sa 7), .int (nI n)])).length) Slot.unset).toArray = ls at hl ⊢
  refine bd_q_Kind_bitsFor_0 cI cC sa n hn0 ⟨B.exec, B.bytes, hml, hown, hts⟩ (Nat.le_refl _) (Nat.le_refl _) ⟨Nat.le_refl _, Nat.le_refl _⟩ hK hSt (fun pc ls H locs hd hS => ?_) ls _ _ hl (va_S.rf (A := noA))
  exact W.iret B.exec B.bytes B.returns (fun t ht _ => ⟨⟨_, (), rfl, rfl, trivial⟩, hS.F ht⟩) hS.2.2 hd
end
section
theorem d_q_Kind_characterOf_0 : decode b_q_Kind_characterOf 0 = .ok (.aload_n 0, 1) := by decide +kernel
theorem d_q_Kind_characterOf_1 : decode b_q_Kind_characterOf 1 = .ok (.getstatic 12, 3) := by decide +kernel
theorem d_q_Kind_characterOf_4 : decode b_q_Kind_characterOf 4 = .ok (.if_acmp .ne 8, 3) := by decide +kernel
theorem d_q_Kind_characterOf_7 : decode b_q_Kind_characterOf 7 = .ok (.iload_n 1, 1) := by decide +kernel
theorem d_q_Kind_characterOf_8 : decode b_q_Kind_characterOf 8 = .ok (.i2c, 1) := by decide +kernel
theorem d_q_Kind_characterOf_9 : decode b_q_Kind_characterOf 9 = .ok (.goto 9, 3) := by decide +kernel
theorem d_q_Kind_characterOf_12 : decode b_q_Kind_characterOf 12 = .ok (.ldc 64, 2) := by decide +kernel
theorem d_q_Kind_characterOf_14 : decode b_q_Kind_characterOf 14 = .ok (.iload_n 1, 1) := by decide +kernel
theorem d_q_Kind_characterOf_15 : decode b_q_Kind_characterOf 15 = .ok (.invokevirtual 72, 3) := by decide +kernel
theorem d_q_Kind_characterOf_18 : decode b_q_Kind_characterOf 18 = .ok (.ireturn, 1) := by decide +kernel
end
section
variable {p : Program} {l : Launch} {e : Env} {R : Room} {s : State} {m : MethodId} {args : Array Value} {below : List Frame} {meth : Method} {c : Code} {cells slots : Nat} {Q : State → Prop} {A : Nat → Prop} {H0 : Heap} {D : va_G}
set_option maxHeartbeats 1000000 in
set_option maxRecDepth 100000 in
theorem bd_q_Kind_characterOf_0 (cI cC : ClassId) (sa : Nat → Nat) (x : Nat) (hx0 : x < 10) (S : CallFix p m c b_q_Kind_characterOf 2 s args (cd_q_Kind_characterOf :: WS) R_Kind) (hRf : 4 ≤ R.frames) (hRl : 85 ≤ R.locals) (hRc : cells ≤ R.cells ∧ slots ≤ R.slots) (hK : va_K D classes [(cI, .int), (cC, .char)] s) (hSt : SB sa A s s.heap) (kr : ∀ (pc : Nat) (ls : Array Slot) (H : Heap) (locs : List Loc), decode b_q_Kind_characterOf pc = .ok (.ireturn, 1) → va_S A s.heap H locs → W p l e R s m args below meth c H locs cells slots Q (F0 m pc ls [.int (nI (chN x))])) : ∀ (ls : Array Slot) (H : Heap) (locs : List Loc), lv_has ls 2 [(0, .ref (sa 7)), (1, .int (nI x))] → va_S A s.heap H locs → W p l e R s m args below meth c H locs cells slots Q (F0 m 0 ls []) := by
  obtain ⟨hx, hb, hml, hown, hts⟩ := id S
  intro ls H locs hl hS
  refine lv_aload_n hx hb d_q_Kind_characterOf_0 rfl (lv_at hl 0 rfl) ?_
  refine n_gets hx hb hts (kz_2 hSt) hS hown kw_396 d_q_Kind_characterOf_1 ?_
  refine n_acmp_ne hx hb d_q_Kind_characterOf_4 (tgt := 12) rfl (kn_02 hSt) ?_
  refine va_ldcS hx hb hown hSt.2.2.2.1 d_q_Kind_characterOf_12 ?_
  refine lv_iload_n hx hb d_q_Kind_characterOf_14 rfl (lv_at hl 1 rfl) ?_
  refine q_readVr (n := 1) (As := [.int (nI x)]) (rest := []) (wc := []) S (c_j_String_charAt l D cI cC sa x (by omega)) hSt hK va_P0 (o_recv (ks_o hSt) hS) [] rfl (q_goodV kw_702 kw_703 kw_704 kw_17 kw_705) (by decide +kernel) rfl rfl rfl ⟨Nat.le_trans (Nat.le_of_ble_eq_true rfl) hRf, Nat.le_trans (Nat.le_of_ble_eq_true rfl) hRl⟩ rfl hl.1 rfl (Nat.le_of_ble_eq_true rfl) d_q_Kind_characterOf_15 hRc hS (fun H locs _ hS => ?_)
  refine n_topn (show pbT x = chN x from (pb_chk x (by omega)).2.2) ?_
  exact kr _ ls H locs d_q_Kind_characterOf_18 hS
set_option maxHeartbeats 1000000 in
set_option maxRecDepth 100000 in
theorem c_q_Kind_characterOf_0 (l : Launch) (D : va_G) (cI cC : ClassId) (sa : Nat → Nat) (x : Nat) (hx0 : x < 10) : Met l y_q_Kind_characterOf (cd_q_Kind_characterOf :: WS) { frames := 4, cells := 0, slots := 0, locals := 85 } (va_Pc [.ref (sa 7), .int (nI x)] (srP sa D [] [(cI, .int), (cC, .char)])) (pQ (nI (chN x))) 0 0 noA := by
  refine Met.ofW (cc := b_q_Kind_characterOf) (maxL := 2) (ret := (some .char)) (by decide) rfl ?_
  intro p e s m args below meth c s₁ B hml hv0
  obtain ⟨rfl, ⟨hP, hK⟩, hSt⟩ := hv0
  have hts := atoms_spec (ws := cd_q_Kind_characterOf :: WS) B.pre
  have hown : s.vm.findClass R_Kind = some m.cls := findClass_of_methodNamed B.named
  have hlocks := B.notSynchronized
  have hl := lv_entry ([.ref (sa 7), .int (nI x)]) (n := 2) (Nat.le_of_ble_eq_true rfl)
  rw [lg_entry_eq]
  generalize (lg_sl ([.ref (sa 7), .int (nI x)]) ++ List.replicate (2 - (lg_sl ([.ref (sa 7), .int (nI x)])).length) Slot.unset).toArray = ls at hl ⊢
  refine bd_q_Kind_characterOf_0 cI cC sa x hx0 ⟨B.exec, B.bytes, hml, hown, hts⟩ (Nat.le_refl _) (Nat.le_refl _) ⟨Nat.le_refl _, Nat.le_refl _⟩ hK hSt (fun pc ls H locs hd hS => ?_) ls _ _ hl (va_S.rf (A := noA))
  exact W.zret B.exec B.bytes B.returns (ch_fit _ (by rw [← (pb_chk x (by omega)).2.2]; exact Nat.lt_trans (pb_chk x (by omega)).2.1 (by decide))) (fun t ht _ => ⟨⟨_, (), rfl, rfl, trivial⟩, hS.F ht⟩) hS.2.2 hd
end
section
theorem d_q_Kind_withCode_0 : decode b_q_Kind_withCode 0 = .ok (.getstatic 53, 3) := by decide +kernel
theorem d_q_Kind_withCode_3 : decode b_q_Kind_withCode 3 = .ok (.astore_n 1, 1) := by decide +kernel
theorem d_q_Kind_withCode_4 : decode b_q_Kind_withCode 4 = .ok (.aload_n 1, 1) := by decide +kernel
theorem d_q_Kind_withCode_5 : decode b_q_Kind_withCode 5 = .ok (.arraylength, 1) := by decide +kernel
theorem d_q_Kind_withCode_6 : decode b_q_Kind_withCode 6 = .ok (.istore_n 2, 1) := by decide +kernel
theorem d_q_Kind_withCode_7 : decode b_q_Kind_withCode 7 = .ok (.iconst 0, 1) := by decide +kernel
theorem d_q_Kind_withCode_8 : decode b_q_Kind_withCode 8 = .ok (.istore_n 3, 1) := by decide +kernel
theorem d_q_Kind_withCode_9 : decode b_q_Kind_withCode 9 = .ok (.iload_n 3, 1) := by decide +kernel
theorem d_q_Kind_withCode_10 : decode b_q_Kind_withCode 10 = .ok (.iload_n 2, 1) := by decide +kernel
theorem d_q_Kind_withCode_11 : decode b_q_Kind_withCode 11 = .ok (.if_icmp .ge 26, 3) := by decide +kernel
theorem d_q_Kind_withCode_14 : decode b_q_Kind_withCode 14 = .ok (.aload_n 1, 1) := by decide +kernel
theorem d_q_Kind_withCode_15 : decode b_q_Kind_withCode 15 = .ok (.iload_n 3, 1) := by decide +kernel
theorem d_q_Kind_withCode_16 : decode b_q_Kind_withCode 16 = .ok (.aaload, 1) := by decide +kernel
theorem d_q_Kind_withCode_17 : decode b_q_Kind_withCode 17 = .ok (.astore 4, 2) := by decide +kernel
theorem d_q_Kind_withCode_19 : decode b_q_Kind_withCode 19 = .ok (.aload 4, 2) := by decide +kernel
theorem d_q_Kind_withCode_21 : decode b_q_Kind_withCode 21 = .ok (.getfield 34, 3) := by decide +kernel
theorem d_q_Kind_withCode_24 : decode b_q_Kind_withCode 24 = .ok (.iload_n 0, 1) := by decide +kernel
theorem d_q_Kind_withCode_25 : decode b_q_Kind_withCode 25 = .ok (.if_icmp .ne 6, 3) := by decide +kernel
theorem d_q_Kind_withCode_28 : decode b_q_Kind_withCode 28 = .ok (.aload 4, 2) := by decide +kernel
theorem d_q_Kind_withCode_30 : decode b_q_Kind_withCode 30 = .ok (.areturn, 1) := by decide +kernel
theorem d_q_Kind_withCode_31 : decode b_q_Kind_withCode 31 = .ok (.iinc 3 1, 3) := by decide +kernel
theorem d_q_Kind_withCode_34 : decode b_q_Kind_withCode 34 = .ok (.goto (-25), 3) := by decide +kernel
theorem d_q_Kind_withCode_37 : decode b_q_Kind_withCode 37 = .ok (.aconst_null, 1) := by decide +kernel
theorem d_q_Kind_withCode_38 : decode b_q_Kind_withCode 38 = .ok (.areturn, 1) := by decide +kernel
end
section
variable {p : Program} {l : Launch} {e : Env} {R : Room} {s : State} {m : MethodId} {args : Array Value} {below : List Frame} {meth : Method} {c : Code} {cells slots : Nat} {Q : State → Prop} {A : Nat → Prop} {H0 : Heap} {D : va_G}
set_option maxHeartbeats 1000000 in
set_option maxRecDepth 100000 in
theorem bd_q_Kind_withCode_0 (cI cC : ClassId) (sa : Nat → Nat) (S : CallFix p m c b_q_Kind_withCode 5 s args (cd_q_Kind_withCode :: WS) R_Kind) (hRf : 0 ≤ R.frames) (hRl : 0 ≤ R.locals) (hRc : cells ≤ R.cells ∧ slots ≤ R.slots) (hK : va_K D classes [(cI, .int), (cC, .char)] s) (hSt : SB sa A s s.heap) (kr : ∀ (pc : Nat) (ls : Array Slot) (H : Heap) (locs : List Loc), decode b_q_Kind_withCode pc = .ok (.areturn, 1) → va_S A s.heap H locs → W p l e R s m args below meth c H locs cells slots Q (F0 m pc ls [.ref (sa 7)])) : ∀ (ls : Array Slot) (H : Heap) (locs : List Loc), lv_has ls 5 [(0, .int (nI 1))] → va_S A s.heap H locs → W p l e R s m args below meth c H locs cells slots Q (F0 m 0 ls []) := by
  obtain ⟨hx, hb, hml, hown, hts⟩ := id S
  intro ls H locs hl hS
  refine n_gets hx hb hts (kk_z hSt) hS hown kw_385 d_q_Kind_withCode_0 ?_
  refine lv_astore_n hx hb d_q_Kind_withCode_3 rfl hl (Nat.le_of_ble_eq_true rfl) rfl (fun ls hl => ?_)
  have hl : lv_has ls 5 [(1, .ref (sa 6)), (0, .int (nI 1))] := hl
  refine lv_aload_n hx hb d_q_Kind_withCode_4 rfl (lv_at hl 0 rfl) ?_
  refine va_tlen (v := nI 3) hx hb (kk_t hSt) hS rfl d_q_Kind_withCode_5 ?_
  refine lv_istore_n hx hb d_q_Kind_withCode_6 rfl hl (Nat.le_of_ble_eq_true rfl) rfl (fun ls hl => ?_)
  have hl : lv_has ls 5 [(2, .int (nI 3)), (1, .ref (sa 6)), (0, .int (nI 1))] := hl
  refine lv_iconst (v := nI 0) hx hb d_q_Kind_withCode_7 (by decide) ?_
  refine lv_istore_n hx hb d_q_Kind_withCode_8 rfl hl (Nat.le_of_ble_eq_true rfl) rfl (fun ls hl => ?_)
  have hl : lv_has ls 5 [(3, .int (nI 0)), (2, .int (nI 3)), (1, .ref (sa 6)), (0, .int (nI 1))] := hl
  refine lv_iload_n hx hb d_q_Kind_withCode_9 rfl (lv_at hl 0 rfl) ?_
  refine lv_iload_n hx hb d_q_Kind_withCode_10 rfl (lv_at hl 1 rfl) ?_
  refine n_icmp_ge hx hb d_q_Kind_withCode_11 (tgt := 37) rfl (by omega) (by omega) (fun g11 => absurd g11 (by decide)) (fun g11 => ?_)
  refine lv_aload_n hx hb d_q_Kind_withCode_14 rfl (lv_at hl 2 rfl) ?_
  refine lv_iload_n hx hb d_q_Kind_withCode_15 rfl (lv_at hl 0 rfl) ?_
  refine vb_tq (v := .ref (sa 7)) hx hb (kk_t hSt) hS (vp_in_nI (show 0 < 3 by decide) (by decide)) rfl d_q_Kind_withCode_16 ?_
  refine lv_astore hx hb d_q_Kind_withCode_17 hl (Nat.le_of_ble_eq_true rfl) rfl (fun ls hl => ?_)
  have hl : lv_has ls 5 [(4, .ref (sa 7)), (3, .int (nI 0)), (2, .int (nI 3)), (1, .ref (sa 6)), (0, .int (nI 1))] := hl
  refine lv_aload hx hb d_q_Kind_withCode_19 (lv_at hl 0 rfl) ?_
  refine n_kget hx hb hts (kf_0_code hSt) hS hown kw_1020 d_q_Kind_withCode_21 ?_
  refine lv_iload_n hx hb d_q_Kind_withCode_24 rfl (lv_at hl 4 rfl) ?_
  refine n_icmp_ne hx hb d_q_Kind_withCode_25 (tgt := 31) rfl (by omega) (by omega) (fun g25 => absurd g25 (by decide)) (fun g25 => ?_)
  refine lv_aload hx hb d_q_Kind_withCode_28 (lv_at hl 0 rfl) ?_
  exact kr _ ls H locs d_q_Kind_withCode_30 hS
set_option maxHeartbeats 1000000 in
set_option maxRecDepth 100000 in
theorem c_q_Kind_withCode_0 (l : Launch) (D : va_G) (cI cC : ClassId) (sa : Nat → Nat) : Met l y_q_Kind_withCode (cd_q_Kind_withCode :: WS) { frames := 0, cells := 0, slots := 0, locals := 0 } (va_Pc [.int (nI 1)] (srP sa D [] [(cI, .int), (cC, .char)])) (pQq (some (sa 7))) 0 0 noA := by
  refine Met.ofW (cc := b_q_Kind_withCode) (maxL := 5) (ret := (some (.object "SquareCodes$Kind"))) (by decide) rfl ?_
  intro p e s m args below meth c s₁ B hml hv0
  obtain ⟨rfl, ⟨hP, hK⟩, hSt⟩ := hv0
  have hts := atoms_spec (ws := cd_q_Kind_withCode :: WS) B.pre
  have hown : s.vm.findClass R_Kind = some m.cls := findClass_of_methodNamed B.named
  have hlocks := B.notSynchronized
  have hl := lv_entry ([.int (nI 1)]) (n := 5) (Nat.le_of_ble_eq_true rfl)
  rw [lg_entry_eq]
  generalize (lg_sl ([.int (nI 1)]) ++ List.replicate (5 - (lg_sl ([.int (nI 1)])).length) Slot.unset).toArray = ls at hl ⊢
  refine bd_q_Kind_withCode_0 cI cC sa  ⟨B.exec, B.bytes, hml, hown, hts⟩ (Nat.le_refl _) (Nat.le_refl _) ⟨Nat.le_refl _, Nat.le_refl _⟩ hK hSt (fun pc ls H locs hd hS => ?_) ls _ _ hl (va_S.rf (A := noA))
  exact W.aret B.exec B.bytes B.returns (Or.inl ⟨_, rfl⟩) (Or.inr ⟨_, rfl⟩) (fun t ht _ => ⟨⟨some _, (), rfl, rfl, trivial⟩, hS.F ht⟩) hS.2.2 hd
end
section
variable {p : Program} {l : Launch} {e : Env} {R : Room} {s : State} {m : MethodId} {args : Array Value} {below : List Frame} {meth : Method} {c : Code} {cells slots : Nat} {Q : State → Prop} {A : Nat → Prop} {H0 : Heap} {D : va_G}
set_option maxHeartbeats 1000000 in
set_option maxRecDepth 100000 in
theorem bd_q_Kind_valueOfCharacter_1 (cI cC : ClassId) (sa : Nat → Nat) (x : Nat) (hx0 : x < 127) (S : CallFix p m c b_q_Kind_valueOfCharacter 3 s args (cd_q_Kind_valueOfCharacter :: WS) R_Kind) (hRf : 4 ≤ R.frames) (hRl : 91 ≤ R.locals) (hRc : cells ≤ R.cells ∧ slots ≤ R.slots) (hK : va_K D classes [(cI, .int), (cC, .char)] s) (hSt : SB sa A s s.heap) (kr : ∀ (pc : Nat) (ls : Array Slot) (H : Heap) (locs : List Loc), decode b_q_Kind_valueOfCharacter pc = .ok (.ireturn, 1) → va_S A s.heap H locs → W p l e R s m args below meth c H locs cells slots Q (F0 m pc ls [.int (plI x)])) : ∀ (ls : Array Slot) (H : Heap) (locs : List Loc), lv_has ls 3 [(0, .ref (sa 8)), (1, .int (nI x))] → va_S A s.heap H locs → W p l e R s m args below meth c H locs cells slots Q (F0 m 0 ls []) := by
  obtain ⟨hx, hb, hml, hown, hts⟩ := id S
  intro ls H locs hl hS
  refine lv_aload_n hx hb d_q_Kind_valueOfCharacter_0 rfl (lv_at hl 0 rfl) ?_
  refine n_gets hx hb hts (kz_2 hSt) hS hown kw_396 d_q_Kind_valueOfCharacter_1 ?_
  refine n_acmp_ne hx hb d_q_Kind_valueOfCharacter_4 (tgt := 9) rfl (kn_12 hSt) ?_
  refine va_ldcS hx hb hown hSt.2.2.2.1 d_q_Kind_valueOfCharacter_9 ?_
  refine lv_iload_n hx hb d_q_Kind_valueOfCharacter_11 rfl (lv_at hl 1 rfl) ?_
  refine q_readVr (n := 1) (As := [.int (nI x)]) (rest := []) (wc := []) S (c_j_String_indexOf_0 l D cI cC sa x hx0) hSt hK va_P0 (o_recv (ks_o hSt) hS) [] rfl (q_goodV kw_399 kw_400 kw_401 kw_17 kw_402) (by decide +kernel) rfl rfl rfl ⟨Nat.le_trans (Nat.le_of_ble_eq_true rfl) hRf, Nat.le_trans (Nat.le_of_ble_eq_true rfl) hRl⟩ rfl hl.1 rfl (Nat.le_of_ble_eq_true rfl) d_q_Kind_valueOfCharacter_12 hRc hS (fun H locs _ hS => ?_)
  refine lv_istore_n hx hb d_q_Kind_valueOfCharacter_15 rfl hl (Nat.le_of_ble_eq_true rfl) rfl (fun ls hl => ?_)
  have hl : lv_has ls 3 [(2, .int (plI x)), (0, .ref (sa 8)), (1, .int (nI x))] := hl
  refine lv_iload_n hx hb d_q_Kind_valueOfCharacter_16 rfl (lv_at hl 0 rfl) ?_
  refine lv_aload_n hx hb d_q_Kind_valueOfCharacter_17 rfl (lv_at hl 1 rfl) ?_
  refine n_kget hx hb hts (kf_1_base hSt) hS hown kw_1011 d_q_Kind_valueOfCharacter_18 ?_
  refine lv_icmp_ge hx hb d_q_Kind_valueOfCharacter_21 (tgt := 28) rfl (fun g21 => absurd g21 (pl_45 x hx0)) (fun g21 => ?_)
  refine lv_iload_n hx hb d_q_Kind_valueOfCharacter_24 rfl (lv_at hl 0 rfl) ?_
  refine lv_goto hx hb d_q_Kind_valueOfCharacter_25 (tgt := 29) rfl ?_
  exact kr _ ls H locs d_q_Kind_valueOfCharacter_29 hS
set_option maxHeartbeats 1000000 in
set_option maxRecDepth 100000 in
theorem c_q_Kind_valueOfCharacter_1 (l : Launch) (D : va_G) (cI cC : ClassId) (sa : Nat → Nat) (x : Nat) (hx0 : x < 127) : Met l y_q_Kind_valueOfCharacter (cd_q_Kind_valueOfCharacter :: WS) { frames := 4, cells := 0, slots := 0, locals := 91 } (va_Pc [.ref (sa 8), .int (nI x)] (srP sa D [] [(cI, .int), (cC, .char)])) (pQ (plI x)) 0 0 noA := by
  refine Met.ofW (cc := b_q_Kind_valueOfCharacter) (maxL := 3) (ret := (some .int)) (by decide) rfl ?_
  intro p e s m args below meth c s₁ B hml hv0
  obtain ⟨rfl, ⟨hP, hK⟩, hSt⟩ := hv0
  have hts := atoms_spec (ws := cd_q_Kind_valueOfCharacter :: WS) B.pre
  have hown : s.vm.findClass R_Kind = some m.cls := findClass_of_methodNamed B.named
  have hlocks := B.notSynchronized
  have hl := lv_entry ([.ref (sa 8), .int (nI x)]) (n := 3) (Nat.le_of_ble_eq_true rfl)
  rw [lg_entry_eq]
  generalize (lg_sl ([.ref (sa 8), .int (nI x)]) ++ List.replicate (3 - (lg_sl ([.ref (sa 8), .int (nI x)])).length) Slot.unset).toArray = ls at hl ⊢
  refine bd_q_Kind_valueOfCharacter_1 cI cC sa x hx0 ⟨B.exec, B.bytes, hml, hown, hts⟩ (Nat.le_refl _) (Nat.le_refl _) ⟨Nat.le_refl _, Nat.le_refl _⟩ hK hSt (fun pc ls H locs hd hS => ?_) ls _ _ hl (va_S.rf (A := noA))
  exact W.iret B.exec B.bytes B.returns (fun t ht _ => ⟨⟨_, (), rfl, rfl, trivial⟩, hS.F ht⟩) hS.2.2 hd
end
section
variable {p : Program} {l : Launch} {e : Env} {R : Room} {s : State} {m : MethodId} {args : Array Value} {below : List Frame} {meth : Method} {c : Code} {cells slots : Nat} {Q : State → Prop} {A : Nat → Prop} {H0 : Heap} {D : va_G}
set_option maxHeartbeats 1000000 in
set_option maxRecDepth 100000 in
theorem lp_q_Kind_hasAll_1_yes_2 (cI cC : ClassId) (sa : Nat → Nat) (qt : Nat) (ty : Nat → Nat) (n : Nat) (hn0 : n ≤ 45) (hty : ∀ j, j < n → ty j < 127) (hall : ∀ j, j < n → (0 ≤ plI (ty j))) (S : CallFix p m c b_q_Kind_hasAll 4 s args (cd_q_Kind_hasAll :: WS) R_Kind) (hRf : 5 ≤ R.frames) (hRl : 113 ≤ R.locals) (hRc : cells ≤ R.cells ∧ slots ≤ R.slots) (hK : va_K D classes [(cI, .int), (cC, .char)] s) (hSt : SB sa A s s.heap) (kx : ∀ (ls : Array Slot) (H : Heap) (locs : List Loc), lv_has ls 4 [(0, .ref (sa 8)), (1, .ref qt), (2, .int (nI n)), (3, .int (nI n))] → va_P D classes [(qt, .inl (cC, 45, .inl (fun j => nI (ty j))))] H → va_S A s.heap H locs → W p l e R s m args below meth c H locs cells slots Q (F0 m 26 ls [])) :
    ∀ k, k ≤ n → ∀ (ls : Array Slot) (H : Heap) (locs : List Loc), lv_has ls 4 [(0, .ref (sa 8)), (1, .ref qt), (2, .int (nI n)), (3, .int (nI k))] → va_P D classes [(qt, .inl (cC, 45, .inl (fun j => nI (ty j))))] H → va_S A s.heap H locs → W p l e R s m args below meth c H locs cells slots Q (F0 m 2 ls []) := by
  obtain ⟨hx, hb, hml, hown, hts⟩ := id S
  refine up_loop (fun k hkk ih => ?_)
  intro ls H locs hl hP hS
  refine lv_iload_n hx hb d_q_Kind_hasAll_2 rfl (lv_at hl 3 rfl) ?_
  refine lv_iload_n hx hb d_q_Kind_hasAll_3 rfl (lv_at hl 2 rfl) ?_
  refine n_icmp_ge hx hb d_q_Kind_hasAll_4 (tgt := 26) rfl (by omega) (by omega) (fun g4 => ?_) (fun g4 => ?_)
  · skip
    obtain rfl : k = n := by omega
    exact kx ls H locs (lv_sub hl [0, 1, 2, 3] rfl) hP hS
  · skip
    refine lv_aload_n hx hb d_q_Kind_hasAll_7 rfl (lv_at hl 0 rfl) ?_
    refine lv_aload_n hx hb d_q_Kind_hasAll_8 rfl (lv_at hl 1 rfl) ?_
    refine lv_iload_n hx hb d_q_Kind_hasAll_9 rfl (lv_at hl 3 rfl) ?_
    refine n_cald hx hb hK hP 0 1 rfl rfl (by omega) (by decide) d_q_Kind_hasAll_10 ?_
    refine q_readVr (n := 1) (As := [.int (nI (ty k))]) (rest := []) (wc := []) S (c_q_Kind_valueOfCharacter_1 l D cI cC sa (ty k) (hty k (by omega))) hSt hK hP (o_recv (ko_1 hSt) hS) [] rfl (q_goodV kw_392 kw_393 kw_394 kw_16 kw_395) (by decide +kernel) rfl rfl rfl ⟨Nat.le_trans (Nat.le_of_ble_eq_true rfl) hRf, Nat.le_trans (Nat.le_of_ble_eq_true rfl) hRl⟩ rfl hl.1 rfl (Nat.le_of_ble_eq_true rfl) d_q_Kind_hasAll_11 hRc hS (fun H locs hP hS => ?_)
    refine lv_iconst (v := (-1)) hx hb d_q_Kind_hasAll_14 (by decide) ?_
    refine lv_icmp_ne hx hb d_q_Kind_hasAll_15 (tgt := 20) rfl (fun g15 => ?_) (fun g15 => absurd g15 ((pl_chk (ty k) (hty k (by omega))).elim (fun h8 => h8.1) (fun h8 => absurd (hall k (by omega)) h8.2)))
    refine lv_iinc (k := 3) (v := nI (k + 1)) hx hb d_q_Kind_hasAll_20 hl rfl (nx_inc k 1) (Nat.le_of_ble_eq_true rfl) rfl (fun ls hl => ?_)
    have hl : lv_has ls 4 [(3, .int (nI (k + 1))), (0, .ref (sa 8)), (1, .ref qt), (2, .int (nI n))] := hl
    refine lv_goto hx hb d_q_Kind_hasAll_23 (tgt := 2) rfl ?_
    exact ih (by omega) ls H locs (lv_sub hl [1, 2, 3, 0] rfl) hP hS
set_option maxHeartbeats 1000000 in
set_option maxRecDepth 100000 in
theorem bd_q_Kind_hasAll_1_yes (cI cC : ClassId) (sa : Nat → Nat) (qt : Nat) (ty : Nat → Nat) (n : Nat) (hn0 : n ≤ 45) (hty : ∀ j, j < n → ty j < 127) (hall : ∀ j, j < n → (0 ≤ plI (ty j))) (S : CallFix p m c b_q_Kind_hasAll 4 s args (cd_q_Kind_hasAll :: WS) R_Kind) (hRf : 5 ≤ R.frames) (hRl : 113 ≤ R.locals) (hRc : cells ≤ R.cells ∧ slots ≤ R.slots) (hK : va_K D classes [(cI, .int), (cC, .char)] s) (hSt : SB sa A s s.heap) (kr : ∀ (pc : Nat) (ls : Array Slot) (H : Heap) (locs : List Loc), decode b_q_Kind_hasAll pc = .ok (.ireturn, 1) → va_P D classes [(qt, .inl (cC, 45, .inl (fun j => nI (ty j))))] H → va_S A s.heap H locs → W p l e R s m args below meth c H locs cells slots Q (F0 m pc ls [.int (nI 1)])) : ∀ (ls : Array Slot) (H : Heap) (locs : List Loc), lv_has ls 4 [(0, .ref (sa 8)), (1, .ref qt), (2, .int (nI n))] → va_P D classes [(qt, .inl (cC, 45, .inl (fun j => nI (ty j))))] H → va_S A s.heap H locs → W p l e R s m args below meth c H locs cells slots Q (F0 m 0 ls []) := by
  obtain ⟨hx, hb, hml, hown, hts⟩ := id S
  intro ls H locs hl hP hS
  refine lv_iconst (v := nI 0) hx hb d_q_Kind_hasAll_0 (by decide) ?_
  refine lv_istore_n hx hb d_q_Kind_hasAll_1 rfl hl (Nat.le_of_ble_eq_true rfl) rfl (fun ls hl => ?_)
  have hl : lv_has ls 4 [(3, .int (nI 0)), (0, .ref (sa 8)), (1, .ref qt), (2, .int (nI n))] := hl
  refine lp_q_Kind_hasAll_1_yes_2 cI cC sa qt ty n hn0 hty hall S hRf hRl hRc hK hSt  (fun ls H locs hl hP hS => ?_) 0 (by omega) ls H locs (lv_sub hl [1, 2, 3, 0] rfl) hP hS
  refine lv_iconst (v := nI 1) hx hb d_q_Kind_hasAll_26 (by decide) ?_
  exact kr _ ls H locs d_q_Kind_hasAll_27 hP hS
set_option maxHeartbeats 1000000 in
set_option maxRecDepth 100000 in
theorem c_q_Kind_hasAll_1_yes (l : Launch) (D : va_G) (cI cC : ClassId) (sa : Nat → Nat) (qt : Nat) (ty : Nat → Nat) (n : Nat) (hn0 : n ≤ 45) (hty : ∀ j, j < n → ty j < 127) (hall : ∀ j, j < n → (0 ≤ plI (ty j))) : Met l y_q_Kind_hasAll (cd_q_Kind_hasAll :: WS) { frames := 5, cells := 0, slots := 0, locals := 113 } (va_Pc [.ref (sa 8), .ref qt, .int (nI n)] (srP sa D [(qt, .inl (cC, 45, .inl (fun j => nI (ty j))))] [(cI, .int), (cC, .char)])) (pQ (nI 1)) 0 0 noA := by
  refine Met.ofW (cc := b_q_Kind_hasAll) (maxL := 4) (ret := (some .boolean)) (by decide) rfl ?_
  intro p e s m args below meth c s₁ B hml hv0
  obtain ⟨rfl, ⟨hP, hK⟩, hSt⟩ := hv0
  have hts := atoms_spec (ws := cd_q_Kind_hasAll :: WS) B.pre
  have hown : s.vm.findClass R_Kind = some m.cls := findClass_of_methodNamed B.named
  have hlocks := B.notSynchronized
  have hl := lv_entry ([.ref (sa 8), .ref qt, .int (nI n)]) (n := 4) (Nat.le_of_ble_eq_true rfl)
  rw [lg_entry_eq]
  generalize (lg_sl ([.ref (sa 8), .ref qt, .int (nI n)]) ++ List.replicate (4 - (lg_sl ([.ref (sa 8), .ref qt, .int (nI n)])).length) Slot.unset).toArray = ls at hl ⊢
  refine bd_q_Kind_hasAll_1_yes cI cC sa qt ty n hn0 hty hall ⟨B.exec, B.bytes, hml, hown, hts⟩ (Nat.le_refl _) (Nat.le_refl _) ⟨Nat.le_refl _, Nat.le_refl _⟩ hK hSt (fun pc ls H locs hd hP hS => ?_) ls _ _ hl hP (va_S.rf (A := noA))
  exact W.zret B.exec B.bytes B.returns rfl (fun t ht _ => ⟨⟨_, (), rfl, rfl, trivial⟩, hS.F ht⟩) hS.2.2 hd
end
section
variable {p : Program} {l : Launch} {e : Env} {R : Room} {s : State} {m : MethodId} {args : Array Value} {below : List Frame} {meth : Method} {c : Code} {cells slots : Nat} {Q : State → Prop} {A : Nat → Prop} {H0 : Heap} {D : va_G}
set_option maxHeartbeats 1000000 in
set_option maxRecDepth 100000 in
theorem lp_q_Kind_hasAll_1_no_2 (cI cC : ClassId) (sa : Nat → Nat) (qt : Nat) (ty : Nat → Nat) (n x0 : Nat) (hn0 : n ≤ 45) (hty : ∀ j, j < n → ty j < 127) (hx1 : x0 < n) (hbad : ¬ (0 ≤ plI (ty x0))) (hall : ∀ j, j < x0 → (0 ≤ plI (ty j))) (S : CallFix p m c b_q_Kind_hasAll 4 s args (cd_q_Kind_hasAll :: WS) R_Kind) (hRf : 5 ≤ R.frames) (hRl : 113 ≤ R.locals) (hRc : cells ≤ R.cells ∧ slots ≤ R.slots) (hK : va_K D classes [(cI, .int), (cC, .char)] s) (hSt : SB sa A s s.heap) (kr : ∀ (pc : Nat) (ls : Array Slot) (H : Heap) (locs : List Loc), decode b_q_Kind_hasAll pc = .ok (.ireturn, 1) → va_P D classes [(qt, .inl (cC, 45, .inl (fun j => nI (ty j))))] H → va_S A s.heap H locs → W p l e R s m args below meth c H locs cells slots Q (F0 m pc ls [.int (nI 0)])) :
    ∀ k, k ≤ x0 → ∀ (ls : Array Slot) (H : Heap) (locs : List Loc), lv_has ls 4 [(0, .ref (sa 8)), (1, .ref qt), (2, .int (nI n)), (3, .int (nI k))] → va_P D classes [(qt, .inl (cC, 45, .inl (fun j => nI (ty j))))] H → va_S A s.heap H locs → W p l e R s m args below meth c H locs cells slots Q (F0 m 2 ls []) := by
  obtain ⟨hx, hb, hml, hown, hts⟩ := id S
  refine up_loop (fun k hkk ih => ?_)
  intro ls H locs hl hP hS
  refine lv_iload_n hx hb d_q_Kind_hasAll_2 rfl (lv_at hl 3 rfl) ?_
  refine lv_iload_n hx hb d_q_Kind_hasAll_3 rfl (lv_at hl 2 rfl) ?_
  refine n_icmp_ge hx hb d_q_Kind_hasAll_4 (tgt := 26) rfl (by omega) (by omega) (fun g4 => absurd g4 (by omega)) (fun g4 => ?_)
  refine lv_aload_n hx hb d_q_Kind_hasAll_7 rfl (lv_at hl 0 rfl) ?_
  refine lv_aload_n hx hb d_q_Kind_hasAll_8 rfl (lv_at hl 1 rfl) ?_
  refine lv_iload_n hx hb d_q_Kind_hasAll_9 rfl (lv_at hl 3 rfl) ?_
  refine n_cald hx hb hK hP 0 1 rfl rfl (by omega) (by decide) d_q_Kind_hasAll_10 ?_
  refine q_readVr (n := 1) (As := [.int (nI (ty k))]) (rest := []) (wc := []) S (c_q_Kind_valueOfCharacter_1 l D cI cC sa (ty k) (hty k (by omega))) hSt hK hP (o_recv (ko_1 hSt) hS) [] rfl (q_goodV kw_392 kw_393 kw_394 kw_16 kw_395) (by decide +kernel) rfl rfl rfl ⟨Nat.le_trans (Nat.le_of_ble_eq_true rfl) hRf, Nat.le_trans (Nat.le_of_ble_eq_true rfl) hRl⟩ rfl hl.1 rfl (Nat.le_of_ble_eq_true rfl) d_q_Kind_hasAll_11 hRc hS (fun H locs hP hS => ?_)
  rcases Nat.lt_or_ge k x0 with hdd | hdd
  · skip
    refine lv_iconst (v := (-1)) hx hb d_q_Kind_hasAll_14 (by decide) ?_
    refine lv_icmp_ne hx hb d_q_Kind_hasAll_15 (tgt := 20) rfl (fun g15 => ?_) (fun g15 => absurd g15 ((pl_chk (ty k) (hty k (by omega))).elim (fun h8 => h8.1) (fun h8 => absurd (hall k hdd) h8.2)))
    refine lv_iinc (k := 3) (v := nI (k + 1)) hx hb d_q_Kind_hasAll_20 hl rfl (nx_inc k 1) (Nat.le_of_ble_eq_true rfl) rfl (fun ls hl => ?_)
    have hl : lv_has ls 4 [(3, .int (nI (k + 1))), (0, .ref (sa 8)), (1, .ref qt), (2, .int (nI n))] := hl
    refine lv_goto hx hb d_q_Kind_hasAll_23 (tgt := 2) rfl ?_
    exact ih (by omega) ls H locs (lv_sub hl [1, 2, 3, 0] rfl) hP hS
  · skip
    have e0 : k = x0 := by omega
    have hbk : ¬ (0 ≤ plI (ty k)) := by rw [e0]; exact hbad
    refine lv_iconst (v := (-1)) hx hb d_q_Kind_hasAll_14 (by decide) ?_
    refine lv_icmp_ne hx hb d_q_Kind_hasAll_15 (tgt := 20) rfl (fun g15 => absurd g15 (fun z => z ((pl_chk (ty k) (hty k (by omega))).elim (fun h8 => absurd h8.2 hbk) (fun h8 => h8.1)))) (fun g15 => ?_)
    refine lv_iconst (v := nI 0) hx hb d_q_Kind_hasAll_18 (by decide) ?_
    exact kr _ ls H locs d_q_Kind_hasAll_19 hP hS
set_option maxHeartbeats 1000000 in
set_option maxRecDepth 100000 in
theorem bd_q_Kind_hasAll_1_no (cI cC : ClassId) (sa : Nat → Nat) (qt : Nat) (ty : Nat → Nat) (n x0 : Nat) (hn0 : n ≤ 45) (hty : ∀ j, j < n → ty j < 127) (hx1 : x0 < n) (hbad : ¬ (0 ≤ plI (ty x0))) (hall : ∀ j, j < x0 → (0 ≤ plI (ty j))) (S : CallFix p m c b_q_Kind_hasAll 4 s args (cd_q_Kind_hasAll :: WS) R_Kind) (hRf : 5 ≤ R.frames) (hRl : 113 ≤ R.locals) (hRc : cells ≤ R.cells ∧ slots ≤ R.slots) (hK : va_K D classes [(cI, .int), (cC, .char)] s) (hSt : SB sa A s s.heap) (kr : ∀ (pc : Nat) (ls : Array Slot) (H : Heap) (locs : List Loc), decode b_q_Kind_hasAll pc = .ok (.ireturn, 1) → va_P D classes [(qt, .inl (cC, 45, .inl (fun j => nI (ty j))))] H → va_S A s.heap H locs → W p l e R s m args below meth c H locs cells slots Q (F0 m pc ls [.int (nI 0)])) : ∀ (ls : Array Slot) (H : Heap) (locs : List Loc), lv_has ls 4 [(0, .ref (sa 8)), (1, .ref qt), (2, .int (nI n))] → va_P D classes [(qt, .inl (cC, 45, .inl (fun j => nI (ty j))))] H → va_S A s.heap H locs → W p l e R s m args below meth c H locs cells slots Q (F0 m 0 ls []) := by
  obtain ⟨hx, hb, hml, hown, hts⟩ := id S
  intro ls H locs hl hP hS
  refine lv_iconst (v := nI 0) hx hb d_q_Kind_hasAll_0 (by decide) ?_
  refine lv_istore_n hx hb d_q_Kind_hasAll_1 rfl hl (Nat.le_of_ble_eq_true rfl) rfl (fun ls hl => ?_)
  have hl : lv_has ls 4 [(3, .int (nI 0)), (0, .ref (sa 8)), (1, .ref qt), (2, .int (nI n))] := hl
  exact lp_q_Kind_hasAll_1_no_2 cI cC sa qt ty n x0 hn0 hty hx1 hbad hall S hRf hRl hRc hK hSt  kr  0 (by omega) ls H locs (lv_sub hl [1, 2, 3, 0] rfl) hP hS
set_option maxHeartbeats 1000000 in
set_option maxRecDepth 100000 in
theorem c_q_Kind_hasAll_1_no (l : Launch) (D : va_G) (cI cC : ClassId) (sa : Nat → Nat) (qt : Nat) (ty : Nat → Nat) (n x0 : Nat) (hn0 : n ≤ 45) (hty : ∀ j, j < n → ty j < 127) (hx1 : x0 < n) (hbad : ¬ (0 ≤ plI (ty x0))) (hall : ∀ j, j < x0 → (0 ≤ plI (ty j))) : Met l y_q_Kind_hasAll (cd_q_Kind_hasAll :: WS) { frames := 5, cells := 0, slots := 0, locals := 113 } (va_Pc [.ref (sa 8), .ref qt, .int (nI n)] (srP sa D [(qt, .inl (cC, 45, .inl (fun j => nI (ty j))))] [(cI, .int), (cC, .char)])) (pQ (nI 0)) 0 0 noA := by
  refine Met.ofW (cc := b_q_Kind_hasAll) (maxL := 4) (ret := (some .boolean)) (by decide) rfl ?_
  intro p e s m args below meth c s₁ B hml hv0
  obtain ⟨rfl, ⟨hP, hK⟩, hSt⟩ := hv0
  have hts := atoms_spec (ws := cd_q_Kind_hasAll :: WS) B.pre
  have hown : s.vm.findClass R_Kind = some m.cls := findClass_of_methodNamed B.named
  have hlocks := B.notSynchronized
  have hl := lv_entry ([.ref (sa 8), .ref qt, .int (nI n)]) (n := 4) (Nat.le_of_ble_eq_true rfl)
  rw [lg_entry_eq]
  generalize (lg_sl ([.ref (sa 8), .ref qt, .int (nI n)]) ++ List.replicate (4 - (lg_sl ([.ref (sa 8), .ref qt, .int (nI n)])).length) Slot.unset).toArray = ls at hl ⊢
  refine bd_q_Kind_hasAll_1_no cI cC sa qt ty n x0 hn0 hty hx1 hbad hall ⟨B.exec, B.bytes, hml, hown, hts⟩ (Nat.le_refl _) (Nat.le_refl _) ⟨Nat.le_refl _, Nat.le_refl _⟩ hK hSt (fun pc ls H locs hd hP hS => ?_) ls _ _ hl hP (va_S.rf (A := noA))
  exact W.zret B.exec B.bytes B.returns rfl (fun t ht _ => ⟨⟨_, (), rfl, rfl, trivial⟩, hS.F ht⟩) hS.2.2 hd
end
section
variable {p : Program} {l : Launch} {e : Env} {R : Room} {s : State} {m : MethodId} {args : Array Value} {below : List Frame} {meth : Method} {c : Code} {cells slots : Nat} {Q : State → Prop} {A : Nat → Prop} {H0 : Heap} {D : va_G}
set_option maxHeartbeats 1000000 in
set_option maxRecDepth 100000 in
theorem bd_q_Kind_groupBits_1 (cI cC : ClassId) (sa : Nat → Nat) (x : Nat) (hx0 : 1 ≤ x) (hx1 : x ≤ 2) (S : CallFix p m c b_q_Kind_groupBits 2 s args (cd_q_Kind_groupBits :: WS) R_Kind) (hRf : 0 ≤ R.frames) (hRl : 0 ≤ R.locals) (hRc : cells ≤ R.cells ∧ slots ≤ R.slots) (hK : va_K D classes [(cI, .int), (cC, .char)] s) (hSt : SB sa A s s.heap) (kr : ∀ (pc : Nat) (ls : Array Slot) (H : Heap) (locs : List Loc), decode b_q_Kind_groupBits pc = .ok (.ireturn, 1) → va_S A s.heap H locs → W p l e R s m args below meth c H locs cells slots Q (F0 m pc ls [.int (nI (gsz 2 x))])) : ∀ (ls : Array Slot) (H : Heap) (locs : List Loc), lv_has ls 2 [(0, .ref (sa 8)), (1, .int (nI x))] → va_S A s.heap H locs → W p l e R s m args below meth c H locs cells slots Q (F0 m 0 ls []) := by
  obtain ⟨hx, hb, hml, hown, hts⟩ := id S
  intro ls H locs hl hS
  refine lv_aload_n hx hb d_q_Kind_groupBits_0 rfl (lv_at hl 0 rfl) ?_
  refine n_kget hx hb hts (kf_1_characterBits hSt) hS hown kw_1014 d_q_Kind_groupBits_1 ?_
  refine lv_iload_n hx hb d_q_Kind_groupBits_4 rfl (lv_at hl 1 rfl) ?_
  refine n_imul hx hb d_q_Kind_groupBits_5 ?_
  refine lv_aload_n hx hb d_q_Kind_groupBits_6 rfl (lv_at hl 0 rfl) ?_
  refine n_kget hx hb hts (kf_1_extraBits hSt) hS hown kw_1015 d_q_Kind_groupBits_7 ?_
  refine n_iadd hx hb d_q_Kind_groupBits_10 ?_
  refine n_topn (show (5 * x) + 1 = gsz 2 x from (by unfold gsz; (repeat' split) <;> omega)) ?_
  exact kr _ ls H locs d_q_Kind_groupBits_11 hS
set_option maxHeartbeats 1000000 in
set_option maxRecDepth 100000 in
theorem c_q_Kind_groupBits_1 (l : Launch) (D : va_G) (cI cC : ClassId) (sa : Nat → Nat) (x : Nat) (hx0 : 1 ≤ x) (hx1 : x ≤ 2) : Met l y_q_Kind_groupBits (cd_q_Kind_groupBits :: WS) { frames := 0, cells := 0, slots := 0, locals := 0 } (va_Pc [.ref (sa 8), .int (nI x)] (srP sa D [] [(cI, .int), (cC, .char)])) (pQ (nI (gsz 2 x))) 0 0 noA := by
  refine Met.ofW (cc := b_q_Kind_groupBits) (maxL := 2) (ret := (some .int)) (by decide) rfl ?_
  intro p e s m args below meth c s₁ B hml hv0
  obtain ⟨rfl, ⟨hP, hK⟩, hSt⟩ := hv0
  have hts := atoms_spec (ws := cd_q_Kind_groupBits :: WS) B.pre
  have hown : s.vm.findClass R_Kind = some m.cls := findClass_of_methodNamed B.named
  have hlocks := B.notSynchronized
  have hl := lv_entry ([.ref (sa 8), .int (nI x)]) (n := 2) (Nat.le_of_ble_eq_true rfl)
  rw [lg_entry_eq]
  generalize (lg_sl ([.ref (sa 8), .int (nI x)]) ++ List.replicate (2 - (lg_sl ([.ref (sa 8), .int (nI x)])).length) Slot.unset).toArray = ls at hl ⊢
  refine bd_q_Kind_groupBits_1 cI cC sa x hx0 hx1 ⟨B.exec, B.bytes, hml, hown, hts⟩ (Nat.le_refl _) (Nat.le_refl _) ⟨Nat.le_refl _, Nat.le_refl _⟩ hK hSt (fun pc ls H locs hd hS => ?_) ls _ _ hl (va_S.rf (A := noA))
  exact W.iret B.exec B.bytes B.returns (fun t ht _ => ⟨⟨_, (), rfl, rfl, trivial⟩, hS.F ht⟩) hS.2.2 hd
end
section
variable {p : Program} {l : Launch} {e : Env} {R : Room} {s : State} {m : MethodId} {args : Array Value} {below : List Frame} {meth : Method} {c : Code} {cells slots : Nat} {Q : State → Prop} {A : Nat → Prop} {H0 : Heap} {D : va_G}
set_option maxHeartbeats 1000000 in
set_option maxRecDepth 100000 in
theorem lp_q_Kind_groupLimit_1_4 (cI cC : ClassId) (sa : Nat → Nat) (x : Nat) (hx1 : x ≤ 2) (S : CallFix p m c b_q_Kind_groupLimit 4 s args (cd_q_Kind_groupLimit :: WS) R_Kind) (hRf : 0 ≤ R.frames) (hRl : 0 ≤ R.locals) (hRc : cells ≤ R.cells ∧ slots ≤ R.slots) (hK : va_K D classes [(cI, .int), (cC, .char)] s) (hSt : SB sa A s s.heap) (kx : ∀ (ls : Array Slot) (H : Heap) (locs : List Loc), lv_has ls 4 [(0, .ref (sa 8)), (1, .int (nI x)), (2, .int (nI (45 ^ x))), (3, .int (nI x))] → va_S A s.heap H locs → W p l e R s m args below meth c H locs cells slots Q (F0 m 22 ls [])) :
    ∀ k, k ≤ x → ∀ (ls : Array Slot) (H : Heap) (locs : List Loc), lv_has ls 4 [(0, .ref (sa 8)), (1, .int (nI x)), (2, .int (nI (45 ^ k))), (3, .int (nI k))] → va_S A s.heap H locs → W p l e R s m args below meth c H locs cells slots Q (F0 m 4 ls []) := by
  obtain ⟨hx, hb, hml, hown, hts⟩ := id S
  refine up_loop (fun k hkk ih => ?_)
  intro ls H locs hl hS
  refine lv_iload_n hx hb d_q_Kind_groupLimit_4 rfl (lv_at hl 3 rfl) ?_
  refine lv_iload_n hx hb d_q_Kind_groupLimit_5 rfl (lv_at hl 1 rfl) ?_
  refine n_icmp_ge hx hb d_q_Kind_groupLimit_6 (tgt := 22) rfl (by omega) (by omega) (fun g6 => ?_) (fun g6 => ?_)
  · skip
    obtain rfl : k = x := by omega
    exact kx ls H locs (lv_sub hl [0, 1, 2, 3] rfl) hS
  · skip
    refine lv_iload_n hx hb d_q_Kind_groupLimit_9 rfl (lv_at hl 2 rfl) ?_
    refine lv_aload_n hx hb d_q_Kind_groupLimit_10 rfl (lv_at hl 0 rfl) ?_
    refine n_kget hx hb hts (kf_1_base hSt) hS hown kw_1011 d_q_Kind_groupLimit_11 ?_
    refine n_imul hx hb d_q_Kind_groupLimit_14 ?_
    refine n_topn (show (45 ^ k) * 45 = 45 ^ (k + 1) from (Nat.pow_succ ..).symm) ?_
    refine lv_istore_n hx hb d_q_Kind_groupLimit_15 rfl hl (Nat.le_of_ble_eq_true rfl) rfl (fun ls hl => ?_)
    have hl : lv_has ls 4 [(2, .int (nI (45 ^ (k + 1)))), (0, .ref (sa 8)), (1, .int (nI x)), (3, .int (nI k))] := hl
    refine lv_iinc (k := 3) (v := nI (k + 1)) hx hb d_q_Kind_groupLimit_16 hl rfl (nx_inc k 1) (Nat.le_of_ble_eq_true rfl) rfl (fun ls hl => ?_)
    have hl : lv_has ls 4 [(3, .int (nI (k + 1))), (2, .int (nI (45 ^ (k + 1)))), (0, .ref (sa 8)), (1, .int (nI x))] := hl
    refine lv_goto hx hb d_q_Kind_groupLimit_19 (tgt := 4) rfl ?_
    exact ih (by omega) ls H locs (lv_sub hl [2, 3, 1, 0] rfl) hS
set_option maxHeartbeats 1000000 in
set_option maxRecDepth 100000 in
theorem bd_q_Kind_groupLimit_1 (cI cC : ClassId) (sa : Nat → Nat) (x : Nat) (hx1 : x ≤ 2) (S : CallFix p m c b_q_Kind_groupLimit 4 s args (cd_q_Kind_groupLimit :: WS) R_Kind) (hRf : 0 ≤ R.frames) (hRl : 0 ≤ R.locals) (hRc : cells ≤ R.cells ∧ slots ≤ R.slots) (hK : va_K D classes [(cI, .int), (cC, .char)] s) (hSt : SB sa A s s.heap) (kr : ∀ (pc : Nat) (ls : Array Slot) (H : Heap) (locs : List Loc), decode b_q_Kind_groupLimit pc = .ok (.ireturn, 1) → va_S A s.heap H locs → W p l e R s m args below meth c H locs cells slots Q (F0 m pc ls [.int (nI (45 ^ x))])) : ∀ (ls : Array Slot) (H : Heap) (locs : List Loc), lv_has ls 4 [(0, .ref (sa 8)), (1, .int (nI x))] → va_S A s.heap H locs → W p l e R s m args below meth c H locs cells slots Q (F0 m 0 ls []) := by
  obtain ⟨hx, hb, hml, hown, hts⟩ := id S
  intro ls H locs hl hS
  refine lv_iconst (v := nI 1) hx hb d_q_Kind_groupLimit_0 (by decide) ?_
  refine lv_istore_n hx hb d_q_Kind_groupLimit_1 rfl hl (Nat.le_of_ble_eq_true rfl) rfl (fun ls hl => ?_)
  have hl : lv_has ls 4 [(2, .int (nI 1)), (0, .ref (sa 8)), (1, .int (nI x))] := hl
  refine lv_iconst (v := nI 0) hx hb d_q_Kind_groupLimit_2 (by decide) ?_
  refine lv_istore_n hx hb d_q_Kind_groupLimit_3 rfl hl (Nat.le_of_ble_eq_true rfl) rfl (fun ls hl => ?_)
  have hl : lv_has ls 4 [(3, .int (nI 0)), (2, .int (nI 1)), (0, .ref (sa 8)), (1, .int (nI x))] := hl
  refine lp_q_Kind_groupLimit_1_4 cI cC sa x hx1 S hRf hRl hRc hK hSt  (fun ls H locs hl hS => ?_) 0 (by omega) ls H locs (lv_sub hl [2, 3, 1, 0] rfl) hS
  refine lv_iload_n hx hb d_q_Kind_groupLimit_22 rfl (lv_at hl 2 rfl) ?_
  exact kr _ ls H locs d_q_Kind_groupLimit_23 hS
set_option maxHeartbeats 1000000 in
set_option maxRecDepth 100000 in
theorem c_q_Kind_groupLimit_1 (l : Launch) (D : va_G) (cI cC : ClassId) (sa : Nat → Nat) (x : Nat) (hx1 : x ≤ 2) : Met l y_q_Kind_groupLimit (cd_q_Kind_groupLimit :: WS) { frames := 0, cells := 0, slots := 0, locals := 0 } (va_Pc [.ref (sa 8), .int (nI x)] (srP sa D [] [(cI, .int), (cC, .char)])) (pQ (nI (45 ^ x))) 0 0 noA := by
  refine Met.ofW (cc := b_q_Kind_groupLimit) (maxL := 4) (ret := (some .int)) (by decide) rfl ?_
  intro p e s m args below meth c s₁ B hml hv0
  obtain ⟨rfl, ⟨hP, hK⟩, hSt⟩ := hv0
  have hts := atoms_spec (ws := cd_q_Kind_groupLimit :: WS) B.pre
  have hown : s.vm.findClass R_Kind = some m.cls := findClass_of_methodNamed B.named
  have hlocks := B.notSynchronized
  have hl := lv_entry ([.ref (sa 8), .int (nI x)]) (n := 4) (Nat.le_of_ble_eq_true rfl)
  rw [lg_entry_eq]
  generalize (lg_sl ([.ref (sa 8), .int (nI x)]) ++ List.replicate (4 - (lg_sl ([.ref (sa 8), .int (nI x)])).length) Slot.unset).toArray = ls at hl ⊢
  refine bd_q_Kind_groupLimit_1 cI cC sa x hx1 ⟨B.exec, B.bytes, hml, hown, hts⟩ (Nat.le_refl _) (Nat.le_refl _) ⟨Nat.le_refl _, Nat.le_refl _⟩ hK hSt (fun pc ls H locs hd hS => ?_) ls _ _ hl (va_S.rf (A := noA))
  exact W.iret B.exec B.bytes B.returns (fun t ht _ => ⟨⟨_, (), rfl, rfl, trivial⟩, hS.F ht⟩) hS.2.2 hd
end
section
variable {p : Program} {l : Launch} {e : Env} {R : Room} {s : State} {m : MethodId} {args : Array Value} {below : List Frame} {meth : Method} {c : Code} {cells slots : Nat} {Q : State → Prop} {A : Nat → Prop} {H0 : Heap} {D : va_G}
set_option maxHeartbeats 1000000 in
set_option maxRecDepth 100000 in
theorem bd_q_Kind_bitsFor_1 (cI cC : ClassId) (sa : Nat → Nat) (n : Nat) (hn0 : n ≤ 45) (S : CallFix p m c b_q_Kind_bitsFor 4 s args (cd_q_Kind_bitsFor :: WS) R_Kind) (hRf : 1 ≤ R.frames) (hRl : 21 ≤ R.locals) (hRc : cells ≤ R.cells ∧ slots ≤ R.slots) (hK : va_K D classes [(cI, .int), (cC, .char)] s) (hSt : SB sa A s s.heap) (kr : ∀ (pc : Nat) (ls : Array Slot) (H : Heap) (locs : List Loc), decode b_q_Kind_bitsFor pc = .ok (.ireturn, 1) → va_S A s.heap H locs → W p l e R s m args below meth c H locs cells slots Q (F0 m pc ls [.int (nI (4 + gwd 2 + bfN 2 n))])) : ∀ (ls : Array Slot) (H : Heap) (locs : List Loc), lv_has ls 4 [(0, .ref (sa 8)), (1, .int (nI n))] → va_S A s.heap H locs → W p l e R s m args below meth c H locs cells slots Q (F0 m 0 ls []) := by
  obtain ⟨hx, hb, hml, hown, hts⟩ := id S
  intro ls H locs hl hS
  refine lv_iload_n hx hb d_q_Kind_bitsFor_0 rfl (lv_at hl 1 rfl) ?_
  refine lv_aload_n hx hb d_q_Kind_bitsFor_1 rfl (lv_at hl 0 rfl) ?_
  refine n_kget hx hb hts (kf_1_group hSt) hS hown kw_1012 d_q_Kind_bitsFor_2 ?_
  refine n_irem hx hb d_q_Kind_bitsFor_5 (by omega) (by omega) (by omega) ?_
  refine lv_istore_n hx hb d_q_Kind_bitsFor_6 rfl hl (Nat.le_of_ble_eq_true rfl) rfl (fun ls hl => ?_)
  have hl : lv_has ls 4 [(2, .int (nI (n % 2))), (0, .ref (sa 8)), (1, .int (nI n))] := hl
  refine lv_iconst (v := nI 4) hx hb d_q_Kind_bitsFor_7 (by decide) ?_
  refine lv_aload_n hx hb d_q_Kind_bitsFor_8 rfl (lv_at hl 1 rfl) ?_
  refine n_kget hx hb hts (kf_1_countBits hSt) hS hown kw_1013 d_q_Kind_bitsFor_9 ?_
  refine n_iadd hx hb d_q_Kind_bitsFor_12 ?_
  refine lv_iload_n hx hb d_q_Kind_bitsFor_13 rfl (lv_at hl 2 rfl) ?_
  refine lv_aload_n hx hb d_q_Kind_bitsFor_14 rfl (lv_at hl 1 rfl) ?_
  refine n_kget hx hb hts (kf_1_group hSt) hS hown kw_1012 d_q_Kind_bitsFor_15 ?_
  refine n_idiv hx hb d_q_Kind_bitsFor_18 (by omega) (by omega) (by omega) ?_
  refine lv_aload_n hx hb d_q_Kind_bitsFor_19 rfl (lv_at hl 1 rfl) ?_
  refine lv_aload_n hx hb d_q_Kind_bitsFor_20 rfl (lv_at hl 1 rfl) ?_
  refine n_kget hx hb hts (kf_1_group hSt) hS hown kw_1012 d_q_Kind_bitsFor_21 ?_
  refine q_readVr (n := 1) (As := [.int (nI 2)]) (rest := [.int (nI (n / 2)), .int (nI (4 + 9))]) (wc := []) S (c_q_Kind_groupBits_1 l D cI cC sa 2 (by decide) (by decide)) hSt hK va_P0 (o_recv (ko_1 hSt) hS) [] rfl (q_goodV kw_489 kw_490 kw_491 kw_16 kw_492) (by decide +kernel) rfl rfl rfl ⟨Nat.le_trans (Nat.le_of_ble_eq_true rfl) hRf, Nat.le_trans (Nat.le_of_ble_eq_true rfl) hRl⟩ rfl hl.1 rfl (Nat.le_of_ble_eq_true rfl) d_q_Kind_bitsFor_24 hRc hS (fun H locs _ hS => ?_)
  refine n_imul hx hb d_q_Kind_bitsFor_27 ?_
  refine n_iadd hx hb d_q_Kind_bitsFor_28 ?_
  refine lv_istore_n hx hb d_q_Kind_bitsFor_29 rfl hl (Nat.le_of_ble_eq_true rfl) rfl (fun ls hl => ?_)
  have hl : lv_has ls 4 [(3, .int (nI ((4 + 9) + ((n / 2) * (gsz 2 2))))), (2, .int (nI (n % 2))), (0, .ref (sa 8)), (1, .int (nI n))] := hl
  refine lv_iload_n hx hb d_q_Kind_bitsFor_30 rfl (lv_at hl 1 rfl) ?_
  refine n_if_ne hx hb d_q_Kind_bitsFor_31 (tgt := 38) rfl (by omega) (fun g31 => ?_) (fun g31 => ?_)
  · skip
    refine lv_iload_n hx hb d_q_Kind_bitsFor_38 rfl (lv_at hl 0 rfl) ?_
    refine lv_aload_n hx hb d_q_Kind_bitsFor_39 rfl (lv_at hl 2 rfl) ?_
    refine lv_iload_n hx hb d_q_Kind_bitsFor_40 rfl (lv_at hl 1 rfl) ?_
    refine q_readVr (n := 1) (As := [.int (nI (n % 2))]) (rest := [.int (nI ((4 + 9) + ((n / 2) * (gsz 2 2))))]) (wc := []) S (c_q_Kind_groupBits_1 l D cI cC sa (n % 2) (by omega) (by omega)) hSt hK va_P0 (o_recv (ko_1 hSt) hS) [] rfl (q_goodV kw_489 kw_490 kw_491 kw_16 kw_492) (by decide +kernel) rfl rfl rfl ⟨Nat.le_trans (Nat.le_of_ble_eq_true rfl) hRf, Nat.le_trans (Nat.le_of_ble_eq_true rfl) hRl⟩ rfl hl.1 rfl (Nat.le_of_ble_eq_true rfl) d_q_Kind_bitsFor_41 hRc hS (fun H locs _ hS => ?_)
    refine n_iadd hx hb d_q_Kind_bitsFor_44 ?_
    refine n_topn (show ((4 + 9) + ((n / 2) * (gsz 2 2))) + (gsz 2 (n % 2)) = 4 + gwd 2 + bfN 2 n from (by first | exact bf_t1 (by omega) | exact bf_f1 (by omega))) ?_
    exact kr _ ls H locs d_q_Kind_bitsFor_45 hS
  · skip
    refine lv_iload_n hx hb d_q_Kind_bitsFor_34 rfl (lv_at hl 0 rfl) ?_
    refine lv_goto hx hb d_q_Kind_bitsFor_35 (tgt := 45) rfl ?_
    refine n_topn (show (4 + 9) + ((n / 2) * (gsz 2 2)) = 4 + gwd 2 + bfN 2 n from (by first | exact bf_t1 (by omega) | exact bf_f1 (by omega))) ?_
    exact kr _ ls H locs d_q_Kind_bitsFor_45 hS
set_option maxHeartbeats 1000000 in
set_option maxRecDepth 100000 in
theorem c_q_Kind_bitsFor_1 (l : Launch) (D : va_G) (cI cC : ClassId) (sa : Nat → Nat) (n : Nat) (hn0 : n ≤ 45) : Met l y_q_Kind_bitsFor (cd_q_Kind_bitsFor :: WS) { frames := 1, cells := 0, slots := 0, locals := 21 } (va_Pc [.ref (sa 8), .int (nI n)] (srP sa D [] [(cI, .int), (cC, .char)])) (pQ (nI (4 + gwd 2 + bfN 2 n))) 0 0 noA := by
  refine Met.ofW (cc := b_q_Kind_bitsFor) (maxL := 4) (ret := (some .int)) (by decide) rfl ?_
  intro p e s m args below meth c s₁ B hml hv0
  obtain ⟨rfl, ⟨hP, hK⟩, hSt⟩ := hv0
  have hts := atoms_spec (ws := cd_q_Kind_bitsFor :: WS) B.pre
  have hown : s.vm.findClass R_Kind = some m.cls := findClass_of_methodNamed B.named
  have hlocks := B.notSynchronized
  have hl := lv_entry ([.ref (sa 8), .int (nI n)]) (n := 4) (Nat.le_of_ble_eq_true rfl)
  rw [lg_entry_eq]
  generalize (lg_sl ([.ref (sa 8), .int (nI n)]) ++ List.replicate (4 - (lg_sl ([.ref (sa 8), .int (nI n)])).length) Slot.unset).toArray = ls at hl ⊢
  refine bd_q_Kind_bitsFor_1 cI cC sa n hn0 ⟨B.exec, B.bytes, hml, hown, hts⟩ (Nat.le_refl _) (Nat.le_refl _) ⟨Nat.le_refl _, Nat.le_refl _⟩ hK hSt (fun pc ls H locs hd hS => ?_) ls _ _ hl (va_S.rf (A := noA))
  exact W.iret B.exec B.bytes B.returns (fun t ht _ => ⟨⟨_, (), rfl, rfl, trivial⟩, hS.F ht⟩) hS.2.2 hd
end
section
variable {p : Program} {l : Launch} {e : Env} {R : Room} {s : State} {m : MethodId} {args : Array Value} {below : List Frame} {meth : Method} {c : Code} {cells slots : Nat} {Q : State → Prop} {A : Nat → Prop} {H0 : Heap} {D : va_G}
set_option maxHeartbeats 1000000 in
set_option maxRecDepth 100000 in
theorem bd_q_Kind_characterOf_1 (cI cC : ClassId) (sa : Nat → Nat) (x : Nat) (hx0 : x < 45) (S : CallFix p m c b_q_Kind_characterOf 2 s args (cd_q_Kind_characterOf :: WS) R_Kind) (hRf : 4 ≤ R.frames) (hRl : 85 ≤ R.locals) (hRc : cells ≤ R.cells ∧ slots ≤ R.slots) (hK : va_K D classes [(cI, .int), (cC, .char)] s) (hSt : SB sa A s s.heap) (kr : ∀ (pc : Nat) (ls : Array Slot) (H : Heap) (locs : List Loc), decode b_q_Kind_characterOf pc = .ok (.ireturn, 1) → va_S A s.heap H locs → W p l e R s m args below meth c H locs cells slots Q (F0 m pc ls [.int (nI (chN x))])) : ∀ (ls : Array Slot) (H : Heap) (locs : List Loc), lv_has ls 2 [(0, .ref (sa 8)), (1, .int (nI x))] → va_S A s.heap H locs → W p l e R s m args below meth c H locs cells slots Q (F0 m 0 ls []) := by
  obtain ⟨hx, hb, hml, hown, hts⟩ := id S
  intro ls H locs hl hS
  refine lv_aload_n hx hb d_q_Kind_characterOf_0 rfl (lv_at hl 0 rfl) ?_
  refine n_gets hx hb hts (kz_2 hSt) hS hown kw_396 d_q_Kind_characterOf_1 ?_
  refine n_acmp_ne hx hb d_q_Kind_characterOf_4 (tgt := 12) rfl (kn_12 hSt) ?_
  refine va_ldcS hx hb hown hSt.2.2.2.1 d_q_Kind_characterOf_12 ?_
  refine lv_iload_n hx hb d_q_Kind_characterOf_14 rfl (lv_at hl 1 rfl) ?_
  refine q_readVr (n := 1) (As := [.int (nI x)]) (rest := []) (wc := []) S (c_j_String_charAt l D cI cC sa x (by omega)) hSt hK va_P0 (o_recv (ks_o hSt) hS) [] rfl (q_goodV kw_702 kw_703 kw_704 kw_17 kw_705) (by decide +kernel) rfl rfl rfl ⟨Nat.le_trans (Nat.le_of_ble_eq_true rfl) hRf, Nat.le_trans (Nat.le_of_ble_eq_true rfl) hRl⟩ rfl hl.1 rfl (Nat.le_of_ble_eq_true rfl) d_q_Kind_characterOf_15 hRc hS (fun H locs _ hS => ?_)
  refine n_topn (show pbT x = chN x from (pb_chk x (by omega)).2.2) ?_
  exact kr _ ls H locs d_q_Kind_characterOf_18 hS
set_option maxHeartbeats 1000000 in
set_option maxRecDepth 100000 in
theorem c_q_Kind_characterOf_1 (l : Launch) (D : va_G) (cI cC : ClassId) (sa : Nat → Nat) (x : Nat) (hx0 : x < 45) : Met l y_q_Kind_characterOf (cd_q_Kind_characterOf :: WS) { frames := 4, cells := 0, slots := 0, locals := 85 } (va_Pc [.ref (sa 8), .int (nI x)] (srP sa D [] [(cI, .int), (cC, .char)])) (pQ (nI (chN x))) 0 0 noA := by
  refine Met.ofW (cc := b_q_Kind_characterOf) (maxL := 2) (ret := (some .char)) (by decide) rfl ?_
  intro p e s m args below meth c s₁ B hml hv0
  obtain ⟨rfl, ⟨hP, hK⟩, hSt⟩ := hv0
  have hts := atoms_spec (ws := cd_q_Kind_characterOf :: WS) B.pre
  have hown : s.vm.findClass R_Kind = some m.cls := findClass_of_methodNamed B.named
  have hlocks := B.notSynchronized
  have hl := lv_entry ([.ref (sa 8), .int (nI x)]) (n := 2) (Nat.le_of_ble_eq_true rfl)
  rw [lg_entry_eq]
  generalize (lg_sl ([.ref (sa 8), .int (nI x)]) ++ List.replicate (2 - (lg_sl ([.ref (sa 8), .int (nI x)])).length) Slot.unset).toArray = ls at hl ⊢
  refine bd_q_Kind_characterOf_1 cI cC sa x hx0 ⟨B.exec, B.bytes, hml, hown, hts⟩ (Nat.le_refl _) (Nat.le_refl _) ⟨Nat.le_refl _, Nat.le_refl _⟩ hK hSt (fun pc ls H locs hd hS => ?_) ls _ _ hl (va_S.rf (A := noA))
  exact W.zret B.exec B.bytes B.returns (ch_fit _ (by rw [← (pb_chk x (by omega)).2.2]; exact Nat.lt_trans (pb_chk x (by omega)).2.1 (by decide))) (fun t ht _ => ⟨⟨_, (), rfl, rfl, trivial⟩, hS.F ht⟩) hS.2.2 hd
end
section
variable {p : Program} {l : Launch} {e : Env} {R : Room} {s : State} {m : MethodId} {args : Array Value} {below : List Frame} {meth : Method} {c : Code} {cells slots : Nat} {Q : State → Prop} {A : Nat → Prop} {H0 : Heap} {D : va_G}
set_option maxHeartbeats 1000000 in
set_option maxRecDepth 100000 in
theorem bd_q_Kind_withCode_1 (cI cC : ClassId) (sa : Nat → Nat) (S : CallFix p m c b_q_Kind_withCode 5 s args (cd_q_Kind_withCode :: WS) R_Kind) (hRf : 0 ≤ R.frames) (hRl : 0 ≤ R.locals) (hRc : cells ≤ R.cells ∧ slots ≤ R.slots) (hK : va_K D classes [(cI, .int), (cC, .char)] s) (hSt : SB sa A s s.heap) (kr : ∀ (pc : Nat) (ls : Array Slot) (H : Heap) (locs : List Loc), decode b_q_Kind_withCode pc = .ok (.areturn, 1) → va_S A s.heap H locs → W p l e R s m args below meth c H locs cells slots Q (F0 m pc ls [.ref (sa 8)])) : ∀ (ls : Array Slot) (H : Heap) (locs : List Loc), lv_has ls 5 [(0, .int (nI 2))] → va_S A s.heap H locs → W p l e R s m args below meth c H locs cells slots Q (F0 m 0 ls []) := by
  obtain ⟨hx, hb, hml, hown, hts⟩ := id S
  intro ls H locs hl hS
  refine n_gets hx hb hts (kk_z hSt) hS hown kw_385 d_q_Kind_withCode_0 ?_
  refine lv_astore_n hx hb d_q_Kind_withCode_3 rfl hl (Nat.le_of_ble_eq_true rfl) rfl (fun ls hl => ?_)
  have hl : lv_has ls 5 [(1, .ref (sa 6)), (0, .int (nI 2))] := hl
  refine lv_aload_n hx hb d_q_Kind_withCode_4 rfl (lv_at hl 0 rfl) ?_
  refine va_tlen (v := nI 3) hx hb (kk_t hSt) hS rfl d_q_Kind_withCode_5 ?_
  refine lv_istore_n hx hb d_q_Kind_withCode_6 rfl hl (Nat.le_of_ble_eq_true rfl) rfl (fun ls hl => ?_)
  have hl : lv_has ls 5 [(2, .int (nI 3)), (1, .ref (sa 6)), (0, .int (nI 2))] := hl
  refine lv_iconst (v := nI 0) hx hb d_q_Kind_withCode_7 (by decide) ?_
  refine lv_istore_n hx hb d_q_Kind_withCode_8 rfl hl (Nat.le_of_ble_eq_true rfl) rfl (fun ls hl => ?_)
  have hl : lv_has ls 5 [(3, .int (nI 0)), (2, .int (nI 3)), (1, .ref (sa 6)), (0, .int (nI 2))] := hl
  refine lv_iload_n hx hb d_q_Kind_withCode_9 rfl (lv_at hl 0 rfl) ?_
  refine lv_iload_n hx hb d_q_Kind_withCode_10 rfl (lv_at hl 1 rfl) ?_
  refine n_icmp_ge hx hb d_q_Kind_withCode_11 (tgt := 37) rfl (by omega) (by omega) (fun g11 => absurd g11 (by decide)) (fun g11 => ?_)
  refine lv_aload_n hx hb d_q_Kind_withCode_14 rfl (lv_at hl 2 rfl) ?_
  refine lv_iload_n hx hb d_q_Kind_withCode_15 rfl (lv_at hl 0 rfl) ?_
  refine vb_tq (v := .ref (sa 7)) hx hb (kk_t hSt) hS (vp_in_nI (show 0 < 3 by decide) (by decide)) rfl d_q_Kind_withCode_16 ?_
  refine lv_astore hx hb d_q_Kind_withCode_17 hl (Nat.le_of_ble_eq_true rfl) rfl (fun ls hl => ?_)
  have hl : lv_has ls 5 [(4, .ref (sa 7)), (3, .int (nI 0)), (2, .int (nI 3)), (1, .ref (sa 6)), (0, .int (nI 2))] := hl
  refine lv_aload hx hb d_q_Kind_withCode_19 (lv_at hl 0 rfl) ?_
  refine n_kget hx hb hts (kf_0_code hSt) hS hown kw_1020 d_q_Kind_withCode_21 ?_
  refine lv_iload_n hx hb d_q_Kind_withCode_24 rfl (lv_at hl 4 rfl) ?_
  refine n_icmp_ne hx hb d_q_Kind_withCode_25 (tgt := 31) rfl (by omega) (by omega) (fun g25 => ?_) (fun g25 => absurd g25 (by decide))
  refine lv_iinc (k := 1) (v := nI 1) hx hb d_q_Kind_withCode_31 hl rfl (nx_inc 0 1) (Nat.le_of_ble_eq_true rfl) rfl (fun ls hl => ?_)
  have hl : lv_has ls 5 [(3, .int (nI 1)), (4, .ref (sa 7)), (2, .int (nI 3)), (1, .ref (sa 6)), (0, .int (nI 2))] := hl
  refine lv_goto hx hb d_q_Kind_withCode_34 (tgt := 9) rfl ?_
  refine lv_iload_n hx hb d_q_Kind_withCode_9 rfl (lv_at hl 0 rfl) ?_
  refine lv_iload_n hx hb d_q_Kind_withCode_10 rfl (lv_at hl 2 rfl) ?_
  refine n_icmp_ge hx hb d_q_Kind_withCode_11 (tgt := 37) rfl (by omega) (by omega) (fun g11 => absurd g11 (by decide)) (fun g11 => ?_)
  refine lv_aload_n hx hb d_q_Kind_withCode_14 rfl (lv_at hl 3 rfl) ?_
  refine lv_iload_n hx hb d_q_Kind_withCode_15 rfl (lv_at hl 0 rfl) ?_
  refine vb_tq (v := .ref (sa 8)) hx hb (kk_t hSt) hS (vp_in_nI (show 1 < 3 by decide) (by decide)) rfl d_q_Kind_withCode_16 ?_
  refine lv_astore hx hb d_q_Kind_withCode_17 hl (Nat.le_of_ble_eq_true rfl) rfl (fun ls hl => ?_)
  have hl : lv_has ls 5 [(4, .ref (sa 8)), (3, .int (nI 1)), (2, .int (nI 3)), (1, .ref (sa 6)), (0, .int (nI 2))] := hl
  refine lv_aload hx hb d_q_Kind_withCode_19 (lv_at hl 0 rfl) ?_
  refine n_kget hx hb hts (kf_1_code hSt) hS hown kw_1020 d_q_Kind_withCode_21 ?_
  refine lv_iload_n hx hb d_q_Kind_withCode_24 rfl (lv_at hl 4 rfl) ?_
  refine n_icmp_ne hx hb d_q_Kind_withCode_25 (tgt := 31) rfl (by omega) (by omega) (fun g25 => absurd g25 (by decide)) (fun g25 => ?_)
  refine lv_aload hx hb d_q_Kind_withCode_28 (lv_at hl 0 rfl) ?_
  exact kr _ ls H locs d_q_Kind_withCode_30 hS
set_option maxHeartbeats 1000000 in
set_option maxRecDepth 100000 in
theorem c_q_Kind_withCode_1 (l : Launch) (D : va_G) (cI cC : ClassId) (sa : Nat → Nat) : Met l y_q_Kind_withCode (cd_q_Kind_withCode :: WS) { frames := 0, cells := 0, slots := 0, locals := 0 } (va_Pc [.int (nI 2)] (srP sa D [] [(cI, .int), (cC, .char)])) (pQq (some (sa 8))) 0 0 noA := by
  refine Met.ofW (cc := b_q_Kind_withCode) (maxL := 5) (ret := (some (.object "SquareCodes$Kind"))) (by decide) rfl ?_
  intro p e s m args below meth c s₁ B hml hv0
  obtain ⟨rfl, ⟨hP, hK⟩, hSt⟩ := hv0
  have hts := atoms_spec (ws := cd_q_Kind_withCode :: WS) B.pre
  have hown : s.vm.findClass R_Kind = some m.cls := findClass_of_methodNamed B.named
  have hlocks := B.notSynchronized
  have hl := lv_entry ([.int (nI 2)]) (n := 5) (Nat.le_of_ble_eq_true rfl)
  rw [lg_entry_eq]
  generalize (lg_sl ([.int (nI 2)]) ++ List.replicate (5 - (lg_sl ([.int (nI 2)])).length) Slot.unset).toArray = ls at hl ⊢
  refine bd_q_Kind_withCode_1 cI cC sa  ⟨B.exec, B.bytes, hml, hown, hts⟩ (Nat.le_refl _) (Nat.le_refl _) ⟨Nat.le_refl _, Nat.le_refl _⟩ hK hSt (fun pc ls H locs hd hS => ?_) ls _ _ hl (va_S.rf (A := noA))
  exact W.aret B.exec B.bytes B.returns (Or.inl ⟨_, rfl⟩) (Or.inr ⟨_, rfl⟩) (fun t ht _ => ⟨⟨some _, (), rfl, rfl, trivial⟩, hS.F ht⟩) hS.2.2 hd
end
section
variable {p : Program} {l : Launch} {e : Env} {R : Room} {s : State} {m : MethodId} {args : Array Value} {below : List Frame} {meth : Method} {c : Code} {cells slots : Nat} {Q : State → Prop} {A : Nat → Prop} {H0 : Heap} {D : va_G}
set_option maxHeartbeats 1000000 in
set_option maxRecDepth 100000 in
theorem bd_q_Kind_valueOfCharacter_2 (cI cC : ClassId) (sa : Nat → Nat) (x : Nat) (hx0 : x < 127) (S : CallFix p m c b_q_Kind_valueOfCharacter 3 s args (cd_q_Kind_valueOfCharacter :: WS) R_Kind) (hRf : 4 ≤ R.frames) (hRl : 91 ≤ R.locals) (hRc : cells ≤ R.cells ∧ slots ≤ R.slots) (hK : va_K D classes [(cI, .int), (cC, .char)] s) (hSt : SB sa A s s.heap) (kr : ∀ (pc : Nat) (ls : Array Slot) (H : Heap) (locs : List Loc), decode b_q_Kind_valueOfCharacter pc = .ok (.ireturn, 1) → va_S A s.heap H locs → W p l e R s m args below meth c H locs cells slots Q (F0 m pc ls [.int (nI x)])) : ∀ (ls : Array Slot) (H : Heap) (locs : List Loc), lv_has ls 3 [(0, .ref (sa 9)), (1, .int (nI x))] → va_S A s.heap H locs → W p l e R s m args below meth c H locs cells slots Q (F0 m 0 ls []) := by
  obtain ⟨hx, hb, hml, hown, hts⟩ := id S
  intro ls H locs hl hS
  refine lv_aload_n hx hb d_q_Kind_valueOfCharacter_0 rfl (lv_at hl 0 rfl) ?_
  refine n_gets hx hb hts (kz_2 hSt) hS hown kw_396 d_q_Kind_valueOfCharacter_1 ?_
  refine n_acmp_eq hx hb d_q_Kind_valueOfCharacter_4 (tgt := 9) rfl ?_
  refine lv_iload_n hx hb d_q_Kind_valueOfCharacter_7 rfl (lv_at hl 1 rfl) ?_
  exact kr _ ls H locs d_q_Kind_valueOfCharacter_8 hS
set_option maxHeartbeats 1000000 in
set_option maxRecDepth 100000 in
theorem c_q_Kind_valueOfCharacter_2 (l : Launch) (D : va_G) (cI cC : ClassId) (sa : Nat → Nat) (x : Nat) (hx0 : x < 127) : Met l y_q_Kind_valueOfCharacter (cd_q_Kind_valueOfCharacter :: WS) { frames := 4, cells := 0, slots := 0, locals := 91 } (va_Pc [.ref (sa 9), .int (nI x)] (srP sa D [] [(cI, .int), (cC, .char)])) (pQ (nI x)) 0 0 noA := by
  refine Met.ofW (cc := b_q_Kind_valueOfCharacter) (maxL := 3) (ret := (some .int)) (by decide) rfl ?_
  intro p e s m args below meth c s₁ B hml hv0
  obtain ⟨rfl, ⟨hP, hK⟩, hSt⟩ := hv0
  have hts := atoms_spec (ws := cd_q_Kind_valueOfCharacter :: WS) B.pre
  have hown : s.vm.findClass R_Kind = some m.cls := findClass_of_methodNamed B.named
  have hlocks := B.notSynchronized
  have hl := lv_entry ([.ref (sa 9), .int (nI x)]) (n := 3) (Nat.le_of_ble_eq_true rfl)
  rw [lg_entry_eq]
  generalize (lg_sl ([.ref (sa 9), .int (nI x)]) ++ List.replicate (3 - (lg_sl ([.ref (sa 9), .int (nI x)])).length) Slot.unset).toArray = ls at hl ⊢
  refine bd_q_Kind_valueOfCharacter_2 cI cC sa x hx0 ⟨B.exec, B.bytes, hml, hown, hts⟩ (Nat.le_refl _) (Nat.le_refl _) ⟨Nat.le_refl _, Nat.le_refl _⟩ hK hSt (fun pc ls H locs hd hS => ?_) ls _ _ hl (va_S.rf (A := noA))
  exact W.iret B.exec B.bytes B.returns (fun t ht _ => ⟨⟨_, (), rfl, rfl, trivial⟩, hS.F ht⟩) hS.2.2 hd
end
section
variable {p : Program} {l : Launch} {e : Env} {R : Room} {s : State} {m : MethodId} {args : Array Value} {below : List Frame} {meth : Method} {c : Code} {cells slots : Nat} {Q : State → Prop} {A : Nat → Prop} {H0 : Heap} {D : va_G}
set_option maxHeartbeats 1000000 in
set_option maxRecDepth 100000 in
theorem lp_q_Kind_hasAll_2_yes_2 (cI cC : ClassId) (sa : Nat → Nat) (qt : Nat) (ty : Nat → Nat) (n : Nat) (hn0 : n ≤ 45) (hty : ∀ j, j < n → ty j < 127) (S : CallFix p m c b_q_Kind_hasAll 4 s args (cd_q_Kind_hasAll :: WS) R_Kind) (hRf : 5 ≤ R.frames) (hRl : 113 ≤ R.locals) (hRc : cells ≤ R.cells ∧ slots ≤ R.slots) (hK : va_K D classes [(cI, .int), (cC, .char)] s) (hSt : SB sa A s s.heap) (kx : ∀ (ls : Array Slot) (H : Heap) (locs : List Loc), lv_has ls 4 [(0, .ref (sa 9)), (1, .ref qt), (2, .int (nI n)), (3, .int (nI n))] → va_P D classes [(qt, .inl (cC, 45, .inl (fun j => nI (ty j))))] H → va_S A s.heap H locs → W p l e R s m args below meth c H locs cells slots Q (F0 m 26 ls [])) :
    ∀ k, k ≤ n → ∀ (ls : Array Slot) (H : Heap) (locs : List Loc), lv_has ls 4 [(0, .ref (sa 9)), (1, .ref qt), (2, .int (nI n)), (3, .int (nI k))] → va_P D classes [(qt, .inl (cC, 45, .inl (fun j => nI (ty j))))] H → va_S A s.heap H locs → W p l e R s m args below meth c H locs cells slots Q (F0 m 2 ls []) := by
  obtain ⟨hx, hb, hml, hown, hts⟩ := id S
  refine up_loop (fun k hkk ih => ?_)
  intro ls H locs hl hP hS
  refine lv_iload_n hx hb d_q_Kind_hasAll_2 rfl (lv_at hl 3 rfl) ?_
  refine lv_iload_n hx hb d_q_Kind_hasAll_3 rfl (lv_at hl 2 rfl) ?_
  refine n_icmp_ge hx hb d_q_Kind_hasAll_4 (tgt := 26) rfl (by omega) (by omega) (fun g4 => ?_) (fun g4 => ?_)
  · skip
    obtain rfl : k = n := by omega
    exact kx ls H locs (lv_sub hl [0, 1, 2, 3] rfl) hP hS
  · skip
    refine lv_aload_n hx hb d_q_Kind_hasAll_7 rfl (lv_at hl 0 rfl) ?_
    refine lv_aload_n hx hb d_q_Kind_hasAll_8 rfl (lv_at hl 1 rfl) ?_
    refine lv_iload_n hx hb d_q_Kind_hasAll_9 rfl (lv_at hl 3 rfl) ?_
    refine n_cald hx hb hK hP 0 1 rfl rfl (by omega) (by decide) d_q_Kind_hasAll_10 ?_
    refine q_readVr (n := 1) (As := [.int (nI (ty k))]) (rest := []) (wc := []) S (c_q_Kind_valueOfCharacter_2 l D cI cC sa (ty k) (hty k (by omega))) hSt hK hP (o_recv (ko_2 hSt) hS) [] rfl (q_goodV kw_392 kw_393 kw_394 kw_16 kw_395) (by decide +kernel) rfl rfl rfl ⟨Nat.le_trans (Nat.le_of_ble_eq_true rfl) hRf, Nat.le_trans (Nat.le_of_ble_eq_true rfl) hRl⟩ rfl hl.1 rfl (Nat.le_of_ble_eq_true rfl) d_q_Kind_hasAll_11 hRc hS (fun H locs hP hS => ?_)
    refine lv_iconst (v := (-1)) hx hb d_q_Kind_hasAll_14 (by decide) ?_
    refine lv_icmp_ne hx hb d_q_Kind_hasAll_15 (tgt := 20) rfl (fun g15 => ?_) (fun g15 => absurd g15 (nI_ne1 (Nat.lt_trans (hty k (by omega)) (by decide))))
    refine lv_iinc (k := 3) (v := nI (k + 1)) hx hb d_q_Kind_hasAll_20 hl rfl (nx_inc k 1) (Nat.le_of_ble_eq_true rfl) rfl (fun ls hl => ?_)
    have hl : lv_has ls 4 [(3, .int (nI (k + 1))), (0, .ref (sa 9)), (1, .ref qt), (2, .int (nI n))] := hl
    refine lv_goto hx hb d_q_Kind_hasAll_23 (tgt := 2) rfl ?_
    exact ih (by omega) ls H locs (lv_sub hl [1, 2, 3, 0] rfl) hP hS
set_option maxHeartbeats 1000000 in
set_option maxRecDepth 100000 in
theorem bd_q_Kind_hasAll_2_yes (cI cC : ClassId) (sa : Nat → Nat) (qt : Nat) (ty : Nat → Nat) (n : Nat) (hn0 : n ≤ 45) (hty : ∀ j, j < n → ty j < 127) (S : CallFix p m c b_q_Kind_hasAll 4 s args (cd_q_Kind_hasAll :: WS) R_Kind) (hRf : 5 ≤ R.frames) (hRl : 113 ≤ R.locals) (hRc : cells ≤ R.cells ∧ slots ≤ R.slots) (hK : va_K D classes [(cI, .int), (cC, .char)] s) (hSt : SB sa A s s.heap) (kr : ∀ (pc : Nat) (ls : Array Slot) (H : Heap) (locs : List Loc), decode b_q_Kind_hasAll pc = .ok (.ireturn, 1) → va_P D classes [(qt, .inl (cC, 45, .inl (fun j => nI (ty j))))] H → va_S A s.heap H locs → W p l e R s m args below meth c H locs cells slots Q (F0 m pc ls [.int (nI 1)])) : ∀ (ls : Array Slot) (H : Heap) (locs : List Loc), lv_has ls 4 [(0, .ref (sa 9)), (1, .ref qt), (2, .int (nI n))] → va_P D classes [(qt, .inl (cC, 45, .inl (fun j => nI (ty j))))] H → va_S A s.heap H locs → W p l e R s m args below meth c H locs cells slots Q (F0 m 0 ls []) := by
  obtain ⟨hx, hb, hml, hown, hts⟩ := id S
  intro ls H locs hl hP hS
  refine lv_iconst (v := nI 0) hx hb d_q_Kind_hasAll_0 (by decide) ?_
  refine lv_istore_n hx hb d_q_Kind_hasAll_1 rfl hl (Nat.le_of_ble_eq_true rfl) rfl (fun ls hl => ?_)
  have hl : lv_has ls 4 [(3, .int (nI 0)), (0, .ref (sa 9)), (1, .ref qt), (2, .int (nI n))] := hl
  refine lp_q_Kind_hasAll_2_yes_2 cI cC sa qt ty n hn0 hty S hRf hRl hRc hK hSt  (fun ls H locs hl hP hS => ?_) 0 (by omega) ls H locs (lv_sub hl [1, 2, 3, 0] rfl) hP hS
  refine lv_iconst (v := nI 1) hx hb d_q_Kind_hasAll_26 (by decide) ?_
  exact kr _ ls H locs d_q_Kind_hasAll_27 hP hS
set_option maxHeartbeats 1000000 in
set_option maxRecDepth 100000 in
theorem c_q_Kind_hasAll_2_yes (l : Launch) (D : va_G) (cI cC : ClassId) (sa : Nat → Nat) (qt : Nat) (ty : Nat → Nat) (n : Nat) (hn0 : n ≤ 45) (hty : ∀ j, j < n → ty j < 127) : Met l y_q_Kind_hasAll (cd_q_Kind_hasAll :: WS) { frames := 5, cells := 0, slots := 0, locals := 113 } (va_Pc [.ref (sa 9), .ref qt, .int (nI n)] (srP sa D [(qt, .inl (cC, 45, .inl (fun j => nI (ty j))))] [(cI, .int), (cC, .char)])) (pQ (nI 1)) 0 0 noA := by
  refine Met.ofW (cc := b_q_Kind_hasAll) (maxL := 4) (ret := (some .boolean)) (by decide) rfl ?_
  intro p e s m args below meth c s₁ B hml hv0
  obtain ⟨rfl, ⟨hP, hK⟩, hSt⟩ := hv0
  have hts := atoms_spec (ws := cd_q_Kind_hasAll :: WS) B.pre
  have hown : s.vm.findClass R_Kind = some m.cls := findClass_of_methodNamed B.named
  have hlocks := B.notSynchronized
  have hl := lv_entry ([.ref (sa 9), .ref qt, .int (nI n)]) (n := 4) (Nat.le_of_ble_eq_true rfl)
  rw [lg_entry_eq]
  generalize (lg_sl ([.ref (sa 9), .ref qt, .int (nI n)]) ++ List.replicate (4 - (lg_sl ([.ref (sa 9), .ref qt, .int (nI n)])).length) Slot.unset).toArray = ls at hl ⊢
  refine bd_q_Kind_hasAll_2_yes cI cC sa qt ty n hn0 hty ⟨B.exec, B.bytes, hml, hown, hts⟩ (Nat.le_refl _) (Nat.le_refl _) ⟨Nat.le_refl _, Nat.le_refl _⟩ hK hSt (fun pc ls H locs hd hP hS => ?_) ls _ _ hl hP (va_S.rf (A := noA))
  exact W.zret B.exec B.bytes B.returns rfl (fun t ht _ => ⟨⟨_, (), rfl, rfl, trivial⟩, hS.F ht⟩) hS.2.2 hd
end
section
variable {p : Program} {l : Launch} {e : Env} {R : Room} {s : State} {m : MethodId} {args : Array Value} {below : List Frame} {meth : Method} {c : Code} {cells slots : Nat} {Q : State → Prop} {A : Nat → Prop} {H0 : Heap} {D : va_G}
set_option maxHeartbeats 1000000 in
set_option maxRecDepth 100000 in
theorem bd_q_Kind_groupBits_2 (cI cC : ClassId) (sa : Nat → Nat) (x : Nat) (hx0 : 1 ≤ x) (hx1 : x ≤ 1) (S : CallFix p m c b_q_Kind_groupBits 2 s args (cd_q_Kind_groupBits :: WS) R_Kind) (hRf : 0 ≤ R.frames) (hRl : 0 ≤ R.locals) (hRc : cells ≤ R.cells ∧ slots ≤ R.slots) (hK : va_K D classes [(cI, .int), (cC, .char)] s) (hSt : SB sa A s s.heap) (kr : ∀ (pc : Nat) (ls : Array Slot) (H : Heap) (locs : List Loc), decode b_q_Kind_groupBits pc = .ok (.ireturn, 1) → va_S A s.heap H locs → W p l e R s m args below meth c H locs cells slots Q (F0 m pc ls [.int (nI (gsz 4 x))])) : ∀ (ls : Array Slot) (H : Heap) (locs : List Loc), lv_has ls 2 [(0, .ref (sa 9)), (1, .int (nI x))] → va_S A s.heap H locs → W p l e R s m args below meth c H locs cells slots Q (F0 m 0 ls []) := by
  obtain ⟨hx, hb, hml, hown, hts⟩ := id S
  intro ls H locs hl hS
  refine lv_aload_n hx hb d_q_Kind_groupBits_0 rfl (lv_at hl 0 rfl) ?_
  refine n_kget hx hb hts (kf_2_characterBits hSt) hS hown kw_1014 d_q_Kind_groupBits_1 ?_
  refine lv_iload_n hx hb d_q_Kind_groupBits_4 rfl (lv_at hl 1 rfl) ?_
  refine n_imul hx hb d_q_Kind_groupBits_5 ?_
  refine lv_aload_n hx hb d_q_Kind_groupBits_6 rfl (lv_at hl 0 rfl) ?_
  refine n_kget hx hb hts (kf_2_extraBits hSt) hS hown kw_1015 d_q_Kind_groupBits_7 ?_
  refine n_iadd hx hb d_q_Kind_groupBits_10 ?_
  refine n_topn (show (8 * x) + 0 = gsz 4 x from (by unfold gsz; (repeat' split) <;> omega)) ?_
  exact kr _ ls H locs d_q_Kind_groupBits_11 hS
set_option maxHeartbeats 1000000 in
set_option maxRecDepth 100000 in
theorem c_q_Kind_groupBits_2 (l : Launch) (D : va_G) (cI cC : ClassId) (sa : Nat → Nat) (x : Nat) (hx0 : 1 ≤ x) (hx1 : x ≤ 1) : Met l y_q_Kind_groupBits (cd_q_Kind_groupBits :: WS) { frames := 0, cells := 0, slots := 0, locals := 0 } (va_Pc [.ref (sa 9), .int (nI x)] (srP sa D [] [(cI, .int), (cC, .char)])) (pQ (nI (gsz 4 x))) 0 0 noA := by
  refine Met.ofW (cc := b_q_Kind_groupBits) (maxL := 2) (ret := (some .int)) (by decide) rfl ?_
  intro p e s m args below meth c s₁ B hml hv0
  obtain ⟨rfl, ⟨hP, hK⟩, hSt⟩ := hv0
  have hts := atoms_spec (ws := cd_q_Kind_groupBits :: WS) B.pre
  have hown : s.vm.findClass R_Kind = some m.cls := findClass_of_methodNamed B.named
  have hlocks := B.notSynchronized
  have hl := lv_entry ([.ref (sa 9), .int (nI x)]) (n := 2) (Nat.le_of_ble_eq_true rfl)
  rw [lg_entry_eq]
  generalize (lg_sl ([.ref (sa 9), .int (nI x)]) ++ List.replicate (2 - (lg_sl ([.ref (sa 9), .int (nI x)])).length) Slot.unset).toArray = ls at hl ⊢
  refine bd_q_Kind_groupBits_2 cI cC sa x hx0 hx1 ⟨B.exec, B.bytes, hml, hown, hts⟩ (Nat.le_refl _) (Nat.le_refl _) ⟨Nat.le_refl _, Nat.le_refl _⟩ hK hSt (fun pc ls H locs hd hS => ?_) ls _ _ hl (va_S.rf (A := noA))
  exact W.iret B.exec B.bytes B.returns (fun t ht _ => ⟨⟨_, (), rfl, rfl, trivial⟩, hS.F ht⟩) hS.2.2 hd
end
section
variable {p : Program} {l : Launch} {e : Env} {R : Room} {s : State} {m : MethodId} {args : Array Value} {below : List Frame} {meth : Method} {c : Code} {cells slots : Nat} {Q : State → Prop} {A : Nat → Prop} {H0 : Heap} {D : va_G}
set_option maxHeartbeats 1000000 in
set_option maxRecDepth 100000 in
theorem lp_q_Kind_groupLimit_2_4 (cI cC : ClassId) (sa : Nat → Nat) (x : Nat) (hx1 : x ≤ 1) (S : CallFix p m c b_q_Kind_groupLimit 4 s args (cd_q_Kind_groupLimit :: WS) R_Kind) (hRf : 0 ≤ R.frames) (hRl : 0 ≤ R.locals) (hRc : cells ≤ R.cells ∧ slots ≤ R.slots) (hK : va_K D classes [(cI, .int), (cC, .char)] s) (hSt : SB sa A s s.heap) (kx : ∀ (ls : Array Slot) (H : Heap) (locs : List Loc), lv_has ls 4 [(0, .ref (sa 9)), (1, .int (nI x)), (2, .int (nI (256 ^ x))), (3, .int (nI x))] → va_S A s.heap H locs → W p l e R s m args below meth c H locs cells slots Q (F0 m 22 ls [])) :
    ∀ k, k ≤ x → ∀ (ls : Array Slot) (H : Heap) (locs : List Loc), lv_has ls 4 [(0, .ref (sa 9)), (1, .int (nI x)), (2, .int (nI (256 ^ k))), (3, .int (nI k))] → va_S A s.heap H locs → W p l e R s m args below meth c H locs cells slots Q (F0 m 4 ls []) := by
  obtain ⟨hx, hb, hml, hown, hts⟩ := id S
  refine up_loop (fun k hkk ih => ?_)
  intro ls H locs hl hS
  refine lv_iload_n hx hb d_q_Kind_groupLimit_4 rfl (lv_at hl 3 rfl) ?_
  refine lv_iload_n hx hb d_q_Kind_groupLimit_5 rfl (lv_at hl 1 rfl) ?_
  refine n_icmp_ge hx hb d_q_Kind_groupLimit_6 (tgt := 22) rfl (by omega) (by omega) (fun g6 => ?_) (fun g6 => ?_)
  · skip
    obtain rfl : k = x := by omega
    exact kx ls H locs (lv_sub hl [0, 1, 2, 3] rfl) hS
  · skip
    refine lv_iload_n hx hb d_q_Kind_groupLimit_9 rfl (lv_at hl 2 rfl) ?_
    refine lv_aload_n hx hb d_q_Kind_groupLimit_10 rfl (lv_at hl 0 rfl) ?_
    refine n_kget hx hb hts (kf_2_base hSt) hS hown kw_1011 d_q_Kind_groupLimit_11 ?_
    refine n_imul hx hb d_q_Kind_groupLimit_14 ?_
    refine n_topn (show (256 ^ k) * 256 = 256 ^ (k + 1) from (Nat.pow_succ ..).symm) ?_
    refine lv_istore_n hx hb d_q_Kind_groupLimit_15 rfl hl (Nat.le_of_ble_eq_true rfl) rfl (fun ls hl => ?_)
    have hl : lv_has ls 4 [(2, .int (nI (256 ^ (k + 1)))), (0, .ref (sa 9)), (1, .int (nI x)), (3, .int (nI k))] := hl
    refine lv_iinc (k := 3) (v := nI (k + 1)) hx hb d_q_Kind_groupLimit_16 hl rfl (nx_inc k 1) (Nat.le_of_ble_eq_true rfl) rfl (fun ls hl => ?_)
    have hl : lv_has ls 4 [(3, .int (nI (k + 1))), (2, .int (nI (256 ^ (k + 1)))), (0, .ref (sa 9)), (1, .int (nI x))] := hl
    refine lv_goto hx hb d_q_Kind_groupLimit_19 (tgt := 4) rfl ?_
    exact ih (by omega) ls H locs (lv_sub hl [2, 3, 1, 0] rfl) hS
set_option maxHeartbeats 1000000 in
set_option maxRecDepth 100000 in
theorem bd_q_Kind_groupLimit_2 (cI cC : ClassId) (sa : Nat → Nat) (x : Nat) (hx1 : x ≤ 1) (S : CallFix p m c b_q_Kind_groupLimit 4 s args (cd_q_Kind_groupLimit :: WS) R_Kind) (hRf : 0 ≤ R.frames) (hRl : 0 ≤ R.locals) (hRc : cells ≤ R.cells ∧ slots ≤ R.slots) (hK : va_K D classes [(cI, .int), (cC, .char)] s) (hSt : SB sa A s s.heap) (kr : ∀ (pc : Nat) (ls : Array Slot) (H : Heap) (locs : List Loc), decode b_q_Kind_groupLimit pc = .ok (.ireturn, 1) → va_S A s.heap H locs → W p l e R s m args below meth c H locs cells slots Q (F0 m pc ls [.int (nI (256 ^ x))])) : ∀ (ls : Array Slot) (H : Heap) (locs : List Loc), lv_has ls 4 [(0, .ref (sa 9)), (1, .int (nI x))] → va_S A s.heap H locs → W p l e R s m args below meth c H locs cells slots Q (F0 m 0 ls []) := by
  obtain ⟨hx, hb, hml, hown, hts⟩ := id S
  intro ls H locs hl hS
  refine lv_iconst (v := nI 1) hx hb d_q_Kind_groupLimit_0 (by decide) ?_
  refine lv_istore_n hx hb d_q_Kind_groupLimit_1 rfl hl (Nat.le_of_ble_eq_true rfl) rfl (fun ls hl => ?_)
  have hl : lv_has ls 4 [(2, .int (nI 1)), (0, .ref (sa 9)), (1, .int (nI x))] := hl
  refine lv_iconst (v := nI 0) hx hb d_q_Kind_groupLimit_2 (by decide) ?_
  refine lv_istore_n hx hb d_q_Kind_groupLimit_3 rfl hl (Nat.le_of_ble_eq_true rfl) rfl (fun ls hl => ?_)
  have hl : lv_has ls 4 [(3, .int (nI 0)), (2, .int (nI 1)), (0, .ref (sa 9)), (1, .int (nI x))] := hl
  refine lp_q_Kind_groupLimit_2_4 cI cC sa x hx1 S hRf hRl hRc hK hSt  (fun ls H locs hl hS => ?_) 0 (by omega) ls H locs (lv_sub hl [2, 3, 1, 0] rfl) hS
  refine lv_iload_n hx hb d_q_Kind_groupLimit_22 rfl (lv_at hl 2 rfl) ?_
  exact kr _ ls H locs d_q_Kind_groupLimit_23 hS
set_option maxHeartbeats 1000000 in
set_option maxRecDepth 100000 in
theorem c_q_Kind_groupLimit_2 (l : Launch) (D : va_G) (cI cC : ClassId) (sa : Nat → Nat) (x : Nat) (hx1 : x ≤ 1) : Met l y_q_Kind_groupLimit (cd_q_Kind_groupLimit :: WS) { frames := 0, cells := 0, slots := 0, locals := 0 } (va_Pc [.ref (sa 9), .int (nI x)] (srP sa D [] [(cI, .int), (cC, .char)])) (pQ (nI (256 ^ x))) 0 0 noA := by
  refine Met.ofW (cc := b_q_Kind_groupLimit) (maxL := 4) (ret := (some .int)) (by decide) rfl ?_
  intro p e s m args below meth c s₁ B hml hv0
  obtain ⟨rfl, ⟨hP, hK⟩, hSt⟩ := hv0
  have hts := atoms_spec (ws := cd_q_Kind_groupLimit :: WS) B.pre
  have hown : s.vm.findClass R_Kind = some m.cls := findClass_of_methodNamed B.named
  have hlocks := B.notSynchronized
  have hl := lv_entry ([.ref (sa 9), .int (nI x)]) (n := 4) (Nat.le_of_ble_eq_true rfl)
  rw [lg_entry_eq]
  generalize (lg_sl ([.ref (sa 9), .int (nI x)]) ++ List.replicate (4 - (lg_sl ([.ref (sa 9), .int (nI x)])).length) Slot.unset).toArray = ls at hl ⊢
  refine bd_q_Kind_groupLimit_2 cI cC sa x hx1 ⟨B.exec, B.bytes, hml, hown, hts⟩ (Nat.le_refl _) (Nat.le_refl _) ⟨Nat.le_refl _, Nat.le_refl _⟩ hK hSt (fun pc ls H locs hd hS => ?_) ls _ _ hl (va_S.rf (A := noA))
  exact W.iret B.exec B.bytes B.returns (fun t ht _ => ⟨⟨_, (), rfl, rfl, trivial⟩, hS.F ht⟩) hS.2.2 hd
end
section
variable {p : Program} {l : Launch} {e : Env} {R : Room} {s : State} {m : MethodId} {args : Array Value} {below : List Frame} {meth : Method} {c : Code} {cells slots : Nat} {Q : State → Prop} {A : Nat → Prop} {H0 : Heap} {D : va_G}
set_option maxHeartbeats 1000000 in
set_option maxRecDepth 100000 in
theorem bd_q_Kind_bitsFor_2 (cI cC : ClassId) (sa : Nat → Nat) (n : Nat) (hn0 : n ≤ 45) (S : CallFix p m c b_q_Kind_bitsFor 4 s args (cd_q_Kind_bitsFor :: WS) R_Kind) (hRf : 1 ≤ R.frames) (hRl : 21 ≤ R.locals) (hRc : cells ≤ R.cells ∧ slots ≤ R.slots) (hK : va_K D classes [(cI, .int), (cC, .char)] s) (hSt : SB sa A s s.heap) (kr : ∀ (pc : Nat) (ls : Array Slot) (H : Heap) (locs : List Loc), decode b_q_Kind_bitsFor pc = .ok (.ireturn, 1) → va_S A s.heap H locs → W p l e R s m args below meth c H locs cells slots Q (F0 m pc ls [.int (nI (4 + gwd 4 + bfN 4 n))])) : ∀ (ls : Array Slot) (H : Heap) (locs : List Loc), lv_has ls 4 [(0, .ref (sa 9)), (1, .int (nI n))] → va_S A s.heap H locs → W p l e R s m args below meth c H locs cells slots Q (F0 m 0 ls []) := by
  obtain ⟨hx, hb, hml, hown, hts⟩ := id S
  intro ls H locs hl hS
  refine lv_iload_n hx hb d_q_Kind_bitsFor_0 rfl (lv_at hl 1 rfl) ?_
  refine lv_aload_n hx hb d_q_Kind_bitsFor_1 rfl (lv_at hl 0 rfl) ?_
  refine n_kget hx hb hts (kf_2_group hSt) hS hown kw_1012 d_q_Kind_bitsFor_2 ?_
  refine n_irem hx hb d_q_Kind_bitsFor_5 (by omega) (by omega) (by omega) ?_
  refine lv_istore_n hx hb d_q_Kind_bitsFor_6 rfl hl (Nat.le_of_ble_eq_true rfl) rfl (fun ls hl => ?_)
  have hl : lv_has ls 4 [(2, .int (nI (n % 1))), (0, .ref (sa 9)), (1, .int (nI n))] := hl
  refine lv_iconst (v := nI 4) hx hb d_q_Kind_bitsFor_7 (by decide) ?_
  refine lv_aload_n hx hb d_q_Kind_bitsFor_8 rfl (lv_at hl 1 rfl) ?_
  refine n_kget hx hb hts (kf_2_countBits hSt) hS hown kw_1013 d_q_Kind_bitsFor_9 ?_
  refine n_iadd hx hb d_q_Kind_bitsFor_12 ?_
  refine lv_iload_n hx hb d_q_Kind_bitsFor_13 rfl (lv_at hl 2 rfl) ?_
  refine lv_aload_n hx hb d_q_Kind_bitsFor_14 rfl (lv_at hl 1 rfl) ?_
  refine n_kget hx hb hts (kf_2_group hSt) hS hown kw_1012 d_q_Kind_bitsFor_15 ?_
  refine n_idiv hx hb d_q_Kind_bitsFor_18 (by omega) (by omega) (by omega) ?_
  refine lv_aload_n hx hb d_q_Kind_bitsFor_19 rfl (lv_at hl 1 rfl) ?_
  refine lv_aload_n hx hb d_q_Kind_bitsFor_20 rfl (lv_at hl 1 rfl) ?_
  refine n_kget hx hb hts (kf_2_group hSt) hS hown kw_1012 d_q_Kind_bitsFor_21 ?_
  refine q_readVr (n := 1) (As := [.int (nI 1)]) (rest := [.int (nI (n / 1)), .int (nI (4 + 8))]) (wc := []) S (c_q_Kind_groupBits_2 l D cI cC sa 1 (by decide) (by decide)) hSt hK va_P0 (o_recv (ko_2 hSt) hS) [] rfl (q_goodV kw_489 kw_490 kw_491 kw_16 kw_492) (by decide +kernel) rfl rfl rfl ⟨Nat.le_trans (Nat.le_of_ble_eq_true rfl) hRf, Nat.le_trans (Nat.le_of_ble_eq_true rfl) hRl⟩ rfl hl.1 rfl (Nat.le_of_ble_eq_true rfl) d_q_Kind_bitsFor_24 hRc hS (fun H locs _ hS => ?_)
  refine n_imul hx hb d_q_Kind_bitsFor_27 ?_
  refine n_iadd hx hb d_q_Kind_bitsFor_28 ?_
  refine lv_istore_n hx hb d_q_Kind_bitsFor_29 rfl hl (Nat.le_of_ble_eq_true rfl) rfl (fun ls hl => ?_)
  have hl : lv_has ls 4 [(3, .int (nI ((4 + 8) + ((n / 1) * (gsz 4 1))))), (2, .int (nI (n % 1))), (0, .ref (sa 9)), (1, .int (nI n))] := hl
  refine lv_iload_n hx hb d_q_Kind_bitsFor_30 rfl (lv_at hl 1 rfl) ?_
  refine n_if_ne hx hb d_q_Kind_bitsFor_31 (tgt := 38) rfl (by omega) (fun g31 => ?_) (fun g31 => ?_)
  · skip
    refine lv_iload_n hx hb d_q_Kind_bitsFor_38 rfl (lv_at hl 0 rfl) ?_
    refine lv_aload_n hx hb d_q_Kind_bitsFor_39 rfl (lv_at hl 2 rfl) ?_
    refine lv_iload_n hx hb d_q_Kind_bitsFor_40 rfl (lv_at hl 1 rfl) ?_
    refine q_readVr (n := 1) (As := [.int (nI (n % 1))]) (rest := [.int (nI ((4 + 8) + ((n / 1) * (gsz 4 1))))]) (wc := []) S (c_q_Kind_groupBits_2 l D cI cC sa (n % 1) (by omega) (by omega)) hSt hK va_P0 (o_recv (ko_2 hSt) hS) [] rfl (q_goodV kw_489 kw_490 kw_491 kw_16 kw_492) (by decide +kernel) rfl rfl rfl ⟨Nat.le_trans (Nat.le_of_ble_eq_true rfl) hRf, Nat.le_trans (Nat.le_of_ble_eq_true rfl) hRl⟩ rfl hl.1 rfl (Nat.le_of_ble_eq_true rfl) d_q_Kind_bitsFor_41 hRc hS (fun H locs _ hS => ?_)
    refine n_iadd hx hb d_q_Kind_bitsFor_44 ?_
    refine n_topn (show ((4 + 8) + ((n / 1) * (gsz 4 1))) + (gsz 4 (n % 1)) = 4 + gwd 4 + bfN 4 n from (by first | exact bf_t2 (by omega) | exact bf_f2 (by omega))) ?_
    exact kr _ ls H locs d_q_Kind_bitsFor_45 hS
  · skip
    refine lv_iload_n hx hb d_q_Kind_bitsFor_34 rfl (lv_at hl 0 rfl) ?_
    refine lv_goto hx hb d_q_Kind_bitsFor_35 (tgt := 45) rfl ?_
    refine n_topn (show (4 + 8) + ((n / 1) * (gsz 4 1)) = 4 + gwd 4 + bfN 4 n from (by first | exact bf_t2 (by omega) | exact bf_f2 (by omega))) ?_
    exact kr _ ls H locs d_q_Kind_bitsFor_45 hS
set_option maxHeartbeats 1000000 in
set_option maxRecDepth 100000 in
theorem c_q_Kind_bitsFor_2 (l : Launch) (D : va_G) (cI cC : ClassId) (sa : Nat → Nat) (n : Nat) (hn0 : n ≤ 45) : Met l y_q_Kind_bitsFor (cd_q_Kind_bitsFor :: WS) { frames := 1, cells := 0, slots := 0, locals := 21 } (va_Pc [.ref (sa 9), .int (nI n)] (srP sa D [] [(cI, .int), (cC, .char)])) (pQ (nI (4 + gwd 4 + bfN 4 n))) 0 0 noA := by
  refine Met.ofW (cc := b_q_Kind_bitsFor) (maxL := 4) (ret := (some .int)) (by decide) rfl ?_
  intro p e s m args below meth c s₁ B hml hv0
  obtain ⟨rfl, ⟨hP, hK⟩, hSt⟩ := hv0
  have hts := atoms_spec (ws := cd_q_Kind_bitsFor :: WS) B.pre
  have hown : s.vm.findClass R_Kind = some m.cls := findClass_of_methodNamed B.named
  have hlocks := B.notSynchronized
  have hl := lv_entry ([.ref (sa 9), .int (nI n)]) (n := 4) (Nat.le_of_ble_eq_true rfl)
  rw [lg_entry_eq]
  generalize (lg_sl ([.ref (sa 9), .int (nI n)]) ++ List.replicate (4 - (lg_sl ([.ref (sa 9), .int (nI n)])).length) Slot.unset).toArray = ls at hl ⊢
  refine bd_q_Kind_bitsFor_2 cI cC sa n hn0 ⟨B.exec, B.bytes, hml, hown, hts⟩ (Nat.le_refl _) (Nat.le_refl _) ⟨Nat.le_refl _, Nat.le_refl _⟩ hK hSt (fun pc ls H locs hd hS => ?_) ls _ _ hl (va_S.rf (A := noA))
  exact W.iret B.exec B.bytes B.returns (fun t ht _ => ⟨⟨_, (), rfl, rfl, trivial⟩, hS.F ht⟩) hS.2.2 hd
end
section
variable {p : Program} {l : Launch} {e : Env} {R : Room} {s : State} {m : MethodId} {args : Array Value} {below : List Frame} {meth : Method} {c : Code} {cells slots : Nat} {Q : State → Prop} {A : Nat → Prop} {H0 : Heap} {D : va_G}
set_option maxHeartbeats 1000000 in
set_option maxRecDepth 100000 in
theorem bd_q_Kind_characterOf_2 (cI cC : ClassId) (sa : Nat → Nat) (x : Nat) (hx0 : x < 256) (S : CallFix p m c b_q_Kind_characterOf 2 s args (cd_q_Kind_characterOf :: WS) R_Kind) (hRf : 4 ≤ R.frames) (hRl : 85 ≤ R.locals) (hRc : cells ≤ R.cells ∧ slots ≤ R.slots) (hK : va_K D classes [(cI, .int), (cC, .char)] s) (hSt : SB sa A s s.heap) (kr : ∀ (pc : Nat) (ls : Array Slot) (H : Heap) (locs : List Loc), decode b_q_Kind_characterOf pc = .ok (.ireturn, 1) → va_S A s.heap H locs → W p l e R s m args below meth c H locs cells slots Q (F0 m pc ls [.int (nI x)])) : ∀ (ls : Array Slot) (H : Heap) (locs : List Loc), lv_has ls 2 [(0, .ref (sa 9)), (1, .int (nI x))] → va_S A s.heap H locs → W p l e R s m args below meth c H locs cells slots Q (F0 m 0 ls []) := by
  obtain ⟨hx, hb, hml, hown, hts⟩ := id S
  intro ls H locs hl hS
  refine lv_aload_n hx hb d_q_Kind_characterOf_0 rfl (lv_at hl 0 rfl) ?_
  refine n_gets hx hb hts (kz_2 hSt) hS hown kw_396 d_q_Kind_characterOf_1 ?_
  refine n_acmp_eq hx hb d_q_Kind_characterOf_4 (tgt := 12) rfl ?_
  refine lv_iload_n hx hb d_q_Kind_characterOf_7 rfl (lv_at hl 1 rfl) ?_
  refine lv_i2c (v := nI x) hx hb d_q_Kind_characterOf_8 (ch_256 x hx0) ?_
  refine lv_goto hx hb d_q_Kind_characterOf_9 (tgt := 18) rfl ?_
  exact kr _ ls H locs d_q_Kind_characterOf_18 hS
set_option maxHeartbeats 1000000 in
set_option maxRecDepth 100000 in
theorem c_q_Kind_characterOf_2 (l : Launch) (D : va_G) (cI cC : ClassId) (sa : Nat → Nat) (x : Nat) (hx0 : x < 256) : Met l y_q_Kind_characterOf (cd_q_Kind_characterOf :: WS) { frames := 4, cells := 0, slots := 0, locals := 85 } (va_Pc [.ref (sa 9), .int (nI x)] (srP sa D [] [(cI, .int), (cC, .char)])) (pQ (nI x)) 0 0 noA := by
  refine Met.ofW (cc := b_q_Kind_characterOf) (maxL := 2) (ret := (some .char)) (by decide) rfl ?_
  intro p e s m args below meth c s₁ B hml hv0
  obtain ⟨rfl, ⟨hP, hK⟩, hSt⟩ := hv0
  have hts := atoms_spec (ws := cd_q_Kind_characterOf :: WS) B.pre
  have hown : s.vm.findClass R_Kind = some m.cls := findClass_of_methodNamed B.named
  have hlocks := B.notSynchronized
  have hl := lv_entry ([.ref (sa 9), .int (nI x)]) (n := 2) (Nat.le_of_ble_eq_true rfl)
  rw [lg_entry_eq]
  generalize (lg_sl ([.ref (sa 9), .int (nI x)]) ++ List.replicate (2 - (lg_sl ([.ref (sa 9), .int (nI x)])).length) Slot.unset).toArray = ls at hl ⊢
  refine bd_q_Kind_characterOf_2 cI cC sa x hx0 ⟨B.exec, B.bytes, hml, hown, hts⟩ (Nat.le_refl _) (Nat.le_refl _) ⟨Nat.le_refl _, Nat.le_refl _⟩ hK hSt (fun pc ls H locs hd hS => ?_) ls _ _ hl (va_S.rf (A := noA))
  exact W.zret B.exec B.bytes B.returns (ch_fit x hx0) (fun t ht _ => ⟨⟨_, (), rfl, rfl, trivial⟩, hS.F ht⟩) hS.2.2 hd
end
section
variable {p : Program} {l : Launch} {e : Env} {R : Room} {s : State} {m : MethodId} {args : Array Value} {below : List Frame} {meth : Method} {c : Code} {cells slots : Nat} {Q : State → Prop} {A : Nat → Prop} {H0 : Heap} {D : va_G}
set_option maxHeartbeats 1000000 in
set_option maxRecDepth 100000 in
theorem bd_q_Kind_withCode_2 (cI cC : ClassId) (sa : Nat → Nat) (S : CallFix p m c b_q_Kind_withCode 5 s args (cd_q_Kind_withCode :: WS) R_Kind) (hRf : 0 ≤ R.frames) (hRl : 0 ≤ R.locals) (hRc : cells ≤ R.cells ∧ slots ≤ R.slots) (hK : va_K D classes [(cI, .int), (cC, .char)] s) (hSt : SB sa A s s.heap) (kr : ∀ (pc : Nat) (ls : Array Slot) (H : Heap) (locs : List Loc), decode b_q_Kind_withCode pc = .ok (.areturn, 1) → va_S A s.heap H locs → W p l e R s m args below meth c H locs cells slots Q (F0 m pc ls [.ref (sa 9)])) : ∀ (ls : Array Slot) (H : Heap) (locs : List Loc), lv_has ls 5 [(0, .int (nI 4))] → va_S A s.heap H locs → W p l e R s m args below meth c H locs cells slots Q (F0 m 0 ls []) := by
  obtain ⟨hx, hb, hml, hown, hts⟩ := id S
  intro ls H locs hl hS
  refine n_gets hx hb hts (kk_z hSt) hS hown kw_385 d_q_Kind_withCode_0 ?_
  refine lv_astore_n hx hb d_q_Kind_withCode_3 rfl hl (Nat.le_of_ble_eq_true rfl) rfl (fun ls hl => ?_)
  have hl : lv_has ls 5 [(1, .ref (sa 6)), (0, .int (nI 4))] := hl
  refine lv_aload_n hx hb d_q_Kind_withCode_4 rfl (lv_at hl 0 rfl) ?_
  refine va_tlen (v := nI 3) hx hb (kk_t hSt) hS rfl d_q_Kind_withCode_5 ?_
  refine lv_istore_n hx hb d_q_Kind_withCode_6 rfl hl (Nat.le_of_ble_eq_true rfl) rfl (fun ls hl => ?_)
  have hl : lv_has ls 5 [(2, .int (nI 3)), (1, .ref (sa 6)), (0, .int (nI 4))] := hl
  refine lv_iconst (v := nI 0) hx hb d_q_Kind_withCode_7 (by decide) ?_
  refine lv_istore_n hx hb d_q_Kind_withCode_8 rfl hl (Nat.le_of_ble_eq_true rfl) rfl (fun ls hl => ?_)
  have hl : lv_has ls 5 [(3, .int (nI 0)), (2, .int (nI 3)), (1, .ref (sa 6)), (0, .int (nI 4))] := hl
  refine lv_iload_n hx hb d_q_Kind_withCode_9 rfl (lv_at hl 0 rfl) ?_
  refine lv_iload_n hx hb d_q_Kind_withCode_10 rfl (lv_at hl 1 rfl) ?_
  refine n_icmp_ge hx hb d_q_Kind_withCode_11 (tgt := 37) rfl (by omega) (by omega) (fun g11 => absurd g11 (by decide)) (fun g11 => ?_)
  refine lv_aload_n hx hb d_q_Kind_withCode_14 rfl (lv_at hl 2 rfl) ?_
  refine lv_iload_n hx hb d_q_Kind_withCode_15 rfl (lv_at hl 0 rfl) ?_
  refine vb_tq (v := .ref (sa 7)) hx hb (kk_t hSt) hS (vp_in_nI (show 0 < 3 by decide) (by decide)) rfl d_q_Kind_withCode_16 ?_
  refine lv_astore hx hb d_q_Kind_withCode_17 hl (Nat.le_of_ble_eq_true rfl) rfl (fun ls hl => ?_)
  have hl : lv_has ls 5 [(4, .ref (sa 7)), (3, .int (nI 0)), (2, .int (nI 3)), (1, .ref (sa 6)), (0, .int (nI 4))] := hl
  refine lv_aload hx hb d_q_Kind_withCode_19 (lv_at hl 0 rfl) ?_
  refine n_kget hx hb hts (kf_0_code hSt) hS hown kw_1020 d_q_Kind_withCode_21 ?_
  refine lv_iload_n hx hb d_q_Kind_withCode_24 rfl (lv_at hl 4 rfl) ?_
  refine n_icmp_ne hx hb d_q_Kind_withCode_25 (tgt := 31) rfl (by omega) (by omega) (fun g25 => ?_) (fun g25 => absurd g25 (by decide))
  refine lv_iinc (k := 1) (v := nI 1) hx hb d_q_Kind_withCode_31 hl rfl (nx_inc 0 1) (Nat.le_of_ble_eq_true rfl) rfl (fun ls hl => ?_)
  have hl : lv_has ls 5 [(3, .int (nI 1)), (4, .ref (sa 7)), (2, .int (nI 3)), (1, .ref (sa 6)), (0, .int (nI 4))] := hl
  refine lv_goto hx hb d_q_Kind_withCode_34 (tgt := 9) rfl ?_
  refine lv_iload_n hx hb d_q_Kind_withCode_9 rfl (lv_at hl 0 rfl) ?_
  refine lv_iload_n hx hb d_q_Kind_withCode_10 rfl (lv_at hl 2 rfl) ?_
  refine n_icmp_ge hx hb d_q_Kind_withCode_11 (tgt := 37) rfl (by omega) (by omega) (fun g11 => absurd g11 (by decide)) (fun g11 => ?_)
  refine lv_aload_n hx hb d_q_Kind_withCode_14 rfl (lv_at hl 3 rfl) ?_
  refine lv_iload_n hx hb d_q_Kind_withCode_15 rfl (lv_at hl 0 rfl) ?_
  refine vb_tq (v := .ref (sa 8)) hx hb (kk_t hSt) hS (vp_in_nI (show 1 < 3 by decide) (by decide)) rfl d_q_Kind_withCode_16 ?_
  refine lv_astore hx hb d_q_Kind_withCode_17 hl (Nat.le_of_ble_eq_true rfl) rfl (fun ls hl => ?_)
  have hl : lv_has ls 5 [(4, .ref (sa 8)), (3, .int (nI 1)), (2, .int (nI 3)), (1, .ref (sa 6)), (0, .int (nI 4))] := hl
  refine lv_aload hx hb d_q_Kind_withCode_19 (lv_at hl 0 rfl) ?_
  refine n_kget hx hb hts (kf_1_code hSt) hS hown kw_1020 d_q_Kind_withCode_21 ?_
  refine lv_iload_n hx hb d_q_Kind_withCode_24 rfl (lv_at hl 4 rfl) ?_
  refine n_icmp_ne hx hb d_q_Kind_withCode_25 (tgt := 31) rfl (by omega) (by omega) (fun g25 => ?_) (fun g25 => absurd g25 (by decide))
  refine lv_iinc (k := 1) (v := nI 2) hx hb d_q_Kind_withCode_31 hl rfl (nx_inc 1 1) (Nat.le_of_ble_eq_true rfl) rfl (fun ls hl => ?_)
  have hl : lv_has ls 5 [(3, .int (nI 2)), (4, .ref (sa 8)), (2, .int (nI 3)), (1, .ref (sa 6)), (0, .int (nI 4))] := hl
  refine lv_goto hx hb d_q_Kind_withCode_34 (tgt := 9) rfl ?_
  refine lv_iload_n hx hb d_q_Kind_withCode_9 rfl (lv_at hl 0 rfl) ?_
  refine lv_iload_n hx hb d_q_Kind_withCode_10 rfl (lv_at hl 2 rfl) ?_
  refine n_icmp_ge hx hb d_q_Kind_withCode_11 (tgt := 37) rfl (by omega) (by omega) (fun g11 => absurd g11 (by decide)) (fun g11 => ?_)
  refine lv_aload_n hx hb d_q_Kind_withCode_14 rfl (lv_at hl 3 rfl) ?_
  refine lv_iload_n hx hb d_q_Kind_withCode_15 rfl (lv_at hl 0 rfl) ?_
  refine vb_tq (v := .ref (sa 9)) hx hb (kk_t hSt) hS (vp_in_nI (show 2 < 3 by decide) (by decide)) rfl d_q_Kind_withCode_16 ?_
  refine lv_astore hx hb d_q_Kind_withCode_17 hl (Nat.le_of_ble_eq_true rfl) rfl (fun ls hl => ?_)
  have hl : lv_has ls 5 [(4, .ref (sa 9)), (3, .int (nI 2)), (2, .int (nI 3)), (1, .ref (sa 6)), (0, .int (nI 4))] := hl
  refine lv_aload hx hb d_q_Kind_withCode_19 (lv_at hl 0 rfl) ?_
  refine n_kget hx hb hts (kf_2_code hSt) hS hown kw_1020 d_q_Kind_withCode_21 ?_
  refine lv_iload_n hx hb d_q_Kind_withCode_24 rfl (lv_at hl 4 rfl) ?_
  refine n_icmp_ne hx hb d_q_Kind_withCode_25 (tgt := 31) rfl (by omega) (by omega) (fun g25 => absurd g25 (by decide)) (fun g25 => ?_)
  refine lv_aload hx hb d_q_Kind_withCode_28 (lv_at hl 0 rfl) ?_
  exact kr _ ls H locs d_q_Kind_withCode_30 hS
set_option maxHeartbeats 1000000 in
set_option maxRecDepth 100000 in
theorem c_q_Kind_withCode_2 (l : Launch) (D : va_G) (cI cC : ClassId) (sa : Nat → Nat) : Met l y_q_Kind_withCode (cd_q_Kind_withCode :: WS) { frames := 0, cells := 0, slots := 0, locals := 0 } (va_Pc [.int (nI 4)] (srP sa D [] [(cI, .int), (cC, .char)])) (pQq (some (sa 9))) 0 0 noA := by
  refine Met.ofW (cc := b_q_Kind_withCode) (maxL := 5) (ret := (some (.object "SquareCodes$Kind"))) (by decide) rfl ?_
  intro p e s m args below meth c s₁ B hml hv0
  obtain ⟨rfl, ⟨hP, hK⟩, hSt⟩ := hv0
  have hts := atoms_spec (ws := cd_q_Kind_withCode :: WS) B.pre
  have hown : s.vm.findClass R_Kind = some m.cls := findClass_of_methodNamed B.named
  have hlocks := B.notSynchronized
  have hl := lv_entry ([.int (nI 4)]) (n := 5) (Nat.le_of_ble_eq_true rfl)
  rw [lg_entry_eq]
  generalize (lg_sl ([.int (nI 4)]) ++ List.replicate (5 - (lg_sl ([.int (nI 4)])).length) Slot.unset).toArray = ls at hl ⊢
  refine bd_q_Kind_withCode_2 cI cC sa  ⟨B.exec, B.bytes, hml, hown, hts⟩ (Nat.le_refl _) (Nat.le_refl _) ⟨Nat.le_refl _, Nat.le_refl _⟩ hK hSt (fun pc ls H locs hd hS => ?_) ls _ _ hl (va_S.rf (A := noA))
  exact W.aret B.exec B.bytes B.returns (Or.inl ⟨_, rfl⟩) (Or.inr ⟨_, rfl⟩) (fun t ht _ => ⟨⟨some _, (), rfl, rfl, trivial⟩, hS.F ht⟩) hS.2.2 hd
end
section
variable {p : Program} {l : Launch} {e : Env} {R : Room} {s : State} {m : MethodId} {args : Array Value} {below : List Frame} {meth : Method} {c : Code} {cells slots : Nat} {Q : State → Prop} {A : Nat → Prop} {H0 : Heap} {D : va_G}
set_option maxHeartbeats 1000000 in
set_option maxRecDepth 100000 in
theorem bd_q_Kind_withCode_no (cI cC : ClassId) (sa : Nat → Nat) (x : Nat) (hx0 : x < 16) (hx1 : x ≠ 1 ∧ x ≠ 2 ∧ x ≠ 4) (S : CallFix p m c b_q_Kind_withCode 5 s args (cd_q_Kind_withCode :: WS) R_Kind) (hRf : 0 ≤ R.frames) (hRl : 0 ≤ R.locals) (hRc : cells ≤ R.cells ∧ slots ≤ R.slots) (hK : va_K D classes [(cI, .int), (cC, .char)] s) (hSt : SB sa A s s.heap) (kr : ∀ (pc : Nat) (ls : Array Slot) (H : Heap) (locs : List Loc), decode b_q_Kind_withCode pc = .ok (.areturn, 1) → va_S A s.heap H locs → W p l e R s m args below meth c H locs cells slots Q (F0 m pc ls [.null])) : ∀ (ls : Array Slot) (H : Heap) (locs : List Loc), lv_has ls 5 [(0, .int (nI x))] → va_S A s.heap H locs → W p l e R s m args below meth c H locs cells slots Q (F0 m 0 ls []) := by
  obtain ⟨hx, hb, hml, hown, hts⟩ := id S
  intro ls H locs hl hS
  refine n_gets hx hb hts (kk_z hSt) hS hown kw_385 d_q_Kind_withCode_0 ?_
  refine lv_astore_n hx hb d_q_Kind_withCode_3 rfl hl (Nat.le_of_ble_eq_true rfl) rfl (fun ls hl => ?_)
  have hl : lv_has ls 5 [(1, .ref (sa 6)), (0, .int (nI x))] := hl
  refine lv_aload_n hx hb d_q_Kind_withCode_4 rfl (lv_at hl 0 rfl) ?_
  refine va_tlen (v := nI 3) hx hb (kk_t hSt) hS rfl d_q_Kind_withCode_5 ?_
  refine lv_istore_n hx hb d_q_Kind_withCode_6 rfl hl (Nat.le_of_ble_eq_true rfl) rfl (fun ls hl => ?_)
  have hl : lv_has ls 5 [(2, .int (nI 3)), (1, .ref (sa 6)), (0, .int (nI x))] := hl
  refine lv_iconst (v := nI 0) hx hb d_q_Kind_withCode_7 (by decide) ?_
  refine lv_istore_n hx hb d_q_Kind_withCode_8 rfl hl (Nat.le_of_ble_eq_true rfl) rfl (fun ls hl => ?_)
  have hl : lv_has ls 5 [(3, .int (nI 0)), (2, .int (nI 3)), (1, .ref (sa 6)), (0, .int (nI x))] := hl
  refine lv_iload_n hx hb d_q_Kind_withCode_9 rfl (lv_at hl 0 rfl) ?_
  refine lv_iload_n hx hb d_q_Kind_withCode_10 rfl (lv_at hl 1 rfl) ?_
  refine n_icmp_ge hx hb d_q_Kind_withCode_11 (tgt := 37) rfl (by omega) (by omega) (fun g11 => absurd g11 (by decide)) (fun g11 => ?_)
  refine lv_aload_n hx hb d_q_Kind_withCode_14 rfl (lv_at hl 2 rfl) ?_
  refine lv_iload_n hx hb d_q_Kind_withCode_15 rfl (lv_at hl 0 rfl) ?_
  refine vb_tq (v := .ref (sa 7)) hx hb (kk_t hSt) hS (vp_in_nI (show 0 < 3 by decide) (by decide)) rfl d_q_Kind_withCode_16 ?_
  refine lv_astore hx hb d_q_Kind_withCode_17 hl (Nat.le_of_ble_eq_true rfl) rfl (fun ls hl => ?_)
  have hl : lv_has ls 5 [(4, .ref (sa 7)), (3, .int (nI 0)), (2, .int (nI 3)), (1, .ref (sa 6)), (0, .int (nI x))] := hl
  refine lv_aload hx hb d_q_Kind_withCode_19 (lv_at hl 0 rfl) ?_
  refine n_kget hx hb hts (kf_0_code hSt) hS hown kw_1020 d_q_Kind_withCode_21 ?_
  refine lv_iload_n hx hb d_q_Kind_withCode_24 rfl (lv_at hl 4 rfl) ?_
  refine n_icmp_ne hx hb d_q_Kind_withCode_25 (tgt := 31) rfl (by omega) (by omega) (fun g25 => ?_) (fun g25 => absurd g25 (by omega))
  refine lv_iinc (k := 1) (v := nI 1) hx hb d_q_Kind_withCode_31 hl rfl (nx_inc 0 1) (Nat.le_of_ble_eq_true rfl) rfl (fun ls hl => ?_)
  have hl : lv_has ls 5 [(3, .int (nI 1)), (4, .ref (sa 7)), (2, .int (nI 3)), (1, .ref (sa 6)), (0, .int (nI x))] := hl
  refine lv_goto hx hb d_q_Kind_withCode_34 (tgt := 9) rfl ?_
  refine lv_iload_n hx hb d_q_Kind_withCode_9 rfl (lv_at hl 0 rfl) ?_
  refine lv_iload_n hx hb d_q_Kind_withCode_10 rfl (lv_at hl 2 rfl) ?_
  refine n_icmp_ge hx hb d_q_Kind_withCode_11 (tgt := 37) rfl (by omega) (by omega) (fun g11 => absurd g11 (by decide)) (fun g11 => ?_)
  refine lv_aload_n hx hb d_q_Kind_withCode_14 rfl (lv_at hl 3 rfl) ?_
  refine lv_iload_n hx hb d_q_Kind_withCode_15 rfl (lv_at hl 0 rfl) ?_
  refine vb_tq (v := .ref (sa 8)) hx hb (kk_t hSt) hS (vp_in_nI (show 1 < 3 by decide) (by decide)) rfl d_q_Kind_withCode_16 ?_
  refine lv_astore hx hb d_q_Kind_withCode_17 hl (Nat.le_of_ble_eq_true rfl) rfl (fun ls hl => ?_)
  have hl : lv_has ls 5 [(4, .ref (sa 8)), (3, .int (nI 1)), (2, .int (nI 3)), (1, .ref (sa 6)), (0, .int (nI x))] := hl
  refine lv_aload hx hb d_q_Kind_withCode_19 (lv_at hl 0 rfl) ?_
  refine n_kget hx hb hts (kf_1_code hSt) hS hown kw_1020 d_q_Kind_withCode_21 ?_
  refine lv_iload_n hx hb d_q_Kind_withCode_24 rfl (lv_at hl 4 rfl) ?_
  refine n_icmp_ne hx hb d_q_Kind_withCode_25 (tgt := 31) rfl (by omega) (by omega) (fun g25 => ?_) (fun g25 => absurd g25 (by omega))
  refine lv_iinc (k := 1) (v := nI 2) hx hb d_q_Kind_withCode_31 hl rfl (nx_inc 1 1) (Nat.le_of_ble_eq_true rfl) rfl (fun ls hl => ?_)
  have hl : lv_has ls 5 [(3, .int (nI 2)), (4, .ref (sa 8)), (2, .int (nI 3)), (1, .ref (sa 6)), (0, .int (nI x))] := hl
  refine lv_goto hx hb d_q_Kind_withCode_34 (tgt := 9) rfl ?_
  refine lv_iload_n hx hb d_q_Kind_withCode_9 rfl (lv_at hl 0 rfl) ?_
  refine lv_iload_n hx hb d_q_Kind_withCode_10 rfl (lv_at hl 2 rfl) ?_
  refine n_icmp_ge hx hb d_q_Kind_withCode_11 (tgt := 37) rfl (by omega) (by omega) (fun g11 => absurd g11 (by decide)) (fun g11 => ?_)
  refine lv_aload_n hx hb d_q_Kind_withCode_14 rfl (lv_at hl 3 rfl) ?_
  refine lv_iload_n hx hb d_q_Kind_withCode_15 rfl (lv_at hl 0 rfl) ?_
  refine vb_tq (v := .ref (sa 9)) hx hb (kk_t hSt) hS (vp_in_nI (show 2 < 3 by decide) (by decide)) rfl d_q_Kind_withCode_16 ?_
  refine lv_astore hx hb d_q_Kind_withCode_17 hl (Nat.le_of_ble_eq_true rfl) rfl (fun ls hl => ?_)
  have hl : lv_has ls 5 [(4, .ref (sa 9)), (3, .int (nI 2)), (2, .int (nI 3)), (1, .ref (sa 6)), (0, .int (nI x))] := hl
  refine lv_aload hx hb d_q_Kind_withCode_19 (lv_at hl 0 rfl) ?_
  refine n_kget hx hb hts (kf_2_code hSt) hS hown kw_1020 d_q_Kind_withCode_21 ?_
  refine lv_iload_n hx hb d_q_Kind_withCode_24 rfl (lv_at hl 4 rfl) ?_
  refine n_icmp_ne hx hb d_q_Kind_withCode_25 (tgt := 31) rfl (by omega) (by omega) (fun g25 => ?_) (fun g25 => absurd g25 (by omega))
  refine lv_iinc (k := 1) (v := nI 3) hx hb d_q_Kind_withCode_31 hl rfl (nx_inc 2 1) (Nat.le_of_ble_eq_true rfl) rfl (fun ls hl => ?_)
  have hl : lv_has ls 5 [(3, .int (nI 3)), (4, .ref (sa 9)), (2, .int (nI 3)), (1, .ref (sa 6)), (0, .int (nI x))] := hl
  refine lv_goto hx hb d_q_Kind_withCode_34 (tgt := 9) rfl ?_
  refine lv_iload_n hx hb d_q_Kind_withCode_9 rfl (lv_at hl 0 rfl) ?_
  refine lv_iload_n hx hb d_q_Kind_withCode_10 rfl (lv_at hl 2 rfl) ?_
  refine n_icmp_ge hx hb d_q_Kind_withCode_11 (tgt := 37) rfl (by omega) (by omega) (fun g11 => ?_) (fun g11 => absurd g11 (by decide))
  refine lv_null hx hb d_q_Kind_withCode_37 ?_
  exact kr _ ls H locs d_q_Kind_withCode_38 hS
set_option maxHeartbeats 1000000 in
set_option maxRecDepth 100000 in
theorem c_q_Kind_withCode_no (l : Launch) (D : va_G) (cI cC : ClassId) (sa : Nat → Nat) (x : Nat) (hx0 : x < 16) (hx1 : x ≠ 1 ∧ x ≠ 2 ∧ x ≠ 4) : Met l y_q_Kind_withCode (cd_q_Kind_withCode :: WS) { frames := 0, cells := 0, slots := 0, locals := 0 } (va_Pc [.int (nI x)] (srP sa D [] [(cI, .int), (cC, .char)])) (pQq none) 0 0 noA := by
  refine Met.ofW (cc := b_q_Kind_withCode) (maxL := 5) (ret := (some (.object "SquareCodes$Kind"))) (by decide) rfl ?_
  intro p e s m args below meth c s₁ B hml hv0
  obtain ⟨rfl, ⟨hP, hK⟩, hSt⟩ := hv0
  have hts := atoms_spec (ws := cd_q_Kind_withCode :: WS) B.pre
  have hown : s.vm.findClass R_Kind = some m.cls := findClass_of_methodNamed B.named
  have hlocks := B.notSynchronized
  have hl := lv_entry ([.int (nI x)]) (n := 5) (Nat.le_of_ble_eq_true rfl)
  rw [lg_entry_eq]
  generalize (lg_sl ([.int (nI x)]) ++ List.replicate (5 - (lg_sl ([.int (nI x)])).length) Slot.unset).toArray = ls at hl ⊢
  refine bd_q_Kind_withCode_no cI cC sa x hx0 hx1 ⟨B.exec, B.bytes, hml, hown, hts⟩ (Nat.le_refl _) (Nat.le_refl _) ⟨Nat.le_refl _, Nat.le_refl _⟩ hK hSt (fun pc ls H locs hd hS => ?_) ls _ _ hl (va_S.rf (A := noA))
  exact W.aret B.exec B.bytes B.returns (Or.inl ⟨_, rfl⟩) (Or.inl rfl) (fun t ht _ => ⟨⟨none, (), rfl, rfl, trivial⟩, hS.F ht⟩) hS.2.2 hd
end
section
theorem d_q_Kind_fitting_0 : decode b_q_Kind_fitting 0 = .ok (.getstatic 53, 3) := by decide +kernel
theorem d_q_Kind_fitting_3 : decode b_q_Kind_fitting 3 = .ok (.astore_n 2, 1) := by decide +kernel
theorem d_q_Kind_fitting_4 : decode b_q_Kind_fitting 4 = .ok (.aload_n 2, 1) := by decide +kernel
theorem d_q_Kind_fitting_5 : decode b_q_Kind_fitting 5 = .ok (.arraylength, 1) := by decide +kernel
theorem d_q_Kind_fitting_6 : decode b_q_Kind_fitting 6 = .ok (.istore_n 3, 1) := by decide +kernel
theorem d_q_Kind_fitting_7 : decode b_q_Kind_fitting 7 = .ok (.iconst 0, 1) := by decide +kernel
theorem d_q_Kind_fitting_8 : decode b_q_Kind_fitting 8 = .ok (.istore 4, 2) := by decide +kernel
theorem d_q_Kind_fitting_10 : decode b_q_Kind_fitting 10 = .ok (.iload 4, 2) := by decide +kernel
theorem d_q_Kind_fitting_12 : decode b_q_Kind_fitting 12 = .ok (.iload_n 3, 1) := by decide +kernel
theorem d_q_Kind_fitting_13 : decode b_q_Kind_fitting 13 = .ok (.if_icmp .ge 28, 3) := by decide +kernel
theorem d_q_Kind_fitting_16 : decode b_q_Kind_fitting 16 = .ok (.aload_n 2, 1) := by decide +kernel
theorem d_q_Kind_fitting_17 : decode b_q_Kind_fitting 17 = .ok (.iload 4, 2) := by decide +kernel
theorem d_q_Kind_fitting_19 : decode b_q_Kind_fitting 19 = .ok (.aaload, 1) := by decide +kernel
theorem d_q_Kind_fitting_20 : decode b_q_Kind_fitting 20 = .ok (.astore 5, 2) := by decide +kernel
theorem d_q_Kind_fitting_22 : decode b_q_Kind_fitting 22 = .ok (.aload 5, 2) := by decide +kernel
theorem d_q_Kind_fitting_24 : decode b_q_Kind_fitting 24 = .ok (.aload_n 0, 1) := by decide +kernel
theorem d_q_Kind_fitting_25 : decode b_q_Kind_fitting 25 = .ok (.iload_n 1, 1) := by decide +kernel
theorem d_q_Kind_fitting_26 : decode b_q_Kind_fitting 26 = .ok (.invokevirtual 56, 3) := by decide +kernel
theorem d_q_Kind_fitting_29 : decode b_q_Kind_fitting 29 = .ok (.ifCond .eq 6, 3) := by decide +kernel
theorem d_q_Kind_fitting_32 : decode b_q_Kind_fitting 32 = .ok (.aload 5, 2) := by decide +kernel
theorem d_q_Kind_fitting_34 : decode b_q_Kind_fitting 34 = .ok (.areturn, 1) := by decide +kernel
theorem d_q_Kind_fitting_35 : decode b_q_Kind_fitting 35 = .ok (.iinc 4 1, 3) := by decide +kernel
theorem d_q_Kind_fitting_38 : decode b_q_Kind_fitting 38 = .ok (.goto (-28), 3) := by decide +kernel
theorem d_q_Kind_fitting_41 : decode b_q_Kind_fitting 41 = .ok (.getstatic 12, 3) := by decide +kernel
theorem d_q_Kind_fitting_44 : decode b_q_Kind_fitting 44 = .ok (.areturn, 1) := by decide +kernel
end
section
variable {p : Program} {l : Launch} {e : Env} {R : Room} {s : State} {m : MethodId} {args : Array Value} {below : List Frame} {meth : Method} {c : Code} {cells slots : Nat} {Q : State → Prop} {A : Nat → Prop} {H0 : Heap} {D : va_G}
set_option maxHeartbeats 1000000 in
set_option maxRecDepth 100000 in
theorem bd_q_Kind_fitting_0 (cI cC : ClassId) (sa : Nat → Nat) (qt : Nat) (ty : Nat → Nat) (n : Nat) (hn0 : n ≤ 45) (hty : ∀ j, j < n → ty j < 127) (hd0 : ∀ j, j < n → (0 ≤ plI (ty j) ∧ plI (ty j) ≤ nI 9)) (S : CallFix p m c b_q_Kind_fitting 6 s args (cd_q_Kind_fitting :: WS) R_Kind) (hRf : 6 ≤ R.frames) (hRl : 136 ≤ R.locals) (hRc : cells ≤ R.cells ∧ slots ≤ R.slots) (hK : va_K D classes [(cI, .int), (cC, .char)] s) (hSt : SB sa A s s.heap) (kr : ∀ (pc : Nat) (ls : Array Slot) (H : Heap) (locs : List Loc), decode b_q_Kind_fitting pc = .ok (.areturn, 1) → va_P D classes [(qt, .inl (cC, 45, .inl (fun j => nI (ty j))))] H → va_S A s.heap H locs → W p l e R s m args below meth c H locs cells slots Q (F0 m pc ls [.ref (sa 7)])) : ∀ (ls : Array Slot) (H : Heap) (locs : List Loc), lv_has ls 6 [(0, .ref qt), (1, .int (nI n))] → va_P D classes [(qt, .inl (cC, 45, .inl (fun j => nI (ty j))))] H → va_S A s.heap H locs → W p l e R s m args below meth c H locs cells slots Q (F0 m 0 ls []) := by
  obtain ⟨hx, hb, hml, hown, hts⟩ := id S
  intro ls H locs hl hP hS
  refine n_gets hx hb hts (kk_z hSt) hS hown kw_385 d_q_Kind_fitting_0 ?_
  refine lv_astore_n hx hb d_q_Kind_fitting_3 rfl hl (Nat.le_of_ble_eq_true rfl) rfl (fun ls hl => ?_)
  have hl : lv_has ls 6 [(2, .ref (sa 6)), (0, .ref qt), (1, .int (nI n))] := hl
  refine lv_aload_n hx hb d_q_Kind_fitting_4 rfl (lv_at hl 0 rfl) ?_
  refine va_tlen (v := nI 3) hx hb (kk_t hSt) hS rfl d_q_Kind_fitting_5 ?_
  refine lv_istore_n hx hb d_q_Kind_fitting_6 rfl hl (Nat.le_of_ble_eq_true rfl) rfl (fun ls hl => ?_)
  have hl : lv_has ls 6 [(3, .int (nI 3)), (2, .ref (sa 6)), (0, .ref qt), (1, .int (nI n))] := hl
  refine lv_iconst (v := nI 0) hx hb d_q_Kind_fitting_7 (by decide) ?_
  refine lv_istore hx hb d_q_Kind_fitting_8 hl (Nat.le_of_ble_eq_true rfl) rfl (fun ls hl => ?_)
  have hl : lv_has ls 6 [(4, .int (nI 0)), (3, .int (nI 3)), (2, .ref (sa 6)), (0, .ref qt), (1, .int (nI n))] := hl
  refine lv_iload hx hb d_q_Kind_fitting_10 (lv_at hl 0 rfl) ?_
  refine lv_iload_n hx hb d_q_Kind_fitting_12 rfl (lv_at hl 1 rfl) ?_
  refine n_icmp_ge hx hb d_q_Kind_fitting_13 (tgt := 41) rfl (by omega) (by omega) (fun g13 => absurd g13 (by decide)) (fun g13 => ?_)
  refine lv_aload_n hx hb d_q_Kind_fitting_16 rfl (lv_at hl 2 rfl) ?_
  refine lv_iload hx hb d_q_Kind_fitting_17 (lv_at hl 0 rfl) ?_
  refine vb_tq (v := .ref (sa 7)) hx hb (kk_t hSt) hS (vp_in_nI (show 0 < 3 by decide) (by decide)) rfl d_q_Kind_fitting_19 ?_
  refine lv_astore hx hb d_q_Kind_fitting_20 hl (Nat.le_of_ble_eq_true rfl) rfl (fun ls hl => ?_)
  have hl : lv_has ls 6 [(5, .ref (sa 7)), (4, .int (nI 0)), (3, .int (nI 3)), (2, .ref (sa 6)), (0, .ref qt), (1, .int (nI n))] := hl
  refine lv_aload hx hb d_q_Kind_fitting_22 (lv_at hl 0 rfl) ?_
  refine lv_aload_n hx hb d_q_Kind_fitting_24 rfl (lv_at hl 4 rfl) ?_
  refine lv_iload_n hx hb d_q_Kind_fitting_25 rfl (lv_at hl 5 rfl) ?_
  refine q_readVr (n := 2) (As := [.ref qt, .int (nI n)]) (rest := []) (wc := [(qt, .inl (cC, 45, .inl (fun j => nI (ty j))))]) S (c_q_Kind_hasAll_0_yes l D cI cC sa qt ty n hn0 hty hd0) hSt hK hP (o_recv (ko_0 hSt) hS) [0] rfl (q_goodV kw_387 kw_389 ks_4 kw_16 kw_391) (by decide +kernel) rfl rfl rfl ⟨Nat.le_trans (Nat.le_of_ble_eq_true rfl) hRf, Nat.le_trans (Nat.le_of_ble_eq_true rfl) hRl⟩ rfl hl.1 rfl (Nat.le_of_ble_eq_true rfl) d_q_Kind_fitting_26 hRc hS (fun H locs hP hS => ?_)
  refine n_if_eq hx hb d_q_Kind_fitting_29 (tgt := 35) rfl (by omega) (fun g29 => absurd g29 (by decide)) (fun g29 => ?_)
  refine lv_aload hx hb d_q_Kind_fitting_32 (lv_at hl 0 rfl) ?_
  exact kr _ ls H locs d_q_Kind_fitting_34 hP hS
set_option maxHeartbeats 1000000 in
set_option maxRecDepth 100000 in
theorem c_q_Kind_fitting_0 (l : Launch) (D : va_G) (cI cC : ClassId) (sa : Nat → Nat) (qt : Nat) (ty : Nat → Nat) (n : Nat) (hn0 : n ≤ 45) (hty : ∀ j, j < n → ty j < 127) (hd0 : ∀ j, j < n → (0 ≤ plI (ty j) ∧ plI (ty j) ≤ nI 9)) : Met l y_q_Kind_fitting (cd_q_Kind_fitting :: WS) { frames := 6, cells := 0, slots := 0, locals := 136 } (va_Pc [.ref qt, .int (nI n)] (srP sa D [(qt, .inl (cC, 45, .inl (fun j => nI (ty j))))] [(cI, .int), (cC, .char)])) (pQq (some (sa 7))) 0 0 noA := by
  refine Met.ofW (cc := b_q_Kind_fitting) (maxL := 6) (ret := (some (.object "SquareCodes$Kind"))) (by decide) rfl ?_
  intro p e s m args below meth c s₁ B hml hv0
  obtain ⟨rfl, ⟨hP, hK⟩, hSt⟩ := hv0
  have hts := atoms_spec (ws := cd_q_Kind_fitting :: WS) B.pre
  have hown : s.vm.findClass R_Kind = some m.cls := findClass_of_methodNamed B.named
  have hlocks := B.notSynchronized
  have hl := lv_entry ([.ref qt, .int (nI n)]) (n := 6) (Nat.le_of_ble_eq_true rfl)
  rw [lg_entry_eq]
  generalize (lg_sl ([.ref qt, .int (nI n)]) ++ List.replicate (6 - (lg_sl ([.ref qt, .int (nI n)])).length) Slot.unset).toArray = ls at hl ⊢
  refine bd_q_Kind_fitting_0 cI cC sa qt ty n hn0 hty hd0 ⟨B.exec, B.bytes, hml, hown, hts⟩ (Nat.le_refl _) (Nat.le_refl _) ⟨Nat.le_refl _, Nat.le_refl _⟩ hK hSt (fun pc ls H locs hd hP hS => ?_) ls _ _ hl hP (va_S.rf (A := noA))
  exact W.aret B.exec B.bytes B.returns (Or.inl ⟨_, rfl⟩) (Or.inr ⟨_, rfl⟩) (fun t ht _ => ⟨⟨some _, (), rfl, rfl, trivial⟩, hS.F ht⟩) hS.2.2 hd
end
section
variable {p : Program} {l : Launch} {e : Env} {R : Room} {s : State} {m : MethodId} {args : Array Value} {below : List Frame} {meth : Method} {c : Code} {cells slots : Nat} {Q : State → Prop} {A : Nat → Prop} {H0 : Heap} {D : va_G}
set_option maxHeartbeats 1000000 in
set_option maxRecDepth 100000 in
theorem bd_q_Kind_fitting_1 (cI cC : ClassId) (sa : Nat → Nat) (qt : Nat) (ty : Nat → Nat) (n x0 : Nat) (hn0 : n ≤ 45) (hty : ∀ j, j < n → ty j < 127) (hd1 : x0 < n) (hd2 : ¬ (0 ≤ plI (ty x0) ∧ plI (ty x0) ≤ nI 9)) (hd3 : ∀ j, j < x0 → (0 ≤ plI (ty j) ∧ plI (ty j) ≤ nI 9)) (hp0 : ∀ j, j < n → (0 ≤ plI (ty j))) (S : CallFix p m c b_q_Kind_fitting 6 s args (cd_q_Kind_fitting :: WS) R_Kind) (hRf : 6 ≤ R.frames) (hRl : 136 ≤ R.locals) (hRc : cells ≤ R.cells ∧ slots ≤ R.slots) (hK : va_K D classes [(cI, .int), (cC, .char)] s) (hSt : SB sa A s s.heap) (kr : ∀ (pc : Nat) (ls : Array Slot) (H : Heap) (locs : List Loc), decode b_q_Kind_fitting pc = .ok (.areturn, 1) → va_P D classes [(qt, .inl (cC, 45, .inl (fun j => nI (ty j))))] H → va_S A s.heap H locs → W p l e R s m args below meth c H locs cells slots Q (F0 m pc ls [.ref (sa 8)])) : ∀ (ls : Array Slot) (H : Heap) (locs : List Loc), lv_has ls 6 [(0, .ref qt), (1, .int (nI n))] → va_P D classes [(qt, .inl (cC, 45, .inl (fun j => nI (ty j))))] H → va_S A s.heap H locs → W p l e R s m args below meth c H locs cells slots Q (F0 m 0 ls []) := by
  obtain ⟨hx, hb, hml, hown, hts⟩ := id S
  intro ls H locs hl hP hS
  refine n_gets hx hb hts (kk_z hSt) hS hown kw_385 d_q_Kind_fitting_0 ?_
  refine lv_astore_n hx hb d_q_Kind_fitting_3 rfl hl (Nat.le_of_ble_eq_true rfl) rfl (fun ls hl => ?_)
  have hl : lv_has ls 6 [(2, .ref (sa 6)), (0, .ref qt), (1, .int (nI n))] := hl
  refine lv_aload_n hx hb d_q_Kind_fitting_4 rfl (lv_at hl 0 rfl) ?_
  refine va_tlen (v := nI 3) hx hb (kk_t hSt) hS rfl d_q_Kind_fitting_5 ?_
  refine lv_istore_n hx hb d_q_Kind_fitting_6 rfl hl (Nat.le_of_ble_eq_true rfl) rfl (fun ls hl => ?_)
  have hl : lv_has ls 6 [(3, .int (nI 3)), (2, .ref (sa 6)), (0, .ref qt), (1, .int (nI n))] := hl
  refine lv_iconst (v := nI 0) hx hb d_q_Kind_fitting_7 (by decide) ?_
  refine lv_istore hx hb d_q_Kind_fitting_8 hl (Nat.le_of_ble_eq_true rfl) rfl (fun ls hl => ?_)
  have hl : lv_has ls 6 [(4, .int (nI 0)), (3, .int (nI 3)), (2, .ref (sa 6)), (0, .ref qt), (1, .int (nI n))] := hl
  refine lv_iload hx hb d_q_Kind_fitting_10 (lv_at hl 0 rfl) ?_
  refine lv_iload_n hx hb d_q_Kind_fitting_12 rfl (lv_at hl 1 rfl) ?_
  refine n_icmp_ge hx hb d_q_Kind_fitting_13 (tgt := 41) rfl (by omega) (by omega) (fun g13 => absurd g13 (by decide)) (fun g13 => ?_)
  refine lv_aload_n hx hb d_q_Kind_fitting_16 rfl (lv_at hl 2 rfl) ?_
  refine lv_iload hx hb d_q_Kind_fitting_17 (lv_at hl 0 rfl) ?_
  refine vb_tq (v := .ref (sa 7)) hx hb (kk_t hSt) hS (vp_in_nI (show 0 < 3 by decide) (by decide)) rfl d_q_Kind_fitting_19 ?_
  refine lv_astore hx hb d_q_Kind_fitting_20 hl (Nat.le_of_ble_eq_true rfl) rfl (fun ls hl => ?_)
  have hl : lv_has ls 6 [(5, .ref (sa 7)), (4, .int (nI 0)), (3, .int (nI 3)), (2, .ref (sa 6)), (0, .ref qt), (1, .int (nI n))] := hl
  refine lv_aload hx hb d_q_Kind_fitting_22 (lv_at hl 0 rfl) ?_
  refine lv_aload_n hx hb d_q_Kind_fitting_24 rfl (lv_at hl 4 rfl) ?_
  refine lv_iload_n hx hb d_q_Kind_fitting_25 rfl (lv_at hl 5 rfl) ?_
  refine q_readVr (n := 2) (As := [.ref qt, .int (nI n)]) (rest := []) (wc := [(qt, .inl (cC, 45, .inl (fun j => nI (ty j))))]) S (c_q_Kind_hasAll_0_no l D cI cC sa qt ty n x0 hn0 hty hd1 hd2 hd3) hSt hK hP (o_recv (ko_0 hSt) hS) [0] rfl (q_goodV kw_387 kw_389 ks_4 kw_16 kw_391) (by decide +kernel) rfl rfl rfl ⟨Nat.le_trans (Nat.le_of_ble_eq_true rfl) hRf, Nat.le_trans (Nat.le_of_ble_eq_true rfl) hRl⟩ rfl hl.1 rfl (Nat.le_of_ble_eq_true rfl) d_q_Kind_fitting_26 hRc hS (fun H locs hP hS => ?_)
  refine n_if_eq hx hb d_q_Kind_fitting_29 (tgt := 35) rfl (by omega) (fun g29 => ?_) (fun g29 => absurd g29 (by decide))
  refine lv_iinc (k := 1) (v := nI 1) hx hb d_q_Kind_fitting_35 hl rfl (nx_inc 0 1) (Nat.le_of_ble_eq_true rfl) rfl (fun ls hl => ?_)
  have hl : lv_has ls 6 [(4, .int (nI 1)), (5, .ref (sa 7)), (3, .int (nI 3)), (2, .ref (sa 6)), (0, .ref qt), (1, .int (nI n))] := hl
  refine lv_goto hx hb d_q_Kind_fitting_38 (tgt := 10) rfl ?_
  refine lv_iload hx hb d_q_Kind_fitting_10 (lv_at hl 0 rfl) ?_
  refine lv_iload_n hx hb d_q_Kind_fitting_12 rfl (lv_at hl 2 rfl) ?_
  refine n_icmp_ge hx hb d_q_Kind_fitting_13 (tgt := 41) rfl (by omega) (by omega) (fun g13 => absurd g13 (by decide)) (fun g13 => ?_)
  refine lv_aload_n hx hb d_q_Kind_fitting_16 rfl (lv_at hl 3 rfl) ?_
  refine lv_iload hx hb d_q_Kind_fitting_17 (lv_at hl 0 rfl) ?_
  refine vb_tq (v := .ref (sa 8)) hx hb (kk_t hSt) hS (vp_in_nI (show 1 < 3 by decide) (by decide)) rfl d_q_Kind_fitting_19 ?_
  refine lv_astore hx hb d_q_Kind_fitting_20 hl (Nat.le_of_ble_eq_true rfl) rfl (fun ls hl => ?_)
  have hl : lv_has ls 6 [(5, .ref (sa 8)), (4, .int (nI 1)), (3, .int (nI 3)), (2, .ref (sa 6)), (0, .ref qt), (1, .int (nI n))] := hl
  refine lv_aload hx hb d_q_Kind_fitting_22 (lv_at hl 0 rfl) ?_
  refine lv_aload_n hx hb d_q_Kind_fitting_24 rfl (lv_at hl 4 rfl) ?_
  refine lv_iload_n hx hb d_q_Kind_fitting_25 rfl (lv_at hl 5 rfl) ?_
  refine q_readVr (n := 2) (As := [.ref qt, .int (nI n)]) (rest := []) (wc := [(qt, .inl (cC, 45, .inl (fun j => nI (ty j))))]) S (c_q_Kind_hasAll_1_yes l D cI cC sa qt ty n hn0 hty hp0) hSt hK hP (o_recv (ko_1 hSt) hS) [0] rfl (q_goodV kw_387 kw_389 ks_4 kw_16 kw_391) (by decide +kernel) rfl rfl rfl ⟨Nat.le_trans (Nat.le_of_ble_eq_true rfl) hRf, Nat.le_trans (Nat.le_of_ble_eq_true rfl) hRl⟩ rfl hl.1 rfl (Nat.le_of_ble_eq_true rfl) d_q_Kind_fitting_26 hRc hS (fun H locs hP hS => ?_)
  refine n_if_eq hx hb d_q_Kind_fitting_29 (tgt := 35) rfl (by omega) (fun g29 => absurd g29 (by decide)) (fun g29 => ?_)
  refine lv_aload hx hb d_q_Kind_fitting_32 (lv_at hl 0 rfl) ?_
  exact kr _ ls H locs d_q_Kind_fitting_34 hP hS
set_option maxHeartbeats 1000000 in
set_option maxRecDepth 100000 in
theorem c_q_Kind_fitting_1 (l : Launch) (D : va_G) (cI cC : ClassId) (sa : Nat → Nat) (qt : Nat) (ty : Nat → Nat) (n x0 : Nat) (hn0 : n ≤ 45) (hty : ∀ j, j < n → ty j < 127) (hd1 : x0 < n) (hd2 : ¬ (0 ≤ plI (ty x0) ∧ plI (ty x0) ≤ nI 9)) (hd3 : ∀ j, j < x0 → (0 ≤ plI (ty j) ∧ plI (ty j) ≤ nI 9)) (hp0 : ∀ j, j < n → (0 ≤ plI (ty j))) : Met l y_q_Kind_fitting (cd_q_Kind_fitting :: WS) { frames := 6, cells := 0, slots := 0, locals := 136 } (va_Pc [.ref qt, .int (nI n)] (srP sa D [(qt, .inl (cC, 45, .inl (fun j => nI (ty j))))] [(cI, .int), (cC, .char)])) (pQq (some (sa 8))) 0 0 noA := by
  refine Met.ofW (cc := b_q_Kind_fitting) (maxL := 6) (ret := (some (.object "SquareCodes$Kind"))) (by decide) rfl ?_
  intro p e s m args below meth c s₁ B hml hv0
  obtain ⟨rfl, ⟨hP, hK⟩, hSt⟩ := hv0
  have hts := atoms_spec (ws := cd_q_Kind_fitting :: WS) B.pre
  have hown : s.vm.findClass R_Kind = some m.cls := findClass_of_methodNamed B.named
  have hlocks := B.notSynchronized
  have hl := lv_entry ([.ref qt, .int (nI n)]) (n := 6) (Nat.le_of_ble_eq_true rfl)
  rw [lg_entry_eq]
  generalize (lg_sl ([.ref qt, .int (nI n)]) ++ List.replicate (6 - (lg_sl ([.ref qt, .int (nI n)])).length) Slot.unset).toArray = ls at hl ⊢
  refine bd_q_Kind_fitting_1 cI cC sa qt ty n x0 hn0 hty hd1 hd2 hd3 hp0 ⟨B.exec, B.bytes, hml, hown, hts⟩ (Nat.le_refl _) (Nat.le_refl _) ⟨Nat.le_refl _, Nat.le_refl _⟩ hK hSt (fun pc ls H locs hd hP hS => ?_) ls _ _ hl hP (va_S.rf (A := noA))
  exact W.aret B.exec B.bytes B.returns (Or.inl ⟨_, rfl⟩) (Or.inr ⟨_, rfl⟩) (fun t ht _ => ⟨⟨some _, (), rfl, rfl, trivial⟩, hS.F ht⟩) hS.2.2 hd
end
section
variable {p : Program} {l : Launch} {e : Env} {R : Room} {s : State} {m : MethodId} {args : Array Value} {below : List Frame} {meth : Method} {c : Code} {cells slots : Nat} {Q : State → Prop} {A : Nat → Prop} {H0 : Heap} {D : va_G}
set_option maxHeartbeats 1000000 in
set_option maxRecDepth 100000 in
theorem bd_q_Kind_fitting_2 (cI cC : ClassId) (sa : Nat → Nat) (qt : Nat) (ty : Nat → Nat) (n x0 x2 : Nat) (hn0 : n ≤ 45) (hty : ∀ j, j < n → ty j < 127) (hd1 : x0 < n) (hd2 : ¬ (0 ≤ plI (ty x0) ∧ plI (ty x0) ≤ nI 9)) (hd3 : ∀ j, j < x0 → (0 ≤ plI (ty j) ∧ plI (ty j) ≤ nI 9)) (hp1 : x2 < n) (hp2 : ¬ (0 ≤ plI (ty x2))) (hp3 : ∀ j, j < x2 → (0 ≤ plI (ty j))) (S : CallFix p m c b_q_Kind_fitting 6 s args (cd_q_Kind_fitting :: WS) R_Kind) (hRf : 6 ≤ R.frames) (hRl : 136 ≤ R.locals) (hRc : cells ≤ R.cells ∧ slots ≤ R.slots) (hK : va_K D classes [(cI, .int), (cC, .char)] s) (hSt : SB sa A s s.heap) (kr : ∀ (pc : Nat) (ls : Array Slot) (H : Heap) (locs : List Loc), decode b_q_Kind_fitting pc = .ok (.areturn, 1) → va_P D classes [(qt, .inl (cC, 45, .inl (fun j => nI (ty j))))] H → va_S A s.heap H locs → W p l e R s m args below meth c H locs cells slots Q (F0 m pc ls [.ref (sa 9)])) : ∀ (ls : Array Slot) (H : Heap) (locs : List Loc), lv_has ls 6 [(0, .ref qt), (1, .int (nI n))] → va_P D classes [(qt, .inl (cC, 45, .inl (fun j => nI (ty j))))] H → va_S A s.heap H locs → W p l e R s m args below meth c H locs cells slots Q (F0 m 0 ls []) := by
  obtain ⟨hx, hb, hml, hown, hts⟩ := id S
  intro ls H locs hl hP hS
  refine n_gets hx hb hts (kk_z hSt) hS hown kw_385 d_q_Kind_fitting_0 ?_
  refine lv_astore_n hx hb d_q_Kind_fitting_3 rfl hl (Nat.le_of_ble_eq_true rfl) rfl (fun ls hl => ?_)
  have hl : lv_has ls 6 [(2, .ref (sa 6)), (0, .ref qt), (1, .int (nI n))] := hl
  refine lv_aload_n hx hb d_q_Kind_fitting_4 rfl (lv_at hl 0 rfl) ?_
  refine va_tlen (v := nI 3) hx hb (kk_t hSt) hS rfl d_q_Kind_fitting_5 ?_
  refine lv_istore_n hx hb d_q_Kind_fitting_6 rfl hl (Nat.le_of_ble_eq_true rfl) rfl (fun ls hl => ?_)
  have hl : lv_has ls 6 [(3, .int (nI 3)), (2, .ref (sa 6)), (0, .ref qt), (1, .int (nI n))] := hl
  refine lv_iconst (v := nI 0) hx hb d_q_Kind_fitting_7 (by decide) ?_
  refine lv_istore hx hb d_q_Kind_fitting_8 hl (Nat.le_of_ble_eq_true rfl) rfl (fun ls hl => ?_)
  have hl : lv_has ls 6 [(4, .int (nI 0)), (3, .int (nI 3)), (2, .ref (sa 6)), (0, .ref qt), (1, .int (nI n))] := hl
  refine lv_iload hx hb d_q_Kind_fitting_10 (lv_at hl 0 rfl) ?_
  refine lv_iload_n hx hb d_q_Kind_fitting_12 rfl (lv_at hl 1 rfl) ?_
  refine n_icmp_ge hx hb d_q_Kind_fitting_13 (tgt := 41) rfl (by omega) (by omega) (fun g13 => absurd g13 (by decide)) (fun g13 => ?_)
  refine lv_aload_n hx hb d_q_Kind_fitting_16 rfl (lv_at hl 2 rfl) ?_
  refine lv_iload hx hb d_q_Kind_fitting_17 (lv_at hl 0 rfl) ?_
  refine vb_tq (v := .ref (sa 7)) hx hb (kk_t hSt) hS (vp_in_nI (show 0 < 3 by decide) (by decide)) rfl d_q_Kind_fitting_19 ?_
  refine lv_astore hx hb d_q_Kind_fitting_20 hl (Nat.le_of_ble_eq_true rfl) rfl (fun ls hl => ?_)
  have hl : lv_has ls 6 [(5, .ref (sa 7)), (4, .int (nI 0)), (3, .int (nI 3)), (2, .ref (sa 6)), (0, .ref qt), (1, .int (nI n))] := hl
  refine lv_aload hx hb d_q_Kind_fitting_22 (lv_at hl 0 rfl) ?_
  refine lv_aload_n hx hb d_q_Kind_fitting_24 rfl (lv_at hl 4 rfl) ?_
  refine lv_iload_n hx hb d_q_Kind_fitting_25 rfl (lv_at hl 5 rfl) ?_
  refine q_readVr (n := 2) (As := [.ref qt, .int (nI n)]) (rest := []) (wc := [(qt, .inl (cC, 45, .inl (fun j => nI (ty j))))]) S (c_q_Kind_hasAll_0_no l D cI cC sa qt ty n x0 hn0 hty hd1 hd2 hd3) hSt hK hP (o_recv (ko_0 hSt) hS) [0] rfl (q_goodV kw_387 kw_389 ks_4 kw_16 kw_391) (by decide +kernel) rfl rfl rfl ⟨Nat.le_trans (Nat.le_of_ble_eq_true rfl) hRf, Nat.le_trans (Nat.le_of_ble_eq_true rfl) hRl⟩ rfl hl.1 rfl (Nat.le_of_ble_eq_true rfl) d_q_Kind_fitting_26 hRc hS (fun H locs hP hS => ?_)
  refine n_if_eq hx hb d_q_Kind_fitting_29 (tgt := 35) rfl (by omega) (fun g29 => ?_) (fun g29 => absurd g29 (by decide))
  refine lv_iinc (k := 1) (v := nI 1) hx hb d_q_Kind_fitting_35 hl rfl (nx_inc 0 1) (Nat.le_of_ble_eq_true rfl) rfl (fun ls hl => ?_)
  have hl : lv_has ls 6 [(4, .int (nI 1)), (5, .ref (sa 7)), (3, .int (nI 3)), (2, .ref (sa 6)), (0, .ref qt), (1, .int (nI n))] := hl
  refine lv_goto hx hb d_q_Kind_fitting_38 (tgt := 10) rfl ?_
  refine lv_iload hx hb d_q_Kind_fitting_10 (lv_at hl 0 rfl) ?_
  refine lv_iload_n hx hb d_q_Kind_fitting_12 rfl (lv_at hl 2 rfl) ?_
  refine n_icmp_ge hx hb d_q_Kind_fitting_13 (tgt := 41) rfl (by omega) (by omega) (fun g13 => absurd g13 (by decide)) (fun g13 => ?_)
  refine lv_aload_n hx hb d_q_Kind_fitting_16 rfl (lv_at hl 3 rfl) ?_
  refine lv_iload hx hb d_q_Kind_fitting_17 (lv_at hl 0 rfl) ?_
  refine vb_tq (v := .ref (sa 8)) hx hb (kk_t hSt) hS (vp_in_nI (show 1 < 3 by decide) (by decide)) rfl d_q_Kind_fitting_19 ?_
  refine lv_astore hx hb d_q_Kind_fitting_20 hl (Nat.le_of_ble_eq_true rfl) rfl (fun ls hl => ?_)
  have hl : lv_has ls 6 [(5, .ref (sa 8)), (4, .int (nI 1)), (3, .int (nI 3)), (2, .ref (sa 6)), (0, .ref qt), (1, .int (nI n))] := hl
  refine lv_aload hx hb d_q_Kind_fitting_22 (lv_at hl 0 rfl) ?_
  refine lv_aload_n hx hb d_q_Kind_fitting_24 rfl (lv_at hl 4 rfl) ?_
  refine lv_iload_n hx hb d_q_Kind_fitting_25 rfl (lv_at hl 5 rfl) ?_
  refine q_readVr (n := 2) (As := [.ref qt, .int (nI n)]) (rest := []) (wc := [(qt, .inl (cC, 45, .inl (fun j => nI (ty j))))]) S (c_q_Kind_hasAll_1_no l D cI cC sa qt ty n x2 hn0 hty hp1 hp2 hp3) hSt hK hP (o_recv (ko_1 hSt) hS) [0] rfl (q_goodV kw_387 kw_389 ks_4 kw_16 kw_391) (by decide +kernel) rfl rfl rfl ⟨Nat.le_trans (Nat.le_of_ble_eq_true rfl) hRf, Nat.le_trans (Nat.le_of_ble_eq_true rfl) hRl⟩ rfl hl.1 rfl (Nat.le_of_ble_eq_true rfl) d_q_Kind_fitting_26 hRc hS (fun H locs hP hS => ?_)
  refine n_if_eq hx hb d_q_Kind_fitting_29 (tgt := 35) rfl (by omega) (fun g29 => ?_) (fun g29 => absurd g29 (by decide))
  refine lv_iinc (k := 1) (v := nI 2) hx hb d_q_Kind_fitting_35 hl rfl (nx_inc 1 1) (Nat.le_of_ble_eq_true rfl) rfl (fun ls hl => ?_)
  have hl : lv_has ls 6 [(4, .int (nI 2)), (5, .ref (sa 8)), (3, .int (nI 3)), (2, .ref (sa 6)), (0, .ref qt), (1, .int (nI n))] := hl
  refine lv_goto hx hb d_q_Kind_fitting_38 (tgt := 10) rfl ?_
  refine lv_iload hx hb d_q_Kind_fitting_10 (lv_at hl 0 rfl) ?_
  refine lv_iload_n hx hb d_q_Kind_fitting_12 rfl (lv_at hl 2 rfl) ?_
  refine n_icmp_ge hx hb d_q_Kind_fitting_13 (tgt := 41) rfl (by omega) (by omega) (fun g13 => absurd g13 (by decide)) (fun g13 => ?_)
  refine lv_aload_n hx hb d_q_Kind_fitting_16 rfl (lv_at hl 3 rfl) ?_
  refine lv_iload hx hb d_q_Kind_fitting_17 (lv_at hl 0 rfl) ?_
  refine vb_tq (v := .ref (sa 9)) hx hb (kk_t hSt) hS (vp_in_nI (show 2 < 3 by decide) (by decide)) rfl d_q_Kind_fitting_19 ?_
  refine lv_astore hx hb d_q_Kind_fitting_20 hl (Nat.le_of_ble_eq_true rfl) rfl (fun ls hl => ?_)
  have hl : lv_has ls 6 [(5, .ref (sa 9)), (4, .int (nI 2)), (3, .int (nI 3)), (2, .ref (sa 6)), (0, .ref qt), (1, .int (nI n))] := hl
  refine lv_aload hx hb d_q_Kind_fitting_22 (lv_at hl 0 rfl) ?_
  refine lv_aload_n hx hb d_q_Kind_fitting_24 rfl (lv_at hl 4 rfl) ?_
  refine lv_iload_n hx hb d_q_Kind_fitting_25 rfl (lv_at hl 5 rfl) ?_
  refine q_readVr (n := 2) (As := [.ref qt, .int (nI n)]) (rest := []) (wc := [(qt, .inl (cC, 45, .inl (fun j => nI (ty j))))]) S (c_q_Kind_hasAll_2_yes l D cI cC sa qt ty n hn0 hty) hSt hK hP (o_recv (ko_2 hSt) hS) [0] rfl (q_goodV kw_387 kw_389 ks_4 kw_16 kw_391) (by decide +kernel) rfl rfl rfl ⟨Nat.le_trans (Nat.le_of_ble_eq_true rfl) hRf, Nat.le_trans (Nat.le_of_ble_eq_true rfl) hRl⟩ rfl hl.1 rfl (Nat.le_of_ble_eq_true rfl) d_q_Kind_fitting_26 hRc hS (fun H locs hP hS => ?_)
  refine n_if_eq hx hb d_q_Kind_fitting_29 (tgt := 35) rfl (by omega) (fun g29 => absurd g29 (by decide)) (fun g29 => ?_)
  refine lv_aload hx hb d_q_Kind_fitting_32 (lv_at hl 0 rfl) ?_
  exact kr _ ls H locs d_q_Kind_fitting_34 hP hS
set_option maxHeartbeats 1000000 in
set_option maxRecDepth 100000 in
theorem c_q_Kind_fitting_2 (l : Launch) (D : va_G) (cI cC : ClassId) (sa : Nat → Nat) (qt : Nat) (ty : Nat → Nat) (n x0 x2 : Nat) (hn0 : n ≤ 45) (hty : ∀ j, j < n → ty j < 127) (hd1 : x0 < n) (hd2 : ¬ (0 ≤ plI (ty x0) ∧ plI (ty x0) ≤ nI 9)) (hd3 : ∀ j, j < x0 → (0 ≤ plI (ty j) ∧ plI (ty j) ≤ nI 9)) (hp1 : x2 < n) (hp2 : ¬ (0 ≤ plI (ty x2))) (hp3 : ∀ j, j < x2 → (0 ≤ plI (ty j))) : Met l y_q_Kind_fitting (cd_q_Kind_fitting :: WS) { frames := 6, cells := 0, slots := 0, locals := 136 } (va_Pc [.ref qt, .int (nI n)] (srP sa D [(qt, .inl (cC, 45, .inl (fun j => nI (ty j))))] [(cI, .int), (cC, .char)])) (pQq (some (sa 9))) 0 0 noA := by
  refine Met.ofW (cc := b_q_Kind_fitting) (maxL := 6) (ret := (some (.object "SquareCodes$Kind"))) (by decide) rfl ?_
  intro p e s m args below meth c s₁ B hml hv0
  obtain ⟨rfl, ⟨hP, hK⟩, hSt⟩ := hv0
  have hts := atoms_spec (ws := cd_q_Kind_fitting :: WS) B.pre
  have hown : s.vm.findClass R_Kind = some m.cls := findClass_of_methodNamed B.named
  have hlocks := B.notSynchronized
  have hl := lv_entry ([.ref qt, .int (nI n)]) (n := 6) (Nat.le_of_ble_eq_true rfl)
  rw [lg_entry_eq]
  generalize (lg_sl ([.ref qt, .int (nI n)]) ++ List.replicate (6 - (lg_sl ([.ref qt, .int (nI n)])).length) Slot.unset).toArray = ls at hl ⊢
  refine bd_q_Kind_fitting_2 cI cC sa qt ty n x0 x2 hn0 hty hd1 hd2 hd3 hp1 hp2 hp3 ⟨B.exec, B.bytes, hml, hown, hts⟩ (Nat.le_refl _) (Nat.le_refl _) ⟨Nat.le_refl _, Nat.le_refl _⟩ hK hSt (fun pc ls H locs hd hP hS => ?_) ls _ _ hl hP (va_S.rf (A := noA))
  exact W.aret B.exec B.bytes B.returns (Or.inl ⟨_, rfl⟩) (Or.inr ⟨_, rfl⟩) (fun t ht _ => ⟨⟨some _, (), rfl, rfl, trivial⟩, hS.F ht⟩) hS.2.2 hd
end
