theorem kw_109 : (Jvm.Cond.fieldLink "SquareCodes$Checks" (18 : Nat) "SquareCodes$Checks" "generator" "[I") ∈ WS := WS_tbl 109 (by decide +kernel) rfl
theorem kw_108 : (Jvm.Cond.fieldLink "SquareCodes$Checks" (12 : Nat) "SquareCodes$Checks" "field" "LSquareCodes$Field;") ∈ WS := WS_tbl 108 (by decide +kernel) rfl
theorem kw_533 : (Jvm.Cond.methodLink "SquareCodes$Checks" (60 : Nat) ({ cls := "SquareCodes$Field", name := "power", desc := "(I)I" } : Jvm.MethodName)) ∈ WS := WS_tbl 533 (by decide +kernel) rfl
theorem kw_534 : (Jvm.Cond.instanceMethod ({ cls := "SquareCodes$Field", name := "power", desc := "(I)I" } : Jvm.MethodName)) ∈ WS := WS_tbl 534 (by decide +kernel) rfl
theorem kw_535 : (Jvm.Cond.selects "SquareCodes$Field" ({ cls := "SquareCodes$Field", name := "power", desc := "(I)I" } : Jvm.MethodName) ({ cls := "SquareCodes$Field", name := "power", desc := "(I)I" } : Jvm.MethodName)) ∈ WS := WS_tbl 535 (by decide +kernel) rfl
theorem kw_5 : (Jvm.Cond.initialized "SquareCodes$Field") ∈ WS := WS_tbl 5 (by decide +kernel) rfl
set_option maxRecDepth 1000000 in
theorem kw_536 : cd_q_Field_power ∈ WS := WS_tbl 536 rfl rfl
theorem kw_540 : (Jvm.Cond.methodLink "SquareCodes$Checks" (56 : Nat) ({ cls := "SquareCodes$Field", name := "product", desc := "(II)I" } : Jvm.MethodName)) ∈ WS := WS_tbl 540 (by decide +kernel) rfl
theorem kw_541 : (Jvm.Cond.instanceMethod ({ cls := "SquareCodes$Field", name := "product", desc := "(II)I" } : Jvm.MethodName)) ∈ WS := WS_tbl 541 (by decide +kernel) rfl
theorem kw_542 : (Jvm.Cond.selects "SquareCodes$Field" ({ cls := "SquareCodes$Field", name := "product", desc := "(II)I" } : Jvm.MethodName) ({ cls := "SquareCodes$Field", name := "product", desc := "(II)I" } : Jvm.MethodName)) ∈ WS := WS_tbl 542 (by decide +kernel) rfl
set_option maxRecDepth 1000000 in
theorem kw_543 : cd_q_Field_product ∈ WS := WS_tbl 543 rfl rfl
theorem kw_532 : (Jvm.Cond.methodLink "SquareCodes$Checks" (44 : Nat) ({ cls := "java/util/Arrays", name := "fill", desc := "([II)V" } : Jvm.MethodName)) ∈ WS := WS_tbl 532 (by decide +kernel) rfl
theorem kw_169 : (Jvm.Cond.static ({ cls := "java/util/Arrays", name := "fill", desc := "([II)V" } : Jvm.MethodName)) ∈ WS := WS_tbl 169 (by decide +kernel) rfl
theorem kw_9 : (Jvm.Cond.initialized "java/util/Arrays") ∈ WS := WS_tbl 9 (by decide +kernel) rfl
set_option maxRecDepth 1000000 in
theorem kw_170 : cd_j_Arrays_fill ∈ WS := WS_tbl 170 rfl rfl
theorem kw_110 : (Jvm.Cond.fieldLink "SquareCodes$Checks" (22 : Nat) "SquareCodes$Checks" "rest" "[I") ∈ WS := WS_tbl 110 (by decide +kernel) rfl
theorem kw_528 : (Jvm.Cond.methodLink "SquareCodes$Checks" (40 : Nat) ({ cls := "SquareCodes$Checks", name := "makeGenerator", desc := "(I)V" } : Jvm.MethodName)) ∈ WS := WS_tbl 528 (by decide +kernel) rfl
theorem kw_530 : (Jvm.Cond.instanceMethod ({ cls := "SquareCodes$Checks", name := "makeGenerator", desc := "(I)V" } : Jvm.MethodName)) ∈ WS := WS_tbl 530 (by decide +kernel) rfl
theorem ks_7 : Cond.selects R_Checks y_q_Checks_makeGenerator y_q_Checks_makeGenerator ∈ WS := WS_sel 7 (by decide +kernel) rfl
theorem kw_4 : (Jvm.Cond.initialized "SquareCodes$Checks") ∈ WS := WS_tbl 4 (by decide +kernel) rfl
set_option maxRecDepth 1000000 in
theorem kw_531 : cd_q_Checks_makeGenerator ∈ WS := WS_tbl 531 rfl rfl
theorem kw_544 : (Jvm.Cond.methodLink "SquareCodes$Checks" (50 : Nat) ({ cls := "java/lang/System", name := "arraycopy", desc := "(Ljava/lang/Object;ILjava/lang/Object;II)V" } : Jvm.MethodName)) ∈ WS := WS_tbl 544 (by decide +kernel) rfl
theorem kw_546 : (Jvm.Cond.native ({ cls := "java/lang/System", name := "arraycopy", desc := "(Ljava/lang/Object;ILjava/lang/Object;II)V" } : Jvm.MethodName)) ∈ WS := WS_tbl 546 (by decide +kernel) rfl
theorem kw_545 : (Jvm.Cond.static ({ cls := "java/lang/System", name := "arraycopy", desc := "(Ljava/lang/Object;ILjava/lang/Object;II)V" } : Jvm.MethodName)) ∈ WS := WS_tbl 545 (by decide +kernel) rfl
theorem kw_24 : (Jvm.Cond.initialized "java/lang/System") ∈ WS := WS_tbl 24 (by decide +kernel) rfl
theorem kw_111 : (Jvm.Cond.fieldLink "SquareCodes$Checks" (25 : Nat) "SquareCodes$Checks" "sums" "[I") ∈ WS := WS_tbl 111 (by decide +kernel) rfl
theorem kw_112 : (Jvm.Cond.fieldLink "SquareCodes$Checks" (28 : Nat) "SquareCodes$Checks" "locator" "[I") ∈ WS := WS_tbl 112 (by decide +kernel) rfl
theorem kw_113 : (Jvm.Cond.fieldLink "SquareCodes$Checks" (31 : Nat) "SquareCodes$Checks" "former" "[I") ∈ WS := WS_tbl 113 (by decide +kernel) rfl
theorem kw_115 : (Jvm.Cond.fieldLink "SquareCodes$Checks" (37 : Nat) "SquareCodes$Checks" "evaluator" "[I") ∈ WS := WS_tbl 115 (by decide +kernel) rfl
theorem kw_663 : (Jvm.Cond.methodLink "SquareCodes$Checks" (88 : Nat) ({ cls := "SquareCodes$Checks", name := "valueAt", desc := "([II)I" } : Jvm.MethodName)) ∈ WS := WS_tbl 663 (by decide +kernel) rfl
theorem kw_665 : (Jvm.Cond.instanceMethod ({ cls := "SquareCodes$Checks", name := "valueAt", desc := "([II)I" } : Jvm.MethodName)) ∈ WS := WS_tbl 665 (by decide +kernel) rfl
theorem ks_15 : Cond.selects R_Checks y_q_Checks_valueAt y_q_Checks_valueAt ∈ WS := WS_sel 15 (by decide +kernel) rfl
set_option maxRecDepth 1000000 in
theorem kw_666 : cd_q_Checks_valueAt ∈ WS := WS_tbl 666 rfl rfl
theorem kw_647 : (Jvm.Cond.methodLink "SquareCodes$Checks" (81 : Nat) ({ cls := "SquareCodes$Field", name := "quotient", desc := "(II)I" } : Jvm.MethodName)) ∈ WS := WS_tbl 647 (by decide +kernel) rfl
theorem kw_648 : (Jvm.Cond.instanceMethod ({ cls := "SquareCodes$Field", name := "quotient", desc := "(II)I" } : Jvm.MethodName)) ∈ WS := WS_tbl 648 (by decide +kernel) rfl
theorem kw_649 : (Jvm.Cond.selects "SquareCodes$Field" ({ cls := "SquareCodes$Field", name := "quotient", desc := "(II)I" } : Jvm.MethodName) ({ cls := "SquareCodes$Field", name := "quotient", desc := "(II)I" } : Jvm.MethodName)) ∈ WS := WS_tbl 649 (by decide +kernel) rfl
set_option maxRecDepth 1000000 in
theorem kw_650 : cd_q_Field_quotient ∈ WS := WS_tbl 650 rfl rfl
theorem kw_667 : (Jvm.Cond.methodLink "SquareCodes$Checks" (92 : Nat) ({ cls := "SquareCodes$Checks", name := "changeAt", desc := "(I)I" } : Jvm.MethodName)) ∈ WS := WS_tbl 667 (by decide +kernel) rfl
theorem kw_669 : (Jvm.Cond.instanceMethod ({ cls := "SquareCodes$Checks", name := "changeAt", desc := "(I)I" } : Jvm.MethodName)) ∈ WS := WS_tbl 669 (by decide +kernel) rfl
theorem ks_16 : Cond.selects R_Checks y_q_Checks_changeAt y_q_Checks_changeAt ∈ WS := WS_sel 16 (by decide +kernel) rfl
set_option maxRecDepth 1000000 in
theorem kw_670 : cd_q_Checks_changeAt ∈ WS := WS_tbl 670 rfl rfl
section
theorem d_q_Checks_makeGenerator_0 : decode b_q_Checks_makeGenerator 0 = .ok (.aload_n 0, 1) := by decide +kernel
theorem d_q_Checks_makeGenerator_1 : decode b_q_Checks_makeGenerator 1 = .ok (.getfield 18, 3) := by decide +kernel
theorem d_q_Checks_makeGenerator_4 : decode b_q_Checks_makeGenerator 4 = .ok (.iconst 0, 1) := by decide +kernel
theorem d_q_Checks_makeGenerator_5 : decode b_q_Checks_makeGenerator 5 = .ok (.invokestatic 44, 3) := by decide +kernel
theorem d_q_Checks_makeGenerator_8 : decode b_q_Checks_makeGenerator 8 = .ok (.aload_n 0, 1) := by decide +kernel
theorem d_q_Checks_makeGenerator_9 : decode b_q_Checks_makeGenerator 9 = .ok (.getfield 18, 3) := by decide +kernel
theorem d_q_Checks_makeGenerator_12 : decode b_q_Checks_makeGenerator 12 = .ok (.iconst 0, 1) := by decide +kernel
theorem d_q_Checks_makeGenerator_13 : decode b_q_Checks_makeGenerator 13 = .ok (.iconst 1, 1) := by decide +kernel
theorem d_q_Checks_makeGenerator_14 : decode b_q_Checks_makeGenerator 14 = .ok (.iastore, 1) := by decide +kernel
theorem d_q_Checks_makeGenerator_15 : decode b_q_Checks_makeGenerator 15 = .ok (.iconst 0, 1) := by decide +kernel
theorem d_q_Checks_makeGenerator_16 : decode b_q_Checks_makeGenerator 16 = .ok (.istore_n 2, 1) := by decide +kernel
theorem d_q_Checks_makeGenerator_17 : decode b_q_Checks_makeGenerator 17 = .ok (.iload_n 2, 1) := by decide +kernel
theorem d_q_Checks_makeGenerator_18 : decode b_q_Checks_makeGenerator 18 = .ok (.iload_n 1, 1) := by decide +kernel
theorem d_q_Checks_makeGenerator_19 : decode b_q_Checks_makeGenerator 19 = .ok (.if_icmp .ge 56, 3) := by decide +kernel
theorem d_q_Checks_makeGenerator_22 : decode b_q_Checks_makeGenerator 22 = .ok (.iload_n 2, 1) := by decide +kernel
theorem d_q_Checks_makeGenerator_23 : decode b_q_Checks_makeGenerator 23 = .ok (.iconst 1, 1) := by decide +kernel
theorem d_q_Checks_makeGenerator_24 : decode b_q_Checks_makeGenerator 24 = .ok (.iadd, 1) := by decide +kernel
theorem d_q_Checks_makeGenerator_25 : decode b_q_Checks_makeGenerator 25 = .ok (.istore_n 3, 1) := by decide +kernel
theorem d_q_Checks_makeGenerator_26 : decode b_q_Checks_makeGenerator 26 = .ok (.iload_n 3, 1) := by decide +kernel
theorem d_q_Checks_makeGenerator_27 : decode b_q_Checks_makeGenerator 27 = .ok (.iconst 1, 1) := by decide +kernel
theorem d_q_Checks_makeGenerator_28 : decode b_q_Checks_makeGenerator 28 = .ok (.if_icmp .lt 41, 3) := by decide +kernel
theorem d_q_Checks_makeGenerator_31 : decode b_q_Checks_makeGenerator 31 = .ok (.aload_n 0, 1) := by decide +kernel
theorem d_q_Checks_makeGenerator_32 : decode b_q_Checks_makeGenerator 32 = .ok (.getfield 18, 3) := by decide +kernel
theorem d_q_Checks_makeGenerator_35 : decode b_q_Checks_makeGenerator 35 = .ok (.iload_n 3, 1) := by decide +kernel
theorem d_q_Checks_makeGenerator_36 : decode b_q_Checks_makeGenerator 36 = .ok (.dup2, 1) := by decide +kernel
theorem d_q_Checks_makeGenerator_37 : decode b_q_Checks_makeGenerator 37 = .ok (.iaload, 1) := by decide +kernel
theorem d_q_Checks_makeGenerator_38 : decode b_q_Checks_makeGenerator 38 = .ok (.aload_n 0, 1) := by decide +kernel
theorem d_q_Checks_makeGenerator_39 : decode b_q_Checks_makeGenerator 39 = .ok (.getfield 12, 3) := by decide +kernel
theorem d_q_Checks_makeGenerator_42 : decode b_q_Checks_makeGenerator 42 = .ok (.aload_n 0, 1) := by decide +kernel
theorem d_q_Checks_makeGenerator_43 : decode b_q_Checks_makeGenerator 43 = .ok (.getfield 18, 3) := by decide +kernel
theorem d_q_Checks_makeGenerator_46 : decode b_q_Checks_makeGenerator 46 = .ok (.iload_n 3, 1) := by decide +kernel
theorem d_q_Checks_makeGenerator_47 : decode b_q_Checks_makeGenerator 47 = .ok (.iconst 1, 1) := by decide +kernel
theorem d_q_Checks_makeGenerator_48 : decode b_q_Checks_makeGenerator 48 = .ok (.isub, 1) := by decide +kernel
theorem d_q_Checks_makeGenerator_49 : decode b_q_Checks_makeGenerator 49 = .ok (.iaload, 1) := by decide +kernel
theorem d_q_Checks_makeGenerator_50 : decode b_q_Checks_makeGenerator 50 = .ok (.aload_n 0, 1) := by decide +kernel
theorem d_q_Checks_makeGenerator_51 : decode b_q_Checks_makeGenerator 51 = .ok (.getfield 12, 3) := by decide +kernel
theorem d_q_Checks_makeGenerator_54 : decode b_q_Checks_makeGenerator 54 = .ok (.iload_n 2, 1) := by decide +kernel
theorem d_q_Checks_makeGenerator_55 : decode b_q_Checks_makeGenerator 55 = .ok (.invokevirtual 60, 3) := by decide +kernel
theorem d_q_Checks_makeGenerator_58 : decode b_q_Checks_makeGenerator 58 = .ok (.invokevirtual 56, 3) := by decide +kernel
theorem d_q_Checks_makeGenerator_61 : decode b_q_Checks_makeGenerator 61 = .ok (.ixor, 1) := by decide +kernel
theorem d_q_Checks_makeGenerator_62 : decode b_q_Checks_makeGenerator 62 = .ok (.iastore, 1) := by decide +kernel
theorem d_q_Checks_makeGenerator_63 : decode b_q_Checks_makeGenerator 63 = .ok (.iinc 3 (-1), 3) := by decide +kernel
theorem d_q_Checks_makeGenerator_66 : decode b_q_Checks_makeGenerator 66 = .ok (.goto (-40), 3) := by decide +kernel
theorem d_q_Checks_makeGenerator_69 : decode b_q_Checks_makeGenerator 69 = .ok (.iinc 2 1, 3) := by decide +kernel
theorem d_q_Checks_makeGenerator_72 : decode b_q_Checks_makeGenerator 72 = .ok (.goto (-55), 3) := by decide +kernel
theorem d_q_Checks_makeGenerator_75 : decode b_q_Checks_makeGenerator 75 = .ok (.return_, 1) := by decide +kernel
end
section
variable {p : Program} {l : Launch} {e : Env} {R : Room} {s : State} {m : MethodId} {args : Array Value} {below : List Frame} {meth : Method} {c : Code} {cells slots : Nat} {Q : State → Prop} {A : Nat → Prop} {H0 : Heap} {D : va_G}
set_option maxHeartbeats 1000000 in
set_option maxRecDepth 100000 in
theorem lp_q_Checks_makeGenerator_26 (cI cC : ClassId) (co c1 c2 c3 c4 c5 c6 c7 fo fp fl : Nat) (po lo ge : Nat → Nat) (x : Nat) (hx0 : x ≤ 17) (hF : fldOK po lo) (S : CallFix p m c b_q_Checks_makeGenerator 4 s args (cd_q_Checks_makeGenerator :: WS) R_Checks) (hRf : 2 ≤ R.frames) (hRl : 43 ≤ R.locals) (hRc : cells ≤ R.cells ∧ slots ≤ R.slots) (hK : va_K D classes [(cI, .int), (cC, .char)] s) (hA : ∀ q, H0.size ≤ q → A q) (i : Nat) (hi : i < x) (kx : ∀ (ls : Array Slot) (H : Heap) (locs : List Loc), lv_has ls 4 [(0, .ref co), (1, .int (nI x)), (2, .int (nI i)), (3, .int (nI (i + 1 - (i + 1))))] → va_P D classes [(co, .inr (0, [.ref fo, .ref c1, .ref c2, .ref c3, .ref c4, .ref c5, .ref c6, .ref c7])), (fo, .inr (1, [.ref fp, .ref fl])), (fp, .inl (cI, 255, .inl (fun j => nI (po j)))), (fl, .inl (cI, 256, .inl (fun j => nI (lo j)))), (c1, .inl (cI, 18, .inl (fun j => nI ((gnJ (gnI (va_up (flL ge 0 18) 0 1) i) i (i + 1)) j))))] H → va_D A [(co, .inr (0, [.ref fo, .ref c1, .ref c2, .ref c3, .ref c4, .ref c5, .ref c6, .ref c7])), (fo, .inr (1, [.ref fp, .ref fl])), (fp, .inl (cI, 255, .inl (fun j => nI (po j)))), (fl, .inl (cI, 256, .inl (fun j => nI (lo j)))), (c1, .inl (cI, 18, .inl (fun j => nI ((gnJ (gnI (va_up (flL ge 0 18) 0 1) i) i (i + 1)) j))))] → va_S A H0 H locs → W p l e R s m args below meth c H locs cells slots Q (F0 m 69 ls [])) :
    ∀ j, j ≤ i + 1 → ∀ (ls : Array Slot) (H : Heap) (locs : List Loc), lv_has ls 4 [(0, .ref co), (1, .int (nI x)), (2, .int (nI i)), (3, .int (nI (i + 1 - j)))] → va_P D classes [(co, .inr (0, [.ref fo, .ref c1, .ref c2, .ref c3, .ref c4, .ref c5, .ref c6, .ref c7])), (fo, .inr (1, [.ref fp, .ref fl])), (fp, .inl (cI, 255, .inl (fun j => nI (po j)))), (fl, .inl (cI, 256, .inl (fun j => nI (lo j)))), (c1, .inl (cI, 18, .inl (fun z9 => nI ((gnJ (gnI (va_up (flL ge 0 18) 0 1) i) i j) z9))))] H → va_D A [(co, .inr (0, [.ref fo, .ref c1, .ref c2, .ref c3, .ref c4, .ref c5, .ref c6, .ref c7])), (fo, .inr (1, [.ref fp, .ref fl])), (fp, .inl (cI, 255, .inl (fun j => nI (po j)))), (fl, .inl (cI, 256, .inl (fun j => nI (lo j)))), (c1, .inl (cI, 18, .inl (fun z9 => nI ((gnJ (gnI (va_up (flL ge 0 18) 0 1) i) i j) z9))))] → va_S A H0 H locs → W p l e R s m args below meth c H locs cells slots Q (F0 m 26 ls []) := by
  obtain ⟨hx, hb, hml, hown, hts⟩ := id S
  refine up_loop (fun j hkj ih => ?_)
  intro ls H locs hl hP hD hS
  have hp := pw_lt i
  have hs1 := gnJ_lt (gnI_lt (gs0_lt ge) i (by omega)) i j (by omega)
  refine lv_iload_n hx hb d_q_Checks_makeGenerator_26 rfl (lv_at hl 3 rfl) ?_
  refine lv_iconst (v := nI 1) hx hb d_q_Checks_makeGenerator_27 (by decide) ?_
  refine n_icmp_lt hx hb d_q_Checks_makeGenerator_28 (tgt := 69) rfl (by omega) (by omega) (fun g28 => ?_) (fun g28 => ?_)
  · skip
    obtain rfl : j = i + 1 := by omega
    exact kx ls H locs (lv_sub hl [0, 1, 2, 3] rfl) hP hD hS
  · skip
    have hs2 := hs1 (i + 1 - j - 1) (by omega)
    refine lv_aload_n hx hb d_q_Checks_makeGenerator_31 rfl (lv_at hl 0 rfl) ?_
    refine n_get (C := R_Checks) (T := F_Checks) (N := 8) (v := .ref c1) hx hb hts u_Checks_in hown hK hP 0 rfl rfl 1 (by decide) kw_109 rfl d_q_Checks_makeGenerator_32 ?_
    refine lv_iload_n hx hb d_q_Checks_makeGenerator_35 rfl (lv_at hl 3 rfl) ?_
    refine lv_dup2_11 hx hb d_q_Checks_makeGenerator_36 rfl rfl ?_
    refine n_iald hx hb hK hP 4 0 rfl rfl (by omega) (by decide) d_q_Checks_makeGenerator_37 ?_
    refine lv_aload_n hx hb d_q_Checks_makeGenerator_38 rfl (lv_at hl 0 rfl) ?_
    refine n_get (C := R_Checks) (T := F_Checks) (N := 8) (v := .ref fo) hx hb hts u_Checks_in hown hK hP 0 rfl rfl 0 (by decide) kw_108 rfl d_q_Checks_makeGenerator_39 ?_
    refine lv_aload_n hx hb d_q_Checks_makeGenerator_42 rfl (lv_at hl 0 rfl) ?_
    refine n_get (C := R_Checks) (T := F_Checks) (N := 8) (v := .ref c1) hx hb hts u_Checks_in hown hK hP 0 rfl rfl 1 (by decide) kw_109 rfl d_q_Checks_makeGenerator_43 ?_
    refine lv_iload_n hx hb d_q_Checks_makeGenerator_46 rfl (lv_at hl 3 rfl) ?_
    refine lv_iconst (v := nI 1) hx hb d_q_Checks_makeGenerator_47 (by decide) ?_
    refine n_isub hx hb d_q_Checks_makeGenerator_48 (by omega) ?_
    refine n_iald hx hb hK hP 4 0 rfl rfl (by omega) (by decide) d_q_Checks_makeGenerator_49 ?_
    refine lv_aload_n hx hb d_q_Checks_makeGenerator_50 rfl (lv_at hl 0 rfl) ?_
    refine n_get (C := R_Checks) (T := F_Checks) (N := 8) (v := .ref fo) hx hb hts u_Checks_in hown hK hP 0 rfl rfl 0 (by decide) kw_108 rfl d_q_Checks_makeGenerator_51 ?_
    refine lv_iload_n hx hb d_q_Checks_makeGenerator_54 rfl (lv_at hl 2 rfl) ?_
    refine q_readV (n := 1) (As := [.int (nI i)]) (rest := [.int (nI ((gnJ (gnI (va_up (flL ge 0 18) 0 1) i) i j) ((i + 1 - j) - 1))), .ref fo, .int (nI ((gnJ (gnI (va_up (flL ge 0 18) 0 1) i) i j) (i + 1 - j))), .int (nI (i + 1 - j)), .ref c1]) (wc := [(fo, .inr (1, [.ref fp, .ref fl])), (fp, .inl (cI, 255, .inl (fun j => nI (po j)))), (fl, .inl (cI, 256, .inl (fun j => nI (lo j))))]) S (c_q_Field_power_pos l D cI cC fo fp fl po lo i (by omega) hF) hK hP (q0 := 1) rfl rfl [1, 2, 3] rfl (q_goodV kw_533 kw_534 kw_535 kw_5 kw_536) (by decide +kernel) rfl rfl rfl ⟨Nat.le_trans (Nat.le_of_ble_eq_true rfl) hRf, Nat.le_trans (Nat.le_of_ble_eq_true rfl) hRl⟩ rfl hl.1 rfl (Nat.le_of_ble_eq_true rfl) d_q_Checks_makeGenerator_55 hRc hS (fun H locs hP hS => ?_)
    refine q_readV (n := 2) (As := [.int (nI ((gnJ (gnI (va_up (flL ge 0 18) 0 1) i) i j) ((i + 1 - j) - 1))), .int (nI (pw i))]) (rest := [.int (nI ((gnJ (gnI (va_up (flL ge 0 18) 0 1) i) i j) (i + 1 - j))), .int (nI (i + 1 - j)), .ref c1]) (wc := [(fo, .inr (1, [.ref fp, .ref fl])), (fp, .inl (cI, 255, .inl (fun j => nI (po j)))), (fl, .inl (cI, 256, .inl (fun j => nI (lo j))))]) S (c_q_Field_product l D cI cC fo fp fl po lo ((gnJ (gnI (va_up (flL ge 0 18) 0 1) i) i j) ((i + 1 - j) - 1)) (pw i) (by omega) (by omega) hF) hK hP (q0 := 1) rfl rfl [1, 2, 3] rfl (q_goodV kw_540 kw_541 kw_542 kw_5 kw_543) (by decide +kernel) rfl rfl rfl ⟨Nat.le_trans (Nat.le_of_ble_eq_true rfl) hRf, Nat.le_trans (Nat.le_of_ble_eq_true rfl) hRl⟩ rfl hl.1 rfl (Nat.le_of_ble_eq_true rfl) d_q_Checks_makeGenerator_58 hRc hS (fun H locs hP hS => ?_)
    refine n_ixor hx hb d_q_Checks_makeGenerator_61 ?_
    refine n_iast hx hb hK hP hD hS 4 0 rfl rfl (by omega) (by decide) d_q_Checks_makeGenerator_62 (fun H locs hP hD hS => ?_)
    have hP : va_P D classes [(co, .inr (0, [.ref fo, .ref c1, .ref c2, .ref c3, .ref c4, .ref c5, .ref c6, .ref c7])), (fo, .inr (1, [.ref fp, .ref fl])), (fp, .inl (cI, 255, .inl (fun j => nI (po j)))), (fl, .inl (cI, 256, .inl (fun j => nI (lo j)))), (c1, .inl (cI, 18, .inl (fun z9 => nI ((va_up (gnJ (gnI (va_up (flL ge 0 18) 0 1) i) i j) (i + 1 - j) (((gnJ (gnI (va_up (flL ge 0 18) 0 1) i) i j) (i + 1 - j)) ^^^ (gm ((gnJ (gnI (va_up (flL ge 0 18) 0 1) i) i j) ((i + 1 - j) - 1)) (pw i)))) z9))))] H := hP
    have hD : va_D A [(co, .inr (0, [.ref fo, .ref c1, .ref c2, .ref c3, .ref c4, .ref c5, .ref c6, .ref c7])), (fo, .inr (1, [.ref fp, .ref fl])), (fp, .inl (cI, 255, .inl (fun j => nI (po j)))), (fl, .inl (cI, 256, .inl (fun j => nI (lo j)))), (c1, .inl (cI, 18, .inl (fun z9 => nI ((va_up (gnJ (gnI (va_up (flL ge 0 18) 0 1) i) i j) (i + 1 - j) (((gnJ (gnI (va_up (flL ge 0 18) 0 1) i) i j) (i + 1 - j)) ^^^ (gm ((gnJ (gnI (va_up (flL ge 0 18) 0 1) i) i j) ((i + 1 - j) - 1)) (pw i)))) z9))))] := hD
    rw [show va_up (gnJ (gnI (va_up (flL ge 0 18) 0 1) i) i j) (i + 1 - j) (((gnJ (gnI (va_up (flL ge 0 18) 0 1) i) i j) (i + 1 - j)) ^^^ (gm ((gnJ (gnI (va_up (flL ge 0 18) 0 1) i) i j) ((i + 1 - j) - 1)) (pw i))) = gnJ (gnI (va_up (flL ge 0 18) 0 1) i) i (j + 1) from rfl] at hP hD
    refine lv_iinc (k := 3) (v := nI (i + 1 - (j + 1))) hx hb d_q_Checks_makeGenerator_63 hl rfl (nx_decN (by omega)) (Nat.le_of_ble_eq_true rfl) rfl (fun ls hl => ?_)
    have hl : lv_has ls 4 [(3, .int (nI (i + 1 - (j + 1)))), (0, .ref co), (1, .int (nI x)), (2, .int (nI i))] := hl
    refine lv_goto hx hb d_q_Checks_makeGenerator_66 (tgt := 26) rfl ?_
    exact ih (by omega) ls H locs (lv_sub hl [1, 2, 3, 0] rfl) hP hD hS
set_option maxHeartbeats 1000000 in
set_option maxRecDepth 100000 in
theorem lp_q_Checks_makeGenerator_17 (cI cC : ClassId) (co c1 c2 c3 c4 c5 c6 c7 fo fp fl : Nat) (po lo ge : Nat → Nat) (x : Nat) (hx0 : x ≤ 17) (hF : fldOK po lo) (S : CallFix p m c b_q_Checks_makeGenerator 4 s args (cd_q_Checks_makeGenerator :: WS) R_Checks) (hRf : 2 ≤ R.frames) (hRl : 43 ≤ R.locals) (hRc : cells ≤ R.cells ∧ slots ≤ R.slots) (hK : va_K D classes [(cI, .int), (cC, .char)] s) (hA : ∀ q, H0.size ≤ q → A q) (kx : ∀ (ls : Array Slot) (H : Heap) (locs : List Loc), lv_has ls 4 [(0, .ref co), (1, .int (nI x)), (2, .int (nI x))] → va_P D classes [(co, .inr (0, [.ref fo, .ref c1, .ref c2, .ref c3, .ref c4, .ref c5, .ref c6, .ref c7])), (fo, .inr (1, [.ref fp, .ref fl])), (fp, .inl (cI, 255, .inl (fun j => nI (po j)))), (fl, .inl (cI, 256, .inl (fun j => nI (lo j)))), (c1, .inl (cI, 18, .inl (fun j => nI ((gnI (va_up (flL ge 0 18) 0 1) x) j))))] H → va_D A [(co, .inr (0, [.ref fo, .ref c1, .ref c2, .ref c3, .ref c4, .ref c5, .ref c6, .ref c7])), (fo, .inr (1, [.ref fp, .ref fl])), (fp, .inl (cI, 255, .inl (fun j => nI (po j)))), (fl, .inl (cI, 256, .inl (fun j => nI (lo j)))), (c1, .inl (cI, 18, .inl (fun j => nI ((gnI (va_up (flL ge 0 18) 0 1) x) j))))] → va_S A H0 H locs → W p l e R s m args below meth c H locs cells slots Q (F0 m 75 ls [])) :
    ∀ i, i ≤ x → ∀ (ls : Array Slot) (H : Heap) (locs : List Loc), lv_has ls 4 [(0, .ref co), (1, .int (nI x)), (2, .int (nI i))] → va_P D classes [(co, .inr (0, [.ref fo, .ref c1, .ref c2, .ref c3, .ref c4, .ref c5, .ref c6, .ref c7])), (fo, .inr (1, [.ref fp, .ref fl])), (fp, .inl (cI, 255, .inl (fun j => nI (po j)))), (fl, .inl (cI, 256, .inl (fun j => nI (lo j)))), (c1, .inl (cI, 18, .inl (fun j => nI ((gnI (va_up (flL ge 0 18) 0 1) i) j))))] H → va_D A [(co, .inr (0, [.ref fo, .ref c1, .ref c2, .ref c3, .ref c4, .ref c5, .ref c6, .ref c7])), (fo, .inr (1, [.ref fp, .ref fl])), (fp, .inl (cI, 255, .inl (fun j => nI (po j)))), (fl, .inl (cI, 256, .inl (fun j => nI (lo j)))), (c1, .inl (cI, 18, .inl (fun j => nI ((gnI (va_up (flL ge 0 18) 0 1) i) j))))] → va_S A H0 H locs → W p l e R s m args below meth c H locs cells slots Q (F0 m 17 ls []) := by
  obtain ⟨hx, hb, hml, hown, hts⟩ := id S
  refine up_loop (fun i hki ih => ?_)
  intro ls H locs hl hP hD hS
  refine lv_iload_n hx hb d_q_Checks_makeGenerator_17 rfl (lv_at hl 2 rfl) ?_
  refine lv_iload_n hx hb d_q_Checks_makeGenerator_18 rfl (lv_at hl 1 rfl) ?_
  refine n_icmp_ge hx hb d_q_Checks_makeGenerator_19 (tgt := 75) rfl (by omega) (by omega) (fun g19 => ?_) (fun g19 => ?_)
  · skip
    obtain rfl : i = x := by omega
    exact kx ls H locs (lv_sub hl [0, 1, 2] rfl) hP hD hS
  · skip
    refine lv_iload_n hx hb d_q_Checks_makeGenerator_22 rfl (lv_at hl 2 rfl) ?_
    refine lv_iconst (v := nI 1) hx hb d_q_Checks_makeGenerator_23 (by decide) ?_
    refine n_iadd hx hb d_q_Checks_makeGenerator_24 ?_
    refine lv_istore_n hx hb d_q_Checks_makeGenerator_25 rfl hl (Nat.le_of_ble_eq_true rfl) rfl (fun ls hl => ?_)
    have hl : lv_has ls 4 [(3, .int (nI (i + 1))), (0, .ref co), (1, .int (nI x)), (2, .int (nI i))] := hl
    refine lp_q_Checks_makeGenerator_26 cI cC co c1 c2 c3 c4 c5 c6 c7 fo fp fl po lo ge x hx0 hF S hRf hRl hRc hK hA i (by omega) (fun ls H locs hl hP hD hS => ?_) 0 (by omega) ls H locs (lv_sub hl [1, 2, 3, 0] rfl) hP hD hS
    refine lv_iinc (k := 2) (v := nI (i + 1)) hx hb d_q_Checks_makeGenerator_69 hl rfl (nx_inc i 1) (Nat.le_of_ble_eq_true rfl) rfl (fun ls hl => ?_)
    have hl : lv_has ls 4 [(2, .int (nI (i + 1))), (0, .ref co), (1, .int (nI x)), (3, .int (nI (i + 1 - (i + 1))))] := hl
    refine lv_goto hx hb d_q_Checks_makeGenerator_72 (tgt := 17) rfl ?_
    exact ih (by omega) ls H locs (lv_sub hl [1, 2, 0] rfl) hP hD hS
set_option maxHeartbeats 1000000 in
set_option maxRecDepth 100000 in
theorem bd_q_Checks_makeGenerator (cI cC : ClassId) (co c1 c2 c3 c4 c5 c6 c7 fo fp fl : Nat) (po lo ge : Nat → Nat) (x : Nat) (hx0 : x ≤ 17) (hF : fldOK po lo) (S : CallFix p m c b_q_Checks_makeGenerator 4 s args (cd_q_Checks_makeGenerator :: WS) R_Checks) (hRf : 2 ≤ R.frames) (hRl : 43 ≤ R.locals) (hRc : cells ≤ R.cells ∧ slots ≤ R.slots) (hK : va_K D classes [(cI, .int), (cC, .char)] s) (hA : ∀ q, H0.size ≤ q → A q) (kr : ∀ (pc : Nat) (ls : Array Slot) (H : Heap) (locs : List Loc), decode b_q_Checks_makeGenerator pc = .ok (.return_, 1) → va_P D classes [(co, .inr (0, [.ref fo, .ref c1, .ref c2, .ref c3, .ref c4, .ref c5, .ref c6, .ref c7])), (fo, .inr (1, [.ref fp, .ref fl])), (fp, .inl (cI, 255, .inl (fun j => nI (po j)))), (fl, .inl (cI, 256, .inl (fun j => nI (lo j)))), (c1, .inl (cI, 18, .inl (fun j => nI ((gnI (va_up (flL ge 0 18) 0 1) x) j))))] H → va_D A [(co, .inr (0, [.ref fo, .ref c1, .ref c2, .ref c3, .ref c4, .ref c5, .ref c6, .ref c7])), (fo, .inr (1, [.ref fp, .ref fl])), (fp, .inl (cI, 255, .inl (fun j => nI (po j)))), (fl, .inl (cI, 256, .inl (fun j => nI (lo j)))), (c1, .inl (cI, 18, .inl (fun j => nI ((gnI (va_up (flL ge 0 18) 0 1) x) j))))] → va_S A H0 H locs → W p l e R s m args below meth c H locs cells slots Q (F0 m pc ls [])) : ∀ (ls : Array Slot) (H : Heap) (locs : List Loc), lv_has ls 4 [(0, .ref co), (1, .int (nI x))] → va_P D classes [(co, .inr (0, [.ref fo, .ref c1, .ref c2, .ref c3, .ref c4, .ref c5, .ref c6, .ref c7])), (fo, .inr (1, [.ref fp, .ref fl])), (fp, .inl (cI, 255, .inl (fun j => nI (po j)))), (fl, .inl (cI, 256, .inl (fun j => nI (lo j)))), (c1, .inl (cI, 18, .inl (fun j => nI (ge j))))] H → va_D A [(co, .inr (0, [.ref fo, .ref c1, .ref c2, .ref c3, .ref c4, .ref c5, .ref c6, .ref c7])), (fo, .inr (1, [.ref fp, .ref fl])), (fp, .inl (cI, 255, .inl (fun j => nI (po j)))), (fl, .inl (cI, 256, .inl (fun j => nI (lo j)))), (c1, .inl (cI, 18, .inl (fun j => nI (ge j))))] → va_S A H0 H locs → W p l e R s m args below meth c H locs cells slots Q (F0 m 0 ls []) := by
  obtain ⟨hx, hb, hml, hown, hts⟩ := id S
  intro ls H locs hl hP hD hS
  refine lv_aload_n hx hb d_q_Checks_makeGenerator_0 rfl (lv_at hl 0 rfl) ?_
  refine n_get (C := R_Checks) (T := F_Checks) (N := 8) (v := .ref c1) hx hb hts u_Checks_in hown hK hP 0 rfl rfl 1 (by decide) kw_109 rfl d_q_Checks_makeGenerator_1 ?_
  refine lv_iconst (v := nI 0) hx hb d_q_Checks_makeGenerator_4 (by decide) ?_
  refine q_writeSv (n := 2) (As := [.ref c1, .int (nI 0)]) (rest := []) (wc := [(c1, .inl (cI, 18, .inl (fun j => nI (ge j))))]) (wr := [(co, .inr (0, [.ref fo, .ref c1, .ref c2, .ref c3, .ref c4, .ref c5, .ref c6, .ref c7])), (fo, .inr (1, [.ref fp, .ref fl])), (fp, .inl (cI, 255, .inl (fun j => nI (po j)))), (fl, .inl (cI, 256, .inl (fun j => nI (lo j))))]) (w1 := [(c1, .inl (cI, 18, .inl (fun j => nI ((flL ge 0 18) j))))]) S (c_j_Arrays_fill l D cI cC c1 18 ge 0 (by decide) H.size) hK hP hD hA [4] [0, 1, 2, 3] rfl rfl rfl rfl (by decide) rfl (q_goodS kw_532 kw_169 kw_9 kw_170) (by decide +kernel) rfl rfl ⟨Nat.le_trans (Nat.le_of_ble_eq_true rfl) hRf, Nat.le_trans (Nat.le_of_ble_eq_true rfl) hRl⟩ rfl hl.1 rfl (Nat.le_of_ble_eq_true rfl) d_q_Checks_makeGenerator_5 hRc hS (fun H locs hP hD hS => ?_)
  replace hP : va_P D classes [(co, .inr (0, [.ref fo, .ref c1, .ref c2, .ref c3, .ref c4, .ref c5, .ref c6, .ref c7])), (fo, .inr (1, [.ref fp, .ref fl])), (fp, .inl (cI, 255, .inl (fun j => nI (po j)))), (fl, .inl (cI, 256, .inl (fun j => nI (lo j)))), (c1, .inl (cI, 18, .inl (fun j => nI ((flL ge 0 18) j))))] H := hP.sub [0, 1, 2, 3, 4] rfl
  replace hD : va_D A [(co, .inr (0, [.ref fo, .ref c1, .ref c2, .ref c3, .ref c4, .ref c5, .ref c6, .ref c7])), (fo, .inr (1, [.ref fp, .ref fl])), (fp, .inl (cI, 255, .inl (fun j => nI (po j)))), (fl, .inl (cI, 256, .inl (fun j => nI (lo j)))), (c1, .inl (cI, 18, .inl (fun j => nI ((flL ge 0 18) j))))] := hD.sub [0, 1, 2, 3, 4] rfl rfl
  refine lv_aload_n hx hb d_q_Checks_makeGenerator_8 rfl (lv_at hl 0 rfl) ?_
  refine n_get (C := R_Checks) (T := F_Checks) (N := 8) (v := .ref c1) hx hb hts u_Checks_in hown hK hP 0 rfl rfl 1 (by decide) kw_109 rfl d_q_Checks_makeGenerator_9 ?_
  refine lv_iconst (v := nI 0) hx hb d_q_Checks_makeGenerator_12 (by decide) ?_
  refine lv_iconst (v := nI 1) hx hb d_q_Checks_makeGenerator_13 (by decide) ?_
  refine n_iast hx hb hK hP hD hS 4 0 rfl rfl (by omega) (by decide) d_q_Checks_makeGenerator_14 (fun H locs hP hD hS => ?_)
  have hP : va_P D classes [(co, .inr (0, [.ref fo, .ref c1, .ref c2, .ref c3, .ref c4, .ref c5, .ref c6, .ref c7])), (fo, .inr (1, [.ref fp, .ref fl])), (fp, .inl (cI, 255, .inl (fun j => nI (po j)))), (fl, .inl (cI, 256, .inl (fun j => nI (lo j)))), (c1, .inl (cI, 18, .inl (fun j => nI ((va_up (flL ge 0 18) 0 1) j))))] H := hP
  have hD : va_D A [(co, .inr (0, [.ref fo, .ref c1, .ref c2, .ref c3, .ref c4, .ref c5, .ref c6, .ref c7])), (fo, .inr (1, [.ref fp, .ref fl])), (fp, .inl (cI, 255, .inl (fun j => nI (po j)))), (fl, .inl (cI, 256, .inl (fun j => nI (lo j)))), (c1, .inl (cI, 18, .inl (fun j => nI ((va_up (flL ge 0 18) 0 1) j))))] := hD
  refine lv_iconst (v := nI 0) hx hb d_q_Checks_makeGenerator_15 (by decide) ?_
  refine lv_istore_n hx hb d_q_Checks_makeGenerator_16 rfl hl (Nat.le_of_ble_eq_true rfl) rfl (fun ls hl => ?_)
  have hl : lv_has ls 4 [(2, .int (nI 0)), (0, .ref co), (1, .int (nI x))] := hl
  refine lp_q_Checks_makeGenerator_17 cI cC co c1 c2 c3 c4 c5 c6 c7 fo fp fl po lo ge x hx0 hF S hRf hRl hRc hK hA  (fun ls H locs hl hP hD hS => ?_) 0 (by omega) ls H locs (lv_sub hl [1, 2, 0] rfl) hP hD hS
  exact kr _ ls H locs d_q_Checks_makeGenerator_75 hP hD hS
set_option maxHeartbeats 1000000 in
set_option maxRecDepth 100000 in
theorem c_q_Checks_makeGenerator (l : Launch) (D : va_G) (cI cC : ClassId) (co c1 c2 c3 c4 c5 c6 c7 fo fp fl : Nat) (po lo ge : Nat → Nat) (x : Nat) (hx0 : x ≤ 17) (hF : fldOK po lo) (sz : Nat) : Met l y_q_Checks_makeGenerator (cd_q_Checks_makeGenerator :: WS) { frames := 2, cells := 0, slots := 0, locals := 43 } (va_Pc [.ref co, .int (nI x)] (wP D [(co, .inr (0, [.ref fo, .ref c1, .ref c2, .ref c3, .ref c4, .ref c5, .ref c6, .ref c7])), (fo, .inr (1, [.ref fp, .ref fl])), (fp, .inl (cI, 255, .inl (fun j => nI (po j)))), (fl, .inl (cI, 256, .inl (fun j => nI (lo j)))), (c1, .inl (cI, 18, .inl (fun j => nI (ge j))))] [(cI, .int), (cC, .char)] sz)) (wQv D [(co, .inr (0, [.ref fo, .ref c1, .ref c2, .ref c3, .ref c4, .ref c5, .ref c6, .ref c7])), (fo, .inr (1, [.ref fp, .ref fl])), (fp, .inl (cI, 255, .inl (fun j => nI (po j)))), (fl, .inl (cI, 256, .inl (fun j => nI (lo j)))), (c1, .inl (cI, 18, .inl (fun j => nI (ge j))))] [(co, .inr (0, [.ref fo, .ref c1, .ref c2, .ref c3, .ref c4, .ref c5, .ref c6, .ref c7])), (fo, .inr (1, [.ref fp, .ref fl])), (fp, .inl (cI, 255, .inl (fun j => nI (po j)))), (fl, .inl (cI, 256, .inl (fun j => nI (lo j)))), (c1, .inl (cI, 18, .inl (fun j => nI ((gnI (va_up (flL ge 0 18) 0 1) x) j))))] sz) 0 0 (va_A [(co, .inr (0, [.ref fo, .ref c1, .ref c2, .ref c3, .ref c4, .ref c5, .ref c6, .ref c7])), (fo, .inr (1, [.ref fp, .ref fl])), (fp, .inl (cI, 255, .inl (fun j => nI (po j)))), (fl, .inl (cI, 256, .inl (fun j => nI (lo j)))), (c1, .inl (cI, 18, .inl (fun j => nI (ge j))))] sz) := by
  refine Met.ofW (cc := b_q_Checks_makeGenerator) (maxL := 4) (ret := none) (by decide) rfl ?_
  intro p e s m args below meth c s₁ B hml hv0
  obtain ⟨rfl, hP, hK, hD0, hsz⟩ := hv0
  have hts := atoms_spec (ws := cd_q_Checks_makeGenerator :: WS) B.pre
  have hown : s.vm.findClass R_Checks = some m.cls := findClass_of_methodNamed B.named
  have hlocks := B.notSynchronized
  subst hsz
  have hD := hD0.self (sz := s.heap.size)
  have hl := lv_entry ([.ref co, .int (nI x)]) (n := 4) (Nat.le_of_ble_eq_true rfl)
  rw [lg_entry_eq]
  generalize (lg_sl ([.ref co, .int (nI x)]) ++ List.replicate (4 - (lg_sl ([.ref co, .int (nI x)])).length) Slot.unset).toArray = ls at hl ⊢
  refine bd_q_Checks_makeGenerator cI cC co c1 c2 c3 c4 c5 c6 c7 fo fp fl po lo ge x hx0 hF ⟨B.exec, B.bytes, hml, hown, hts⟩ (Nat.le_refl _) (Nat.le_refl _) ⟨Nat.le_refl _, Nat.le_refl _⟩ hK (fun q h => Or.inr h) (fun pc ls H locs hd hP hD hS => ?_) ls _ _ hl hP hD (va_S.rf)
  exact W.vret B.exec B.bytes B.returns (fun t ht _ => ⟨⟨(), rfl, trivial, (by have h9 := hP; rw [← ht] at h9; exact h9)⟩, hS.F ht⟩) hS.2.2 hd
end
section
theorem d_q_Checks_append_0 : decode b_q_Checks_append 0 = .ok (.bipush 26, 2) := by decide +kernel
theorem d_q_Checks_append_2 : decode b_q_Checks_append 2 = .ok (.iload_n 2, 1) := by decide +kernel
theorem d_q_Checks_append_3 : decode b_q_Checks_append 3 = .ok (.isub, 1) := by decide +kernel
theorem d_q_Checks_append_4 : decode b_q_Checks_append 4 = .ok (.istore_n 3, 1) := by decide +kernel
theorem d_q_Checks_append_5 : decode b_q_Checks_append 5 = .ok (.aload_n 0, 1) := by decide +kernel
theorem d_q_Checks_append_6 : decode b_q_Checks_append 6 = .ok (.iload_n 3, 1) := by decide +kernel
theorem d_q_Checks_append_7 : decode b_q_Checks_append 7 = .ok (.invokevirtual 40, 3) := by decide +kernel
theorem d_q_Checks_append_10 : decode b_q_Checks_append 10 = .ok (.aload_n 0, 1) := by decide +kernel
theorem d_q_Checks_append_11 : decode b_q_Checks_append 11 = .ok (.getfield 22, 3) := by decide +kernel
theorem d_q_Checks_append_14 : decode b_q_Checks_append 14 = .ok (.iconst 0, 1) := by decide +kernel
theorem d_q_Checks_append_15 : decode b_q_Checks_append 15 = .ok (.invokestatic 44, 3) := by decide +kernel
theorem d_q_Checks_append_18 : decode b_q_Checks_append 18 = .ok (.aload_n 1, 1) := by decide +kernel
theorem d_q_Checks_append_19 : decode b_q_Checks_append 19 = .ok (.iconst 0, 1) := by decide +kernel
theorem d_q_Checks_append_20 : decode b_q_Checks_append 20 = .ok (.aload_n 0, 1) := by decide +kernel
theorem d_q_Checks_append_21 : decode b_q_Checks_append 21 = .ok (.getfield 22, 3) := by decide +kernel
theorem d_q_Checks_append_24 : decode b_q_Checks_append 24 = .ok (.iconst 0, 1) := by decide +kernel
theorem d_q_Checks_append_25 : decode b_q_Checks_append 25 = .ok (.iload_n 2, 1) := by decide +kernel
theorem d_q_Checks_append_26 : decode b_q_Checks_append 26 = .ok (.invokestatic 50, 3) := by decide +kernel
theorem d_q_Checks_append_29 : decode b_q_Checks_append 29 = .ok (.iconst 0, 1) := by decide +kernel
theorem d_q_Checks_append_30 : decode b_q_Checks_append 30 = .ok (.istore 4, 2) := by decide +kernel
theorem d_q_Checks_append_32 : decode b_q_Checks_append 32 = .ok (.iload 4, 2) := by decide +kernel
theorem d_q_Checks_append_34 : decode b_q_Checks_append 34 = .ok (.iload_n 2, 1) := by decide +kernel
theorem d_q_Checks_append_35 : decode b_q_Checks_append 35 = .ok (.if_icmp .ge 62, 3) := by decide +kernel
theorem d_q_Checks_append_38 : decode b_q_Checks_append 38 = .ok (.aload_n 0, 1) := by decide +kernel
theorem d_q_Checks_append_39 : decode b_q_Checks_append 39 = .ok (.getfield 22, 3) := by decide +kernel
theorem d_q_Checks_append_42 : decode b_q_Checks_append 42 = .ok (.iload 4, 2) := by decide +kernel
theorem d_q_Checks_append_44 : decode b_q_Checks_append 44 = .ok (.iaload, 1) := by decide +kernel
theorem d_q_Checks_append_45 : decode b_q_Checks_append 45 = .ok (.istore 5, 2) := by decide +kernel
theorem d_q_Checks_append_47 : decode b_q_Checks_append 47 = .ok (.iconst 0, 1) := by decide +kernel
theorem d_q_Checks_append_48 : decode b_q_Checks_append 48 = .ok (.istore 6, 2) := by decide +kernel
theorem d_q_Checks_append_50 : decode b_q_Checks_append 50 = .ok (.iload 6, 2) := by decide +kernel
theorem d_q_Checks_append_52 : decode b_q_Checks_append 52 = .ok (.iload_n 3, 1) := by decide +kernel
theorem d_q_Checks_append_53 : decode b_q_Checks_append 53 = .ok (.if_icmp .gt 38, 3) := by decide +kernel
theorem d_q_Checks_append_56 : decode b_q_Checks_append 56 = .ok (.aload_n 0, 1) := by decide +kernel
theorem d_q_Checks_append_57 : decode b_q_Checks_append 57 = .ok (.getfield 22, 3) := by decide +kernel
theorem d_q_Checks_append_60 : decode b_q_Checks_append 60 = .ok (.iload 4, 2) := by decide +kernel
theorem d_q_Checks_append_62 : decode b_q_Checks_append 62 = .ok (.iload 6, 2) := by decide +kernel
theorem d_q_Checks_append_64 : decode b_q_Checks_append 64 = .ok (.iadd, 1) := by decide +kernel
theorem d_q_Checks_append_65 : decode b_q_Checks_append 65 = .ok (.dup2, 1) := by decide +kernel
theorem d_q_Checks_append_66 : decode b_q_Checks_append 66 = .ok (.iaload, 1) := by decide +kernel
theorem d_q_Checks_append_67 : decode b_q_Checks_append 67 = .ok (.aload_n 0, 1) := by decide +kernel
theorem d_q_Checks_append_68 : decode b_q_Checks_append 68 = .ok (.getfield 12, 3) := by decide +kernel
theorem d_q_Checks_append_71 : decode b_q_Checks_append 71 = .ok (.iload 5, 2) := by decide +kernel
theorem d_q_Checks_append_73 : decode b_q_Checks_append 73 = .ok (.aload_n 0, 1) := by decide +kernel
theorem d_q_Checks_append_74 : decode b_q_Checks_append 74 = .ok (.getfield 18, 3) := by decide +kernel
theorem d_q_Checks_append_77 : decode b_q_Checks_append 77 = .ok (.iload 6, 2) := by decide +kernel
theorem d_q_Checks_append_79 : decode b_q_Checks_append 79 = .ok (.iaload, 1) := by decide +kernel
theorem d_q_Checks_append_80 : decode b_q_Checks_append 80 = .ok (.invokevirtual 56, 3) := by decide +kernel
theorem d_q_Checks_append_83 : decode b_q_Checks_append 83 = .ok (.ixor, 1) := by decide +kernel
theorem d_q_Checks_append_84 : decode b_q_Checks_append 84 = .ok (.iastore, 1) := by decide +kernel
theorem d_q_Checks_append_85 : decode b_q_Checks_append 85 = .ok (.iinc 6 1, 3) := by decide +kernel
theorem d_q_Checks_append_88 : decode b_q_Checks_append 88 = .ok (.goto (-38), 3) := by decide +kernel
theorem d_q_Checks_append_91 : decode b_q_Checks_append 91 = .ok (.iinc 4 1, 3) := by decide +kernel
theorem d_q_Checks_append_94 : decode b_q_Checks_append 94 = .ok (.goto (-62), 3) := by decide +kernel
theorem d_q_Checks_append_97 : decode b_q_Checks_append 97 = .ok (.aload_n 0, 1) := by decide +kernel
theorem d_q_Checks_append_98 : decode b_q_Checks_append 98 = .ok (.getfield 22, 3) := by decide +kernel
theorem d_q_Checks_append_101 : decode b_q_Checks_append 101 = .ok (.iload_n 2, 1) := by decide +kernel
theorem d_q_Checks_append_102 : decode b_q_Checks_append 102 = .ok (.aload_n 1, 1) := by decide +kernel
theorem d_q_Checks_append_103 : decode b_q_Checks_append 103 = .ok (.iload_n 2, 1) := by decide +kernel
theorem d_q_Checks_append_104 : decode b_q_Checks_append 104 = .ok (.iload_n 3, 1) := by decide +kernel
theorem d_q_Checks_append_105 : decode b_q_Checks_append 105 = .ok (.invokestatic 50, 3) := by decide +kernel
theorem d_q_Checks_append_108 : decode b_q_Checks_append 108 = .ok (.return_, 1) := by decide +kernel
end
section
variable {p : Program} {l : Launch} {e : Env} {R : Room} {s : State} {m : MethodId} {args : Array Value} {below : List Frame} {meth : Method} {c : Code} {cells slots : Nat} {Q : State → Prop} {A : Nat → Prop} {H0 : Heap} {D : va_G}
set_option maxHeartbeats 1000000 in
set_option maxRecDepth 100000 in
theorem lp_q_Checks_append_50 (cI cC : ClassId) (co c1 c2 c3 c4 c5 c6 c7 fo fp fl : Nat) (po lo ge re bt : Nat → Nat) (ba dt : Nat) (hd1 : 9 ≤ dt) (hd2 : dt ≤ 26) (hbt : lt256 26 bt) (hF : fldOK po lo) (S : CallFix p m c b_q_Checks_append 7 s args (cd_q_Checks_append :: WS) R_Checks) (hRf : 3 ≤ R.frames) (hRl : 66 ≤ R.locals) (hRc : cells ≤ R.cells ∧ slots ≤ R.slots) (hK : va_K D classes [(cI, .int), (cC, .char)] s) (hA : ∀ q, H0.size ≤ q → A q) (k : Nat) (hk : k < dt) (kx : ∀ (ls : Array Slot) (H : Heap) (locs : List Loc), lv_has ls 7 [(0, .ref co), (1, .ref ba), (2, .int (nI dt)), (3, .int (nI (26 - dt))), (4, .int (nI k)), (5, .int (nI (dvI (va_cpy bt (flL re 0 26) 0 0 dt) (gnI (va_up (flL ge 0 18) 0 1) (26 - dt)) (26 - dt) k k))), (6, .int (nI (26 - dt + 1)))] → va_P D classes [(co, .inr (0, [.ref fo, .ref c1, .ref c2, .ref c3, .ref c4, .ref c5, .ref c6, .ref c7])), (fo, .inr (1, [.ref fp, .ref fl])), (fp, .inl (cI, 255, .inl (fun j => nI (po j)))), (fl, .inl (cI, 256, .inl (fun j => nI (lo j)))), (c1, .inl (cI, 18, .inl (fun j => nI ((gnI (va_up (flL ge 0 18) 0 1) (26 - dt)) j)))), (c2, .inl (cI, 26, .inl (fun j => nI ((dvJ (dvI (va_cpy bt (flL re 0 26) 0 0 dt) (gnI (va_up (flL ge 0 18) 0 1) (26 - dt)) (26 - dt) k) (gnI (va_up (flL ge 0 18) 0 1) (26 - dt)) k (dvI (va_cpy bt (flL re 0 26) 0 0 dt) (gnI (va_up (flL ge 0 18) 0 1) (26 - dt)) (26 - dt) k k) (26 - dt + 1)) j)))), (ba, .inl (cI, 26, .inl (fun j => nI (bt j))))] H → va_D A [(co, .inr (0, [.ref fo, .ref c1, .ref c2, .ref c3, .ref c4, .ref c5, .ref c6, .ref c7])), (fo, .inr (1, [.ref fp, .ref fl])), (fp, .inl (cI, 255, .inl (fun j => nI (po j)))), (fl, .inl (cI, 256, .inl (fun j => nI (lo j)))), (c1, .inl (cI, 18, .inl (fun j => nI ((gnI (va_up (flL ge 0 18) 0 1) (26 - dt)) j)))), (c2, .inl (cI, 26, .inl (fun j => nI ((dvJ (dvI (va_cpy bt (flL re 0 26) 0 0 dt) (gnI (va_up (flL ge 0 18) 0 1) (26 - dt)) (26 - dt) k) (gnI (va_up (flL ge 0 18) 0 1) (26 - dt)) k (dvI (va_cpy bt (flL re 0 26) 0 0 dt) (gnI (va_up (flL ge 0 18) 0 1) (26 - dt)) (26 - dt) k k) (26 - dt + 1)) j)))), (ba, .inl (cI, 26, .inl (fun j => nI (bt j))))] → va_S A H0 H locs → W p l e R s m args below meth c H locs cells slots Q (F0 m 91 ls [])) :
    ∀ j, j ≤ 26 - dt + 1 → ∀ (ls : Array Slot) (H : Heap) (locs : List Loc), lv_has ls 7 [(0, .ref co), (1, .ref ba), (2, .int (nI dt)), (3, .int (nI (26 - dt))), (4, .int (nI k)), (5, .int (nI (dvI (va_cpy bt (flL re 0 26) 0 0 dt) (gnI (va_up (flL ge 0 18) 0 1) (26 - dt)) (26 - dt) k k))), (6, .int (nI j))] → va_P D classes [(co, .inr (0, [.ref fo, .ref c1, .ref c2, .ref c3, .ref c4, .ref c5, .ref c6, .ref c7])), (fo, .inr (1, [.ref fp, .ref fl])), (fp, .inl (cI, 255, .inl (fun j => nI (po j)))), (fl, .inl (cI, 256, .inl (fun j => nI (lo j)))), (c1, .inl (cI, 18, .inl (fun j => nI ((gnI (va_up (flL ge 0 18) 0 1) (26 - dt)) j)))), (c2, .inl (cI, 26, .inl (fun z9 => nI ((dvJ (dvI (va_cpy bt (flL re 0 26) 0 0 dt) (gnI (va_up (flL ge 0 18) 0 1) (26 - dt)) (26 - dt) k) (gnI (va_up (flL ge 0 18) 0 1) (26 - dt)) k (dvI (va_cpy bt (flL re 0 26) 0 0 dt) (gnI (va_up (flL ge 0 18) 0 1) (26 - dt)) (26 - dt) k k) j) z9)))), (ba, .inl (cI, 26, .inl (fun j => nI (bt j))))] H → va_D A [(co, .inr (0, [.ref fo, .ref c1, .ref c2, .ref c3, .ref c4, .ref c5, .ref c6, .ref c7])), (fo, .inr (1, [.ref fp, .ref fl])), (fp, .inl (cI, 255, .inl (fun j => nI (po j)))), (fl, .inl (cI, 256, .inl (fun j => nI (lo j)))), (c1, .inl (cI, 18, .inl (fun j => nI ((gnI (va_up (flL ge 0 18) 0 1) (26 - dt)) j)))), (c2, .inl (cI, 26, .inl (fun z9 => nI ((dvJ (dvI (va_cpy bt (flL re 0 26) 0 0 dt) (gnI (va_up (flL ge 0 18) 0 1) (26 - dt)) (26 - dt) k) (gnI (va_up (flL ge 0 18) 0 1) (26 - dt)) k (dvI (va_cpy bt (flL re 0 26) 0 0 dt) (gnI (va_up (flL ge 0 18) 0 1) (26 - dt)) (26 - dt) k k) j) z9)))), (ba, .inl (cI, 26, .inl (fun j => nI (bt j))))] → va_S A H0 H locs → W p l e R s m args below meth c H locs cells slots Q (F0 m 50 ls []) := by
  obtain ⟨hx, hb, hml, hown, hts⟩ := id S
  refine up_loop (fun j hkj ih => ?_)
  intro ls H locs hl hP hD hS
  have hs1 := gnI_lt (gs0_lt ge) (26 - dt) (by omega)
  have ht1 := dvI_lt (x := 26 - dt) (t1_lt (dt := dt) re hbt) hs1 k (by omega) k (by omega)
  refine lv_iload hx hb d_q_Checks_append_50 (lv_at hl 6 rfl) ?_
  refine lv_iload_n hx hb d_q_Checks_append_52 rfl (lv_at hl 3 rfl) ?_
  refine n_icmp_gt hx hb d_q_Checks_append_53 (tgt := 91) rfl (by omega) (by omega) (fun g53 => ?_) (fun g53 => ?_)
  · skip
    obtain rfl : j = 26 - dt + 1 := by omega
    exact kx ls H locs (lv_sub hl [0, 1, 2, 3, 4, 5, 6] rfl) hP hD hS
  · skip
    have hs2 := hs1 j (by omega)
    refine lv_aload_n hx hb d_q_Checks_append_56 rfl (lv_at hl 0 rfl) ?_
    refine n_get (C := R_Checks) (T := F_Checks) (N := 8) (v := .ref c2) hx hb hts u_Checks_in hown hK hP 0 rfl rfl 2 (by decide) kw_110 rfl d_q_Checks_append_57 ?_
    refine lv_iload hx hb d_q_Checks_append_60 (lv_at hl 4 rfl) ?_
    refine lv_iload hx hb d_q_Checks_append_62 (lv_at hl 6 rfl) ?_
    refine n_iadd hx hb d_q_Checks_append_64 ?_
    refine lv_dup2_11 hx hb d_q_Checks_append_65 rfl rfl ?_
    refine n_iald hx hb hK hP 5 0 rfl rfl (by omega) (by decide) d_q_Checks_append_66 ?_
    refine lv_aload_n hx hb d_q_Checks_append_67 rfl (lv_at hl 0 rfl) ?_
    refine n_get (C := R_Checks) (T := F_Checks) (N := 8) (v := .ref fo) hx hb hts u_Checks_in hown hK hP 0 rfl rfl 0 (by decide) kw_108 rfl d_q_Checks_append_68 ?_
    refine lv_iload hx hb d_q_Checks_append_71 (lv_at hl 5 rfl) ?_
    refine lv_aload_n hx hb d_q_Checks_append_73 rfl (lv_at hl 0 rfl) ?_
    refine n_get (C := R_Checks) (T := F_Checks) (N := 8) (v := .ref c1) hx hb hts u_Checks_in hown hK hP 0 rfl rfl 1 (by decide) kw_109 rfl d_q_Checks_append_74 ?_
    refine lv_iload hx hb d_q_Checks_append_77 (lv_at hl 6 rfl) ?_
    refine n_iald hx hb hK hP 4 0 rfl rfl (by omega) (by decide) d_q_Checks_append_79 ?_
    refine q_readV (n := 2) (As := [.int (nI (dvI (va_cpy bt (flL re 0 26) 0 0 dt) (gnI (va_up (flL ge 0 18) 0 1) (26 - dt)) (26 - dt) k k)), .int (nI ((gnI (va_up (flL ge 0 18) 0 1) (26 - dt)) j))]) (rest := [.int (nI ((dvJ (dvI (va_cpy bt (flL re 0 26) 0 0 dt) (gnI (va_up (flL ge 0 18) 0 1) (26 - dt)) (26 - dt) k) (gnI (va_up (flL ge 0 18) 0 1) (26 - dt)) k (dvI (va_cpy bt (flL re 0 26) 0 0 dt) (gnI (va_up (flL ge 0 18) 0 1) (26 - dt)) (26 - dt) k k) j) (k + j))), .int (nI (k + j)), .ref c2]) (wc := [(fo, .inr (1, [.ref fp, .ref fl])), (fp, .inl (cI, 255, .inl (fun j => nI (po j)))), (fl, .inl (cI, 256, .inl (fun j => nI (lo j))))]) S (c_q_Field_product l D cI cC fo fp fl po lo (dvI (va_cpy bt (flL re 0 26) 0 0 dt) (gnI (va_up (flL ge 0 18) 0 1) (26 - dt)) (26 - dt) k k) ((gnI (va_up (flL ge 0 18) 0 1) (26 - dt)) j) (by omega) (by omega) hF) hK hP (q0 := 1) rfl rfl [1, 2, 3] rfl (q_goodV kw_540 kw_541 kw_542 kw_5 kw_543) (by decide +kernel) rfl rfl rfl ⟨Nat.le_trans (Nat.le_of_ble_eq_true rfl) hRf, Nat.le_trans (Nat.le_of_ble_eq_true rfl) hRl⟩ rfl hl.1 rfl (Nat.le_of_ble_eq_true rfl) d_q_Checks_append_80 hRc hS (fun H locs hP hS => ?_)
    refine n_ixor hx hb d_q_Checks_append_83 ?_
    refine n_iast hx hb hK hP hD hS 5 0 rfl rfl (by omega) (by decide) d_q_Checks_append_84 (fun H locs hP hD hS => ?_)
    have hP : va_P D classes [(co, .inr (0, [.ref fo, .ref c1, .ref c2, .ref c3, .ref c4, .ref c5, .ref c6, .ref c7])), (fo, .inr (1, [.ref fp, .ref fl])), (fp, .inl (cI, 255, .inl (fun j => nI (po j)))), (fl, .inl (cI, 256, .inl (fun j => nI (lo j)))), (c1, .inl (cI, 18, .inl (fun j => nI ((gnI (va_up (flL ge 0 18) 0 1) (26 - dt)) j)))), (c2, .inl (cI, 26, .inl (fun z9 => nI ((va_up (dvJ (dvI (va_cpy bt (flL re 0 26) 0 0 dt) (gnI (va_up (flL ge 0 18) 0 1) (26 - dt)) (26 - dt) k) (gnI (va_up (flL ge 0 18) 0 1) (26 - dt)) k (dvI (va_cpy bt (flL re 0 26) 0 0 dt) (gnI (va_up (flL ge 0 18) 0 1) (26 - dt)) (26 - dt) k k) j) (k + j) (((dvJ (dvI (va_cpy bt (flL re 0 26) 0 0 dt) (gnI (va_up (flL ge 0 18) 0 1) (26 - dt)) (26 - dt) k) (gnI (va_up (flL ge 0 18) 0 1) (26 - dt)) k (dvI (va_cpy bt (flL re 0 26) 0 0 dt) (gnI (va_up (flL ge 0 18) 0 1) (26 - dt)) (26 - dt) k k) j) (k + j)) ^^^ (gm (dvI (va_cpy bt (flL re 0 26) 0 0 dt) (gnI (va_up (flL ge 0 18) 0 1) (26 - dt)) (26 - dt) k k) ((gnI (va_up (flL ge 0 18) 0 1) (26 - dt)) j)))) z9)))), (ba, .inl (cI, 26, .inl (fun j => nI (bt j))))] H := hP
    have hD : va_D A [(co, .inr (0, [.ref fo, .ref c1, .ref c2, .ref c3, .ref c4, .ref c5, .ref c6, .ref c7])), (fo, .inr (1, [.ref fp, .ref fl])), (fp, .inl (cI, 255, .inl (fun j => nI (po j)))), (fl, .inl (cI, 256, .inl (fun j => nI (lo j)))), (c1, .inl (cI, 18, .inl (fun j => nI ((gnI (va_up (flL ge 0 18) 0 1) (26 - dt)) j)))), (c2, .inl (cI, 26, .inl (fun z9 => nI ((va_up (dvJ (dvI (va_cpy bt (flL re 0 26) 0 0 dt) (gnI (va_up (flL ge 0 18) 0 1) (26 - dt)) (26 - dt) k) (gnI (va_up (flL ge 0 18) 0 1) (26 - dt)) k (dvI (va_cpy bt (flL re 0 26) 0 0 dt) (gnI (va_up (flL ge 0 18) 0 1) (26 - dt)) (26 - dt) k k) j) (k + j) (((dvJ (dvI (va_cpy bt (flL re 0 26) 0 0 dt) (gnI (va_up (flL ge 0 18) 0 1) (26 - dt)) (26 - dt) k) (gnI (va_up (flL ge 0 18) 0 1) (26 - dt)) k (dvI (va_cpy bt (flL re 0 26) 0 0 dt) (gnI (va_up (flL ge 0 18) 0 1) (26 - dt)) (26 - dt) k k) j) (k + j)) ^^^ (gm (dvI (va_cpy bt (flL re 0 26) 0 0 dt) (gnI (va_up (flL ge 0 18) 0 1) (26 - dt)) (26 - dt) k k) ((gnI (va_up (flL ge 0 18) 0 1) (26 - dt)) j)))) z9)))), (ba, .inl (cI, 26, .inl (fun j => nI (bt j))))] := hD
    rw [show va_up (dvJ (dvI (va_cpy bt (flL re 0 26) 0 0 dt) (gnI (va_up (flL ge 0 18) 0 1) (26 - dt)) (26 - dt) k) (gnI (va_up (flL ge 0 18) 0 1) (26 - dt)) k (dvI (va_cpy bt (flL re 0 26) 0 0 dt) (gnI (va_up (flL ge 0 18) 0 1) (26 - dt)) (26 - dt) k k) j) (k + j) (((dvJ (dvI (va_cpy bt (flL re 0 26) 0 0 dt) (gnI (va_up (flL ge 0 18) 0 1) (26 - dt)) (26 - dt) k) (gnI (va_up (flL ge 0 18) 0 1) (26 - dt)) k (dvI (va_cpy bt (flL re 0 26) 0 0 dt) (gnI (va_up (flL ge 0 18) 0 1) (26 - dt)) (26 - dt) k k) j) (k + j)) ^^^ (gm (dvI (va_cpy bt (flL re 0 26) 0 0 dt) (gnI (va_up (flL ge 0 18) 0 1) (26 - dt)) (26 - dt) k k) ((gnI (va_up (flL ge 0 18) 0 1) (26 - dt)) j))) = dvJ (dvI (va_cpy bt (flL re 0 26) 0 0 dt) (gnI (va_up (flL ge 0 18) 0 1) (26 - dt)) (26 - dt) k) (gnI (va_up (flL ge 0 18) 0 1) (26 - dt)) k (dvI (va_cpy bt (flL re 0 26) 0 0 dt) (gnI (va_up (flL ge 0 18) 0 1) (26 - dt)) (26 - dt) k k) (j + 1) from rfl] at hP hD
    refine lv_iinc (k := 6) (v := nI (j + 1)) hx hb d_q_Checks_append_85 hl rfl (nx_inc j 1) (Nat.le_of_ble_eq_true rfl) rfl (fun ls hl => ?_)
    have hl : lv_has ls 7 [(6, .int (nI (j + 1))), (0, .ref co), (1, .ref ba), (2, .int (nI dt)), (3, .int (nI (26 - dt))), (4, .int (nI k)), (5, .int (nI (dvI (va_cpy bt (flL re 0 26) 0 0 dt) (gnI (va_up (flL ge 0 18) 0 1) (26 - dt)) (26 - dt) k k)))] := hl
    refine lv_goto hx hb d_q_Checks_append_88 (tgt := 50) rfl ?_
    exact ih (by omega) ls H locs (lv_sub hl [1, 2, 3, 4, 5, 6, 0] rfl) hP hD hS
set_option maxHeartbeats 1000000 in
set_option maxRecDepth 100000 in
theorem lp_q_Checks_append_32 (cI cC : ClassId) (co c1 c2 c3 c4 c5 c6 c7 fo fp fl : Nat) (po lo ge re bt : Nat → Nat) (ba dt : Nat) (hd1 : 9 ≤ dt) (hd2 : dt ≤ 26) (hbt : lt256 26 bt) (hF : fldOK po lo) (S : CallFix p m c b_q_Checks_append 7 s args (cd_q_Checks_append :: WS) R_Checks) (hRf : 3 ≤ R.frames) (hRl : 66 ≤ R.locals) (hRc : cells ≤ R.cells ∧ slots ≤ R.slots) (hK : va_K D classes [(cI, .int), (cC, .char)] s) (hA : ∀ q, H0.size ≤ q → A q) (kx : ∀ (ls : Array Slot) (H : Heap) (locs : List Loc), lv_has ls 7 [(0, .ref co), (1, .ref ba), (2, .int (nI dt)), (3, .int (nI (26 - dt))), (4, .int (nI dt))] → va_P D classes [(co, .inr (0, [.ref fo, .ref c1, .ref c2, .ref c3, .ref c4, .ref c5, .ref c6, .ref c7])), (fo, .inr (1, [.ref fp, .ref fl])), (fp, .inl (cI, 255, .inl (fun j => nI (po j)))), (fl, .inl (cI, 256, .inl (fun j => nI (lo j)))), (c1, .inl (cI, 18, .inl (fun j => nI ((gnI (va_up (flL ge 0 18) 0 1) (26 - dt)) j)))), (c2, .inl (cI, 26, .inl (fun j => nI ((dvI (va_cpy bt (flL re 0 26) 0 0 dt) (gnI (va_up (flL ge 0 18) 0 1) (26 - dt)) (26 - dt) dt) j)))), (ba, .inl (cI, 26, .inl (fun j => nI (bt j))))] H → va_D A [(co, .inr (0, [.ref fo, .ref c1, .ref c2, .ref c3, .ref c4, .ref c5, .ref c6, .ref c7])), (fo, .inr (1, [.ref fp, .ref fl])), (fp, .inl (cI, 255, .inl (fun j => nI (po j)))), (fl, .inl (cI, 256, .inl (fun j => nI (lo j)))), (c1, .inl (cI, 18, .inl (fun j => nI ((gnI (va_up (flL ge 0 18) 0 1) (26 - dt)) j)))), (c2, .inl (cI, 26, .inl (fun j => nI ((dvI (va_cpy bt (flL re 0 26) 0 0 dt) (gnI (va_up (flL ge 0 18) 0 1) (26 - dt)) (26 - dt) dt) j)))), (ba, .inl (cI, 26, .inl (fun j => nI (bt j))))] → va_S A H0 H locs → W p l e R s m args below meth c H locs cells slots Q (F0 m 97 ls [])) :
    ∀ k, k ≤ dt → ∀ (ls : Array Slot) (H : Heap) (locs : List Loc), lv_has ls 7 [(0, .ref co), (1, .ref ba), (2, .int (nI dt)), (3, .int (nI (26 - dt))), (4, .int (nI k))] → va_P D classes [(co, .inr (0, [.ref fo, .ref c1, .ref c2, .ref c3, .ref c4, .ref c5, .ref c6, .ref c7])), (fo, .inr (1, [.ref fp, .ref fl])), (fp, .inl (cI, 255, .inl (fun j => nI (po j)))), (fl, .inl (cI, 256, .inl (fun j => nI (lo j)))), (c1, .inl (cI, 18, .inl (fun j => nI ((gnI (va_up (flL ge 0 18) 0 1) (26 - dt)) j)))), (c2, .inl (cI, 26, .inl (fun j => nI ((dvI (va_cpy bt (flL re 0 26) 0 0 dt) (gnI (va_up (flL ge 0 18) 0 1) (26 - dt)) (26 - dt) k) j)))), (ba, .inl (cI, 26, .inl (fun j => nI (bt j))))] H → va_D A [(co, .inr (0, [.ref fo, .ref c1, .ref c2, .ref c3, .ref c4, .ref c5, .ref c6, .ref c7])), (fo, .inr (1, [.ref fp, .ref fl])), (fp, .inl (cI, 255, .inl (fun j => nI (po j)))), (fl, .inl (cI, 256, .inl (fun j => nI (lo j)))), (c1, .inl (cI, 18, .inl (fun j => nI ((gnI (va_up (flL ge 0 18) 0 1) (26 - dt)) j)))), (c2, .inl (cI, 26, .inl (fun j => nI ((dvI (va_cpy bt (flL re 0 26) 0 0 dt) (gnI (va_up (flL ge 0 18) 0 1) (26 - dt)) (26 - dt) k) j)))), (ba, .inl (cI, 26, .inl (fun j => nI (bt j))))] → va_S A H0 H locs → W p l e R s m args below meth c H locs cells slots Q (F0 m 32 ls []) := by
  obtain ⟨hx, hb, hml, hown, hts⟩ := id S
  refine up_loop (fun k hkk ih => ?_)
  intro ls H locs hl hP hD hS
  refine lv_iload hx hb d_q_Checks_append_32 (lv_at hl 4 rfl) ?_
  refine lv_iload_n hx hb d_q_Checks_append_34 rfl (lv_at hl 2 rfl) ?_
  refine n_icmp_ge hx hb d_q_Checks_append_35 (tgt := 97) rfl (by omega) (by omega) (fun g35 => ?_) (fun g35 => ?_)
  · skip
    obtain rfl : k = dt := by omega
    exact kx ls H locs (lv_sub hl [0, 1, 2, 3, 4] rfl) hP hD hS
  · skip
    refine lv_aload_n hx hb d_q_Checks_append_38 rfl (lv_at hl 0 rfl) ?_
    refine n_get (C := R_Checks) (T := F_Checks) (N := 8) (v := .ref c2) hx hb hts u_Checks_in hown hK hP 0 rfl rfl 2 (by decide) kw_110 rfl d_q_Checks_append_39 ?_
    refine lv_iload hx hb d_q_Checks_append_42 (lv_at hl 4 rfl) ?_
    refine n_iald hx hb hK hP 5 0 rfl rfl (by omega) (by decide) d_q_Checks_append_44 ?_
    refine lv_istore hx hb d_q_Checks_append_45 hl (Nat.le_of_ble_eq_true rfl) rfl (fun ls hl => ?_)
    have hl : lv_has ls 7 [(5, .int (nI ((dvI (va_cpy bt (flL re 0 26) 0 0 dt) (gnI (va_up (flL ge 0 18) 0 1) (26 - dt)) (26 - dt) k) k))), (0, .ref co), (1, .ref ba), (2, .int (nI dt)), (3, .int (nI (26 - dt))), (4, .int (nI k))] := hl
    refine lv_iconst (v := nI 0) hx hb d_q_Checks_append_47 (by decide) ?_
    refine lv_istore hx hb d_q_Checks_append_48 hl (Nat.le_of_ble_eq_true rfl) rfl (fun ls hl => ?_)
    have hl : lv_has ls 7 [(6, .int (nI 0)), (5, .int (nI ((dvI (va_cpy bt (flL re 0 26) 0 0 dt) (gnI (va_up (flL ge 0 18) 0 1) (26 - dt)) (26 - dt) k) k))), (0, .ref co), (1, .ref ba), (2, .int (nI dt)), (3, .int (nI (26 - dt))), (4, .int (nI k))] := hl
    refine lp_q_Checks_append_50 cI cC co c1 c2 c3 c4 c5 c6 c7 fo fp fl po lo ge re bt ba dt hd1 hd2 hbt hF S hRf hRl hRc hK hA k (by omega) (fun ls H locs hl hP hD hS => ?_) 0 (by omega) ls H locs (lv_sub hl [2, 3, 4, 5, 6, 1, 0] rfl) hP hD hS
    refine lv_iinc (k := 4) (v := nI (k + 1)) hx hb d_q_Checks_append_91 hl rfl (nx_inc k 1) (Nat.le_of_ble_eq_true rfl) rfl (fun ls hl => ?_)
    have hl : lv_has ls 7 [(4, .int (nI (k + 1))), (0, .ref co), (1, .ref ba), (2, .int (nI dt)), (3, .int (nI (26 - dt))), (5, .int (nI (dvI (va_cpy bt (flL re 0 26) 0 0 dt) (gnI (va_up (flL ge 0 18) 0 1) (26 - dt)) (26 - dt) k k))), (6, .int (nI (26 - dt + 1)))] := hl
    refine lv_goto hx hb d_q_Checks_append_94 (tgt := 32) rfl ?_
    exact ih (by omega) ls H locs (lv_sub hl [1, 2, 3, 4, 0] rfl) hP hD hS
set_option maxHeartbeats 1000000 in
set_option maxRecDepth 100000 in
theorem bd_q_Checks_append (cI cC : ClassId) (co c1 c2 c3 c4 c5 c6 c7 fo fp fl : Nat) (po lo ge re bt : Nat → Nat) (ba dt : Nat) (hd1 : 9 ≤ dt) (hd2 : dt ≤ 26) (hbt : lt256 26 bt) (hF : fldOK po lo) (S : CallFix p m c b_q_Checks_append 7 s args (cd_q_Checks_append :: WS) R_Checks) (hRf : 3 ≤ R.frames) (hRl : 66 ≤ R.locals) (hRc : cells ≤ R.cells ∧ slots ≤ R.slots) (hK : va_K D classes [(cI, .int), (cC, .char)] s) (hA : ∀ q, H0.size ≤ q → A q) (kr : ∀ (pc : Nat) (ls : Array Slot) (H : Heap) (locs : List Loc), decode b_q_Checks_append pc = .ok (.return_, 1) → va_P D classes [(co, .inr (0, [.ref fo, .ref c1, .ref c2, .ref c3, .ref c4, .ref c5, .ref c6, .ref c7])), (fo, .inr (1, [.ref fp, .ref fl])), (fp, .inl (cI, 255, .inl (fun j => nI (po j)))), (fl, .inl (cI, 256, .inl (fun j => nI (lo j)))), (c1, .inl (cI, 18, .inl (fun j => nI ((gnI (va_up (flL ge 0 18) 0 1) (26 - dt)) j)))), (c2, .inl (cI, 26, .inl (fun j => nI ((dvI (va_cpy bt (flL re 0 26) 0 0 dt) (gnI (va_up (flL ge 0 18) 0 1) (26 - dt)) (26 - dt) dt) j)))), (ba, .inl (cI, 26, .inl (fun j => nI ((va_cpy (dvI (va_cpy bt (flL re 0 26) 0 0 dt) (gnI (va_up (flL ge 0 18) 0 1) (26 - dt)) (26 - dt) dt) bt dt dt (26 - dt)) j))))] H → va_D A [(co, .inr (0, [.ref fo, .ref c1, .ref c2, .ref c3, .ref c4, .ref c5, .ref c6, .ref c7])), (fo, .inr (1, [.ref fp, .ref fl])), (fp, .inl (cI, 255, .inl (fun j => nI (po j)))), (fl, .inl (cI, 256, .inl (fun j => nI (lo j)))), (c1, .inl (cI, 18, .inl (fun j => nI ((gnI (va_up (flL ge 0 18) 0 1) (26 - dt)) j)))), (c2, .inl (cI, 26, .inl (fun j => nI ((dvI (va_cpy bt (flL re 0 26) 0 0 dt) (gnI (va_up (flL ge 0 18) 0 1) (26 - dt)) (26 - dt) dt) j)))), (ba, .inl (cI, 26, .inl (fun j => nI ((va_cpy (dvI (va_cpy bt (flL re 0 26) 0 0 dt) (gnI (va_up (flL ge 0 18) 0 1) (26 - dt)) (26 - dt) dt) bt dt dt (26 - dt)) j))))] → va_S A H0 H locs → W p l e R s m args below meth c H locs cells slots Q (F0 m pc ls [])) : ∀ (ls : Array Slot) (H : Heap) (locs : List Loc), lv_has ls 7 [(0, .ref co), (1, .ref ba), (2, .int (nI dt))] → va_P D classes [(co, .inr (0, [.ref fo, .ref c1, .ref c2, .ref c3, .ref c4, .ref c5, .ref c6, .ref c7])), (fo, .inr (1, [.ref fp, .ref fl])), (fp, .inl (cI, 255, .inl (fun j => nI (po j)))), (fl, .inl (cI, 256, .inl (fun j => nI (lo j)))), (c1, .inl (cI, 18, .inl (fun j => nI (ge j)))), (c2, .inl (cI, 26, .inl (fun j => nI (re j)))), (ba, .inl (cI, 26, .inl (fun j => nI (bt j))))] H → va_D A [(co, .inr (0, [.ref fo, .ref c1, .ref c2, .ref c3, .ref c4, .ref c5, .ref c6, .ref c7])), (fo, .inr (1, [.ref fp, .ref fl])), (fp, .inl (cI, 255, .inl (fun j => nI (po j)))), (fl, .inl (cI, 256, .inl (fun j => nI (lo j)))), (c1, .inl (cI, 18, .inl (fun j => nI (ge j)))), (c2, .inl (cI, 26, .inl (fun j => nI (re j)))), (ba, .inl (cI, 26, .inl (fun j => nI (bt j))))] → va_S A H0 H locs → W p l e R s m args below meth c H locs cells slots Q (F0 m 0 ls []) := by
  obtain ⟨hx, hb, hml, hown, hts⟩ := id S
  intro ls H locs hl hP hD hS
  refine lv_bipush (v := nI 26) hx hb d_q_Checks_append_0 (by decide) ?_
  refine lv_iload_n hx hb d_q_Checks_append_2 rfl (lv_at hl 2 rfl) ?_
  refine n_isub hx hb d_q_Checks_append_3 (by omega) ?_
  refine lv_istore_n hx hb d_q_Checks_append_4 rfl hl (Nat.le_of_ble_eq_true rfl) rfl (fun ls hl => ?_)
  have hl : lv_has ls 7 [(3, .int (nI (26 - dt))), (0, .ref co), (1, .ref ba), (2, .int (nI dt))] := hl
  refine lv_aload_n hx hb d_q_Checks_append_5 rfl (lv_at hl 1 rfl) ?_
  refine lv_iload_n hx hb d_q_Checks_append_6 rfl (lv_at hl 0 rfl) ?_
  refine q_writeVv (n := 1) (As := [.int (nI (26 - dt))]) (rest := []) (wc := [(co, .inr (0, [.ref fo, .ref c1, .ref c2, .ref c3, .ref c4, .ref c5, .ref c6, .ref c7])), (fo, .inr (1, [.ref fp, .ref fl])), (fp, .inl (cI, 255, .inl (fun j => nI (po j)))), (fl, .inl (cI, 256, .inl (fun j => nI (lo j)))), (c1, .inl (cI, 18, .inl (fun j => nI (ge j))))]) (wr := [(c2, .inl (cI, 26, .inl (fun j => nI (re j)))), (ba, .inl (cI, 26, .inl (fun j => nI (bt j))))]) (w1 := [(co, .inr (0, [.ref fo, .ref c1, .ref c2, .ref c3, .ref c4, .ref c5, .ref c6, .ref c7])), (fo, .inr (1, [.ref fp, .ref fl])), (fp, .inl (cI, 255, .inl (fun j => nI (po j)))), (fl, .inl (cI, 256, .inl (fun j => nI (lo j)))), (c1, .inl (cI, 18, .inl (fun j => nI ((gnI (va_up (flL ge 0 18) 0 1) (26 - dt)) j))))]) S (c_q_Checks_makeGenerator l D cI cC co c1 c2 c3 c4 c5 c6 c7 fo fp fl po lo ge (26 - dt) (by omega) hF H.size) hK hP hD hA (q0 := 0) rfl rfl [0, 1, 2, 3, 4] [5, 6] rfl rfl rfl rfl (by decide) rfl (q_goodV kw_528 kw_530 ks_7 kw_4 kw_531) (by decide +kernel) rfl rfl rfl ⟨Nat.le_trans (Nat.le_of_ble_eq_true rfl) hRf, Nat.le_trans (Nat.le_of_ble_eq_true rfl) hRl⟩ rfl hl.1 rfl (Nat.le_of_ble_eq_true rfl) d_q_Checks_append_7 hRc hS (fun H locs hP hD hS => ?_)
  replace hP : va_P D classes [(co, .inr (0, [.ref fo, .ref c1, .ref c2, .ref c3, .ref c4, .ref c5, .ref c6, .ref c7])), (fo, .inr (1, [.ref fp, .ref fl])), (fp, .inl (cI, 255, .inl (fun j => nI (po j)))), (fl, .inl (cI, 256, .inl (fun j => nI (lo j)))), (c1, .inl (cI, 18, .inl (fun j => nI ((gnI (va_up (flL ge 0 18) 0 1) (26 - dt)) j)))), (c2, .inl (cI, 26, .inl (fun j => nI (re j)))), (ba, .inl (cI, 26, .inl (fun j => nI (bt j))))] H := hP.sub [2, 3, 4, 5, 6, 0, 1] rfl
  replace hD : va_D A [(co, .inr (0, [.ref fo, .ref c1, .ref c2, .ref c3, .ref c4, .ref c5, .ref c6, .ref c7])), (fo, .inr (1, [.ref fp, .ref fl])), (fp, .inl (cI, 255, .inl (fun j => nI (po j)))), (fl, .inl (cI, 256, .inl (fun j => nI (lo j)))), (c1, .inl (cI, 18, .inl (fun j => nI ((gnI (va_up (flL ge 0 18) 0 1) (26 - dt)) j)))), (c2, .inl (cI, 26, .inl (fun j => nI (re j)))), (ba, .inl (cI, 26, .inl (fun j => nI (bt j))))] := hD.sub [2, 3, 4, 5, 6, 0, 1] rfl rfl
  refine lv_aload_n hx hb d_q_Checks_append_10 rfl (lv_at hl 1 rfl) ?_
  refine n_get (C := R_Checks) (T := F_Checks) (N := 8) (v := .ref c2) hx hb hts u_Checks_in hown hK hP 0 rfl rfl 2 (by decide) kw_110 rfl d_q_Checks_append_11 ?_
  refine lv_iconst (v := nI 0) hx hb d_q_Checks_append_14 (by decide) ?_
  refine q_writeSv (n := 2) (As := [.ref c2, .int (nI 0)]) (rest := []) (wc := [(c2, .inl (cI, 26, .inl (fun j => nI (re j))))]) (wr := [(co, .inr (0, [.ref fo, .ref c1, .ref c2, .ref c3, .ref c4, .ref c5, .ref c6, .ref c7])), (fo, .inr (1, [.ref fp, .ref fl])), (fp, .inl (cI, 255, .inl (fun j => nI (po j)))), (fl, .inl (cI, 256, .inl (fun j => nI (lo j)))), (c1, .inl (cI, 18, .inl (fun j => nI ((gnI (va_up (flL ge 0 18) 0 1) (26 - dt)) j)))), (ba, .inl (cI, 26, .inl (fun j => nI (bt j))))]) (w1 := [(c2, .inl (cI, 26, .inl (fun j => nI ((flL re 0 26) j))))]) S (c_j_Arrays_fill l D cI cC c2 26 re 0 (by decide) H.size) hK hP hD hA [5] [0, 1, 2, 3, 4, 6] rfl rfl rfl rfl (by decide) rfl (q_goodS kw_532 kw_169 kw_9 kw_170) (by decide +kernel) rfl rfl ⟨Nat.le_trans (Nat.le_of_ble_eq_true rfl) hRf, Nat.le_trans (Nat.le_of_ble_eq_true rfl) hRl⟩ rfl hl.1 rfl (Nat.le_of_ble_eq_true rfl) d_q_Checks_append_15 hRc hS (fun H locs hP hD hS => ?_)
  replace hP : va_P D classes [(co, .inr (0, [.ref fo, .ref c1, .ref c2, .ref c3, .ref c4, .ref c5, .ref c6, .ref c7])), (fo, .inr (1, [.ref fp, .ref fl])), (fp, .inl (cI, 255, .inl (fun j => nI (po j)))), (fl, .inl (cI, 256, .inl (fun j => nI (lo j)))), (c1, .inl (cI, 18, .inl (fun j => nI ((gnI (va_up (flL ge 0 18) 0 1) (26 - dt)) j)))), (c2, .inl (cI, 26, .inl (fun j => nI ((flL re 0 26) j)))), (ba, .inl (cI, 26, .inl (fun j => nI (bt j))))] H := hP.sub [0, 1, 2, 3, 4, 6, 5] rfl
  replace hD : va_D A [(co, .inr (0, [.ref fo, .ref c1, .ref c2, .ref c3, .ref c4, .ref c5, .ref c6, .ref c7])), (fo, .inr (1, [.ref fp, .ref fl])), (fp, .inl (cI, 255, .inl (fun j => nI (po j)))), (fl, .inl (cI, 256, .inl (fun j => nI (lo j)))), (c1, .inl (cI, 18, .inl (fun j => nI ((gnI (va_up (flL ge 0 18) 0 1) (26 - dt)) j)))), (c2, .inl (cI, 26, .inl (fun j => nI ((flL re 0 26) j)))), (ba, .inl (cI, 26, .inl (fun j => nI (bt j))))] := hD.sub [0, 1, 2, 3, 4, 6, 5] rfl rfl
  refine lv_aload_n hx hb d_q_Checks_append_18 rfl (lv_at hl 2 rfl) ?_
  refine lv_iconst (v := nI 0) hx hb d_q_Checks_append_19 (by decide) ?_
  refine lv_aload_n hx hb d_q_Checks_append_20 rfl (lv_at hl 1 rfl) ?_
  refine n_get (C := R_Checks) (T := F_Checks) (N := 8) (v := .ref c2) hx hb hts u_Checks_in hown hK hP 0 rfl rfl 2 (by decide) kw_110 rfl d_q_Checks_append_21 ?_
  refine lv_iconst (v := nI 0) hx hb d_q_Checks_append_24 (by decide) ?_
  refine lv_iload_n hx hb d_q_Checks_append_25 rfl (lv_at hl 3 rfl) ?_
  refine n_copyi S hl.1 kw_544 kw_546 kw_545 kw_24 hK hP hD hS 6 5 0 rfl rfl rfl rfl (by omega) (by omega) (by decide) (by decide) (Nat.le_trans (Nat.le_of_ble_eq_true rfl) hRf) (Nat.le_trans (Nat.le_of_ble_eq_true rfl) hRl) d_q_Checks_append_26 (fun H locs hP hD hS => ?_)
  have hP : va_P D classes [(co, .inr (0, [.ref fo, .ref c1, .ref c2, .ref c3, .ref c4, .ref c5, .ref c6, .ref c7])), (fo, .inr (1, [.ref fp, .ref fl])), (fp, .inl (cI, 255, .inl (fun j => nI (po j)))), (fl, .inl (cI, 256, .inl (fun j => nI (lo j)))), (c1, .inl (cI, 18, .inl (fun j => nI ((gnI (va_up (flL ge 0 18) 0 1) (26 - dt)) j)))), (c2, .inl (cI, 26, .inl (fun j => nI ((va_cpy bt (flL re 0 26) 0 0 dt) j)))), (ba, .inl (cI, 26, .inl (fun j => nI (bt j))))] H := hP
  have hD : va_D A [(co, .inr (0, [.ref fo, .ref c1, .ref c2, .ref c3, .ref c4, .ref c5, .ref c6, .ref c7])), (fo, .inr (1, [.ref fp, .ref fl])), (fp, .inl (cI, 255, .inl (fun j => nI (po j)))), (fl, .inl (cI, 256, .inl (fun j => nI (lo j)))), (c1, .inl (cI, 18, .inl (fun j => nI ((gnI (va_up (flL ge 0 18) 0 1) (26 - dt)) j)))), (c2, .inl (cI, 26, .inl (fun j => nI ((va_cpy bt (flL re 0 26) 0 0 dt) j)))), (ba, .inl (cI, 26, .inl (fun j => nI (bt j))))] := hD
  refine lv_iconst (v := nI 0) hx hb d_q_Checks_append_29 (by decide) ?_
  refine lv_istore hx hb d_q_Checks_append_30 hl (Nat.le_of_ble_eq_true rfl) rfl (fun ls hl => ?_)
  have hl : lv_has ls 7 [(4, .int (nI 0)), (3, .int (nI (26 - dt))), (0, .ref co), (1, .ref ba), (2, .int (nI dt))] := hl
  refine lp_q_Checks_append_32 cI cC co c1 c2 c3 c4 c5 c6 c7 fo fp fl po lo ge re bt ba dt hd1 hd2 hbt hF S hRf hRl hRc hK hA  (fun ls H locs hl hP hD hS => ?_) 0 (by omega) ls H locs (lv_sub hl [2, 3, 4, 1, 0] rfl) hP hD hS
  refine lv_aload_n hx hb d_q_Checks_append_97 rfl (lv_at hl 0 rfl) ?_
  refine n_get (C := R_Checks) (T := F_Checks) (N := 8) (v := .ref c2) hx hb hts u_Checks_in hown hK hP 0 rfl rfl 2 (by decide) kw_110 rfl d_q_Checks_append_98 ?_
  refine lv_iload_n hx hb d_q_Checks_append_101 rfl (lv_at hl 2 rfl) ?_
  refine lv_aload_n hx hb d_q_Checks_append_102 rfl (lv_at hl 1 rfl) ?_
  refine lv_iload_n hx hb d_q_Checks_append_103 rfl (lv_at hl 2 rfl) ?_
  refine lv_iload_n hx hb d_q_Checks_append_104 rfl (lv_at hl 3 rfl) ?_
  refine n_copyi S hl.1 kw_544 kw_546 kw_545 kw_24 hK hP hD hS 5 6 0 rfl rfl rfl rfl (by omega) (by omega) (by decide) (by decide) (Nat.le_trans (Nat.le_of_ble_eq_true rfl) hRf) (Nat.le_trans (Nat.le_of_ble_eq_true rfl) hRl) d_q_Checks_append_105 (fun H locs hP hD hS => ?_)
  have hP : va_P D classes [(co, .inr (0, [.ref fo, .ref c1, .ref c2, .ref c3, .ref c4, .ref c5, .ref c6, .ref c7])), (fo, .inr (1, [.ref fp, .ref fl])), (fp, .inl (cI, 255, .inl (fun j => nI (po j)))), (fl, .inl (cI, 256, .inl (fun j => nI (lo j)))), (c1, .inl (cI, 18, .inl (fun j => nI ((gnI (va_up (flL ge 0 18) 0 1) (26 - dt)) j)))), (c2, .inl (cI, 26, .inl (fun j => nI ((dvI (va_cpy bt (flL re 0 26) 0 0 dt) (gnI (va_up (flL ge 0 18) 0 1) (26 - dt)) (26 - dt) dt) j)))), (ba, .inl (cI, 26, .inl (fun j => nI ((va_cpy (dvI (va_cpy bt (flL re 0 26) 0 0 dt) (gnI (va_up (flL ge 0 18) 0 1) (26 - dt)) (26 - dt) dt) bt dt dt (26 - dt)) j))))] H := hP
  have hD : va_D A [(co, .inr (0, [.ref fo, .ref c1, .ref c2, .ref c3, .ref c4, .ref c5, .ref c6, .ref c7])), (fo, .inr (1, [.ref fp, .ref fl])), (fp, .inl (cI, 255, .inl (fun j => nI (po j)))), (fl, .inl (cI, 256, .inl (fun j => nI (lo j)))), (c1, .inl (cI, 18, .inl (fun j => nI ((gnI (va_up (flL ge 0 18) 0 1) (26 - dt)) j)))), (c2, .inl (cI, 26, .inl (fun j => nI ((dvI (va_cpy bt (flL re 0 26) 0 0 dt) (gnI (va_up (flL ge 0 18) 0 1) (26 - dt)) (26 - dt) dt) j)))), (ba, .inl (cI, 26, .inl (fun j => nI ((va_cpy (dvI (va_cpy bt (flL re 0 26) 0 0 dt) (gnI (va_up (flL ge 0 18) 0 1) (26 - dt)) (26 - dt) dt) bt dt dt (26 - dt)) j))))] := hD
  exact kr _ ls H locs d_q_Checks_append_108 hP hD hS
set_option maxHeartbeats 1000000 in
set_option maxRecDepth 100000 in
theorem c_q_Checks_append (l : Launch) (D : va_G) (cI cC : ClassId) (co c1 c2 c3 c4 c5 c6 c7 fo fp fl : Nat) (po lo ge re bt : Nat → Nat) (ba dt : Nat) (hd1 : 9 ≤ dt) (hd2 : dt ≤ 26) (hbt : lt256 26 bt) (hF : fldOK po lo) (sz : Nat) : Met l y_q_Checks_append (cd_q_Checks_append :: WS) { frames := 3, cells := 0, slots := 0, locals := 66 } (va_Pc [.ref co, .ref ba, .int (nI dt)] (wP D [(co, .inr (0, [.ref fo, .ref c1, .ref c2, .ref c3, .ref c4, .ref c5, .ref c6, .ref c7])), (fo, .inr (1, [.ref fp, .ref fl])), (fp, .inl (cI, 255, .inl (fun j => nI (po j)))), (fl, .inl (cI, 256, .inl (fun j => nI (lo j)))), (c1, .inl (cI, 18, .inl (fun j => nI (ge j)))), (c2, .inl (cI, 26, .inl (fun j => nI (re j)))), (ba, .inl (cI, 26, .inl (fun j => nI (bt j))))] [(cI, .int), (cC, .char)] sz)) (wQv D [(co, .inr (0, [.ref fo, .ref c1, .ref c2, .ref c3, .ref c4, .ref c5, .ref c6, .ref c7])), (fo, .inr (1, [.ref fp, .ref fl])), (fp, .inl (cI, 255, .inl (fun j => nI (po j)))), (fl, .inl (cI, 256, .inl (fun j => nI (lo j)))), (c1, .inl (cI, 18, .inl (fun j => nI (ge j)))), (c2, .inl (cI, 26, .inl (fun j => nI (re j)))), (ba, .inl (cI, 26, .inl (fun j => nI (bt j))))] [(co, .inr (0, [.ref fo, .ref c1, .ref c2, .ref c3, .ref c4, .ref c5, .ref c6, .ref c7])), (fo, .inr (1, [.ref fp, .ref fl])), (fp, .inl (cI, 255, .inl (fun j => nI (po j)))), (fl, .inl (cI, 256, .inl (fun j => nI (lo j)))), (c1, .inl (cI, 18, .inl (fun j => nI ((gnI (va_up (flL ge 0 18) 0 1) (26 - dt)) j)))), (c2, .inl (cI, 26, .inl (fun j => nI ((dvI (va_cpy bt (flL re 0 26) 0 0 dt) (gnI (va_up (flL ge 0 18) 0 1) (26 - dt)) (26 - dt) dt) j)))), (ba, .inl (cI, 26, .inl (fun j => nI ((va_cpy (dvI (va_cpy bt (flL re 0 26) 0 0 dt) (gnI (va_up (flL ge 0 18) 0 1) (26 - dt)) (26 - dt) dt) bt dt dt (26 - dt)) j))))] sz) 0 0 (va_A [(co, .inr (0, [.ref fo, .ref c1, .ref c2, .ref c3, .ref c4, .ref c5, .ref c6, .ref c7])), (fo, .inr (1, [.ref fp, .ref fl])), (fp, .inl (cI, 255, .inl (fun j => nI (po j)))), (fl, .inl (cI, 256, .inl (fun j => nI (lo j)))), (c1, .inl (cI, 18, .inl (fun j => nI (ge j)))), (c2, .inl (cI, 26, .inl (fun j => nI (re j)))), (ba, .inl (cI, 26, .inl (fun j => nI (bt j))))] sz) := by
  refine Met.ofW (cc := b_q_Checks_append) (maxL := 7) (ret := none) (by decide) rfl ?_
  intro p e s m args below meth c s₁ B hml hv0
  obtain ⟨rfl, hP, hK, hD0, hsz⟩ := hv0
  have hts := atoms_spec (ws := cd_q_Checks_append :: WS) B.pre
  have hown : s.vm.findClass R_Checks = some m.cls := findClass_of_methodNamed B.named
  have hlocks := B.notSynchronized
  subst hsz
  have hD := hD0.self (sz := s.heap.size)
  have hl := lv_entry ([.ref co, .ref ba, .int (nI dt)]) (n := 7) (Nat.le_of_ble_eq_true rfl)
  rw [lg_entry_eq]
  generalize (lg_sl ([.ref co, .ref ba, .int (nI dt)]) ++ List.replicate (7 - (lg_sl ([.ref co, .ref ba, .int (nI dt)])).length) Slot.unset).toArray = ls at hl ⊢
  refine bd_q_Checks_append cI cC co c1 c2 c3 c4 c5 c6 c7 fo fp fl po lo ge re bt ba dt hd1 hd2 hbt hF ⟨B.exec, B.bytes, hml, hown, hts⟩ (Nat.le_refl _) (Nat.le_refl _) ⟨Nat.le_refl _, Nat.le_refl _⟩ hK (fun q h => Or.inr h) (fun pc ls H locs hd hP hD hS => ?_) ls _ _ hl hP hD (va_S.rf)
  exact W.vret B.exec B.bytes B.returns (fun t ht _ => ⟨⟨(), rfl, trivial, (by have h9 := hP; rw [← ht] at h9; exact h9)⟩, hS.F ht⟩) hS.2.2 hd
end
section
theorem d_q_Checks_areRight_0 : decode b_q_Checks_areRight 0 = .ok (.iconst 1, 1) := by decide +kernel
theorem d_q_Checks_areRight_1 : decode b_q_Checks_areRight 1 = .ok (.istore_n 3, 1) := by decide +kernel
theorem d_q_Checks_areRight_2 : decode b_q_Checks_areRight 2 = .ok (.iconst 0, 1) := by decide +kernel
theorem d_q_Checks_areRight_3 : decode b_q_Checks_areRight 3 = .ok (.istore 4, 2) := by decide +kernel
theorem d_q_Checks_areRight_5 : decode b_q_Checks_areRight 5 = .ok (.iload 4, 2) := by decide +kernel
theorem d_q_Checks_areRight_7 : decode b_q_Checks_areRight 7 = .ok (.iload_n 2, 1) := by decide +kernel
theorem d_q_Checks_areRight_8 : decode b_q_Checks_areRight 8 = .ok (.if_icmp .ge 77, 3) := by decide +kernel
theorem d_q_Checks_areRight_11 : decode b_q_Checks_areRight 11 = .ok (.iconst 0, 1) := by decide +kernel
theorem d_q_Checks_areRight_12 : decode b_q_Checks_areRight 12 = .ok (.istore 5, 2) := by decide +kernel
theorem d_q_Checks_areRight_14 : decode b_q_Checks_areRight 14 = .ok (.iconst 0, 1) := by decide +kernel
theorem d_q_Checks_areRight_15 : decode b_q_Checks_areRight 15 = .ok (.istore 6, 2) := by decide +kernel
theorem d_q_Checks_areRight_17 : decode b_q_Checks_areRight 17 = .ok (.iload 6, 2) := by decide +kernel
theorem d_q_Checks_areRight_19 : decode b_q_Checks_areRight 19 = .ok (.bipush 26, 2) := by decide +kernel
theorem d_q_Checks_areRight_21 : decode b_q_Checks_areRight 21 = .ok (.if_icmp .ge 34, 3) := by decide +kernel
theorem d_q_Checks_areRight_24 : decode b_q_Checks_areRight 24 = .ok (.aload_n 0, 1) := by decide +kernel
theorem d_q_Checks_areRight_25 : decode b_q_Checks_areRight 25 = .ok (.getfield 12, 3) := by decide +kernel
theorem d_q_Checks_areRight_28 : decode b_q_Checks_areRight 28 = .ok (.iload 5, 2) := by decide +kernel
theorem d_q_Checks_areRight_30 : decode b_q_Checks_areRight 30 = .ok (.aload_n 0, 1) := by decide +kernel
theorem d_q_Checks_areRight_31 : decode b_q_Checks_areRight 31 = .ok (.getfield 12, 3) := by decide +kernel
theorem d_q_Checks_areRight_34 : decode b_q_Checks_areRight 34 = .ok (.iload 4, 2) := by decide +kernel
theorem d_q_Checks_areRight_36 : decode b_q_Checks_areRight 36 = .ok (.invokevirtual 60, 3) := by decide +kernel
theorem d_q_Checks_areRight_39 : decode b_q_Checks_areRight 39 = .ok (.invokevirtual 56, 3) := by decide +kernel
theorem d_q_Checks_areRight_42 : decode b_q_Checks_areRight 42 = .ok (.aload_n 1, 1) := by decide +kernel
theorem d_q_Checks_areRight_43 : decode b_q_Checks_areRight 43 = .ok (.iload 6, 2) := by decide +kernel
theorem d_q_Checks_areRight_45 : decode b_q_Checks_areRight 45 = .ok (.iaload, 1) := by decide +kernel
theorem d_q_Checks_areRight_46 : decode b_q_Checks_areRight 46 = .ok (.ixor, 1) := by decide +kernel
theorem d_q_Checks_areRight_47 : decode b_q_Checks_areRight 47 = .ok (.istore 5, 2) := by decide +kernel
theorem d_q_Checks_areRight_49 : decode b_q_Checks_areRight 49 = .ok (.iinc 6 1, 3) := by decide +kernel
theorem d_q_Checks_areRight_52 : decode b_q_Checks_areRight 52 = .ok (.goto (-35), 3) := by decide +kernel
theorem d_q_Checks_areRight_55 : decode b_q_Checks_areRight 55 = .ok (.aload_n 0, 1) := by decide +kernel
theorem d_q_Checks_areRight_56 : decode b_q_Checks_areRight 56 = .ok (.getfield 25, 3) := by decide +kernel
theorem d_q_Checks_areRight_59 : decode b_q_Checks_areRight 59 = .ok (.iload 4, 2) := by decide +kernel
theorem d_q_Checks_areRight_61 : decode b_q_Checks_areRight 61 = .ok (.iload 5, 2) := by decide +kernel
theorem d_q_Checks_areRight_63 : decode b_q_Checks_areRight 63 = .ok (.iastore, 1) := by decide +kernel
theorem d_q_Checks_areRight_64 : decode b_q_Checks_areRight 64 = .ok (.iload_n 3, 1) := by decide +kernel
theorem d_q_Checks_areRight_65 : decode b_q_Checks_areRight 65 = .ok (.ifCond .eq 12, 3) := by decide +kernel
theorem d_q_Checks_areRight_68 : decode b_q_Checks_areRight 68 = .ok (.iload 5, 2) := by decide +kernel
theorem d_q_Checks_areRight_70 : decode b_q_Checks_areRight 70 = .ok (.ifCond .ne 7, 3) := by decide +kernel
theorem d_q_Checks_areRight_73 : decode b_q_Checks_areRight 73 = .ok (.iconst 1, 1) := by decide +kernel
theorem d_q_Checks_areRight_74 : decode b_q_Checks_areRight 74 = .ok (.goto 4, 3) := by decide +kernel
theorem d_q_Checks_areRight_77 : decode b_q_Checks_areRight 77 = .ok (.iconst 0, 1) := by decide +kernel
theorem d_q_Checks_areRight_78 : decode b_q_Checks_areRight 78 = .ok (.istore_n 3, 1) := by decide +kernel
theorem d_q_Checks_areRight_79 : decode b_q_Checks_areRight 79 = .ok (.iinc 4 1, 3) := by decide +kernel
theorem d_q_Checks_areRight_82 : decode b_q_Checks_areRight 82 = .ok (.goto (-77), 3) := by decide +kernel
theorem d_q_Checks_areRight_85 : decode b_q_Checks_areRight 85 = .ok (.iload_n 3, 1) := by decide +kernel
theorem d_q_Checks_areRight_86 : decode b_q_Checks_areRight 86 = .ok (.ireturn, 1) := by decide +kernel
end
section
variable {p : Program} {l : Launch} {e : Env} {R : Room} {s : State} {m : MethodId} {args : Array Value} {below : List Frame} {meth : Method} {c : Code} {cells slots : Nat} {Q : State → Prop} {A : Nat → Prop} {H0 : Heap} {D : va_G}
set_option maxHeartbeats 1000000 in
set_option maxRecDepth 100000 in
theorem lp_q_Checks_areRight_17 (cI cC : ClassId) (co c1 c2 c3 c4 c5 c6 c7 fo fp fl : Nat) (po lo su bt : Nat → Nat) (ba x : Nat) (hx0 : x ≤ 17) (hbt : lt256 26 bt) (hF : fldOK po lo) (S : CallFix p m c b_q_Checks_areRight 7 s args (cd_q_Checks_areRight :: WS) R_Checks) (hRf : 2 ≤ R.frames) (hRl : 43 ≤ R.locals) (hRc : cells ≤ R.cells ∧ slots ≤ R.slots) (hK : va_K D classes [(cI, .int), (cC, .char)] s) (hA : ∀ q, H0.size ≤ q → A q) (k : Nat) (hk : k < x) (kx : ∀ (ls : Array Slot) (H : Heap) (locs : List Loc), lv_has ls 7 [(0, .ref co), (1, .ref ba), (2, .int (nI x)), (3, .int (nI (irL bt k))), (4, .int (nI k)), (5, .int (nI (hrn bt (pw k) 26))), (6, .int (nI 26))] → va_P D classes [(co, .inr (0, [.ref fo, .ref c1, .ref c2, .ref c3, .ref c4, .ref c5, .ref c6, .ref c7])), (fo, .inr (1, [.ref fp, .ref fl])), (fp, .inl (cI, 255, .inl (fun j => nI (po j)))), (fl, .inl (cI, 256, .inl (fun j => nI (lo j)))), (c3, .inl (cI, 17, .inl (fun j => nI ((smL su bt k) j)))), (ba, .inl (cI, 26, .inl (fun j => nI (bt j))))] H → va_D A [(co, .inr (0, [.ref fo, .ref c1, .ref c2, .ref c3, .ref c4, .ref c5, .ref c6, .ref c7])), (fo, .inr (1, [.ref fp, .ref fl])), (fp, .inl (cI, 255, .inl (fun j => nI (po j)))), (fl, .inl (cI, 256, .inl (fun j => nI (lo j)))), (c3, .inl (cI, 17, .inl (fun j => nI ((smL su bt k) j)))), (ba, .inl (cI, 26, .inl (fun j => nI (bt j))))] → va_S A H0 H locs → W p l e R s m args below meth c H locs cells slots Q (F0 m 55 ls [])) :
    ∀ j, j ≤ 26 → ∀ (ls : Array Slot) (H : Heap) (locs : List Loc), lv_has ls 7 [(0, .ref co), (1, .ref ba), (2, .int (nI x)), (3, .int (nI (irL bt k))), (4, .int (nI k)), (5, .int (nI (hrn bt (pw k) j))), (6, .int (nI j))] → va_P D classes [(co, .inr (0, [.ref fo, .ref c1, .ref c2, .ref c3, .ref c4, .ref c5, .ref c6, .ref c7])), (fo, .inr (1, [.ref fp, .ref fl])), (fp, .inl (cI, 255, .inl (fun j => nI (po j)))), (fl, .inl (cI, 256, .inl (fun j => nI (lo j)))), (c3, .inl (cI, 17, .inl (fun j => nI ((smL su bt k) j)))), (ba, .inl (cI, 26, .inl (fun j => nI (bt j))))] H → va_D A [(co, .inr (0, [.ref fo, .ref c1, .ref c2, .ref c3, .ref c4, .ref c5, .ref c6, .ref c7])), (fo, .inr (1, [.ref fp, .ref fl])), (fp, .inl (cI, 255, .inl (fun j => nI (po j)))), (fl, .inl (cI, 256, .inl (fun j => nI (lo j)))), (c3, .inl (cI, 17, .inl (fun j => nI ((smL su bt k) j)))), (ba, .inl (cI, 26, .inl (fun j => nI (bt j))))] → va_S A H0 H locs → W p l e R s m args below meth c H locs cells slots Q (F0 m 17 ls []) := by
  obtain ⟨hx, hb, hml, hown, hts⟩ := id S
  refine up_loop (fun j hkj ih => ?_)
  intro ls H locs hl hP hD hS
  have hp := pw_lt k
  have hv := hrn_lt hbt (pw_lt k) j (by omega)
  refine lv_iload hx hb d_q_Checks_areRight_17 (lv_at hl 6 rfl) ?_
  refine lv_bipush (v := nI 26) hx hb d_q_Checks_areRight_19 (by decide) ?_
  refine n_icmp_ge hx hb d_q_Checks_areRight_21 (tgt := 55) rfl (by omega) (by omega) (fun g21 => ?_) (fun g21 => ?_)
  · skip
    obtain rfl : j = 26 := by omega
    exact kx ls H locs (lv_sub hl [0, 1, 2, 3, 4, 5, 6] rfl) hP hD hS
  · skip
    refine lv_aload_n hx hb d_q_Checks_areRight_24 rfl (lv_at hl 0 rfl) ?_
    refine n_get (C := R_Checks) (T := F_Checks) (N := 8) (v := .ref fo) hx hb hts u_Checks_in hown hK hP 0 rfl rfl 0 (by decide) kw_108 rfl d_q_Checks_areRight_25 ?_
    refine lv_iload hx hb d_q_Checks_areRight_28 (lv_at hl 5 rfl) ?_
    refine lv_aload_n hx hb d_q_Checks_areRight_30 rfl (lv_at hl 0 rfl) ?_
    refine n_get (C := R_Checks) (T := F_Checks) (N := 8) (v := .ref fo) hx hb hts u_Checks_in hown hK hP 0 rfl rfl 0 (by decide) kw_108 rfl d_q_Checks_areRight_31 ?_
    refine lv_iload hx hb d_q_Checks_areRight_34 (lv_at hl 4 rfl) ?_
    refine q_readV (n := 1) (As := [.int (nI k)]) (rest := [.int (nI (hrn bt (pw k) j)), .ref fo]) (wc := [(fo, .inr (1, [.ref fp, .ref fl])), (fp, .inl (cI, 255, .inl (fun j => nI (po j)))), (fl, .inl (cI, 256, .inl (fun j => nI (lo j))))]) S (c_q_Field_power_pos l D cI cC fo fp fl po lo k (by omega) hF) hK hP (q0 := 1) rfl rfl [1, 2, 3] rfl (q_goodV kw_533 kw_534 kw_535 kw_5 kw_536) (by decide +kernel) rfl rfl rfl ⟨Nat.le_trans (Nat.le_of_ble_eq_true rfl) hRf, Nat.le_trans (Nat.le_of_ble_eq_true rfl) hRl⟩ rfl hl.1 rfl (Nat.le_of_ble_eq_true rfl) d_q_Checks_areRight_36 hRc hS (fun H locs hP hS => ?_)
    refine q_readV (n := 2) (As := [.int (nI (hrn bt (pw k) j)), .int (nI (pw k))]) (rest := []) (wc := [(fo, .inr (1, [.ref fp, .ref fl])), (fp, .inl (cI, 255, .inl (fun j => nI (po j)))), (fl, .inl (cI, 256, .inl (fun j => nI (lo j))))]) S (c_q_Field_product l D cI cC fo fp fl po lo (hrn bt (pw k) j) (pw k) (by omega) (by omega) hF) hK hP (q0 := 1) rfl rfl [1, 2, 3] rfl (q_goodV kw_540 kw_541 kw_542 kw_5 kw_543) (by decide +kernel) rfl rfl rfl ⟨Nat.le_trans (Nat.le_of_ble_eq_true rfl) hRf, Nat.le_trans (Nat.le_of_ble_eq_true rfl) hRl⟩ rfl hl.1 rfl (Nat.le_of_ble_eq_true rfl) d_q_Checks_areRight_39 hRc hS (fun H locs hP hS => ?_)
    refine lv_aload_n hx hb d_q_Checks_areRight_42 rfl (lv_at hl 1 rfl) ?_
    refine lv_iload hx hb d_q_Checks_areRight_43 (lv_at hl 6 rfl) ?_
    refine n_iald hx hb hK hP 5 0 rfl rfl (by omega) (by decide) d_q_Checks_areRight_45 ?_
    refine n_ixor hx hb d_q_Checks_areRight_46 ?_
    refine n_topn (show (gm (hrn bt (pw k) j) (pw k)) ^^^ (bt j) = hrn bt (pw k) (j + 1) from rfl) ?_
    refine lv_istore hx hb d_q_Checks_areRight_47 hl (Nat.le_of_ble_eq_true rfl) rfl (fun ls hl => ?_)
    have hl : lv_has ls 7 [(5, .int (nI (hrn bt (pw k) (j + 1)))), (0, .ref co), (1, .ref ba), (2, .int (nI x)), (3, .int (nI (irL bt k))), (4, .int (nI k)), (6, .int (nI j))] := hl
    refine lv_iinc (k := 6) (v := nI (j + 1)) hx hb d_q_Checks_areRight_49 hl rfl (nx_inc j 1) (Nat.le_of_ble_eq_true rfl) rfl (fun ls hl => ?_)
    have hl : lv_has ls 7 [(6, .int (nI (j + 1))), (5, .int (nI (hrn bt (pw k) (j + 1)))), (0, .ref co), (1, .ref ba), (2, .int (nI x)), (3, .int (nI (irL bt k))), (4, .int (nI k))] := hl
    refine lv_goto hx hb d_q_Checks_areRight_52 (tgt := 17) rfl ?_
    exact ih (by omega) ls H locs (lv_sub hl [2, 3, 4, 5, 6, 1, 0] rfl) hP hD hS
set_option maxHeartbeats 1000000 in
set_option maxRecDepth 100000 in
theorem lp_q_Checks_areRight_5 (cI cC : ClassId) (co c1 c2 c3 c4 c5 c6 c7 fo fp fl : Nat) (po lo su bt : Nat → Nat) (ba x : Nat) (hx0 : x ≤ 17) (hbt : lt256 26 bt) (hF : fldOK po lo) (S : CallFix p m c b_q_Checks_areRight 7 s args (cd_q_Checks_areRight :: WS) R_Checks) (hRf : 2 ≤ R.frames) (hRl : 43 ≤ R.locals) (hRc : cells ≤ R.cells ∧ slots ≤ R.slots) (hK : va_K D classes [(cI, .int), (cC, .char)] s) (hA : ∀ q, H0.size ≤ q → A q) (kx : ∀ (ls : Array Slot) (H : Heap) (locs : List Loc), lv_has ls 7 [(0, .ref co), (1, .ref ba), (2, .int (nI x)), (3, .int (nI (irL bt x))), (4, .int (nI x))] → va_P D classes [(co, .inr (0, [.ref fo, .ref c1, .ref c2, .ref c3, .ref c4, .ref c5, .ref c6, .ref c7])), (fo, .inr (1, [.ref fp, .ref fl])), (fp, .inl (cI, 255, .inl (fun j => nI (po j)))), (fl, .inl (cI, 256, .inl (fun j => nI (lo j)))), (c3, .inl (cI, 17, .inl (fun j => nI ((smL su bt x) j)))), (ba, .inl (cI, 26, .inl (fun j => nI (bt j))))] H → va_D A [(co, .inr (0, [.ref fo, .ref c1, .ref c2, .ref c3, .ref c4, .ref c5, .ref c6, .ref c7])), (fo, .inr (1, [.ref fp, .ref fl])), (fp, .inl (cI, 255, .inl (fun j => nI (po j)))), (fl, .inl (cI, 256, .inl (fun j => nI (lo j)))), (c3, .inl (cI, 17, .inl (fun j => nI ((smL su bt x) j)))), (ba, .inl (cI, 26, .inl (fun j => nI (bt j))))] → va_S A H0 H locs → W p l e R s m args below meth c H locs cells slots Q (F0 m 85 ls [])) :
    ∀ k, k ≤ x → ∀ (ls : Array Slot) (H : Heap) (locs : List Loc), lv_has ls 7 [(0, .ref co), (1, .ref ba), (2, .int (nI x)), (3, .int (nI (irL bt k))), (4, .int (nI k))] → va_P D classes [(co, .inr (0, [.ref fo, .ref c1, .ref c2, .ref c3, .ref c4, .ref c5, .ref c6, .ref c7])), (fo, .inr (1, [.ref fp, .ref fl])), (fp, .inl (cI, 255, .inl (fun j => nI (po j)))), (fl, .inl (cI, 256, .inl (fun j => nI (lo j)))), (c3, .inl (cI, 17, .inl (fun j => nI ((smL su bt k) j)))), (ba, .inl (cI, 26, .inl (fun j => nI (bt j))))] H → va_D A [(co, .inr (0, [.ref fo, .ref c1, .ref c2, .ref c3, .ref c4, .ref c5, .ref c6, .ref c7])), (fo, .inr (1, [.ref fp, .ref fl])), (fp, .inl (cI, 255, .inl (fun j => nI (po j)))), (fl, .inl (cI, 256, .inl (fun j => nI (lo j)))), (c3, .inl (cI, 17, .inl (fun j => nI ((smL su bt k) j)))), (ba, .inl (cI, 26, .inl (fun j => nI (bt j))))] → va_S A H0 H locs → W p l e R s m args below meth c H locs cells slots Q (F0 m 5 ls []) := by
  obtain ⟨hx, hb, hml, hown, hts⟩ := id S
  refine up_loop (fun k hkk ih => ?_)
  intro ls H locs hl hP hD hS
  have hi := irL_le bt k
  refine lv_iload hx hb d_q_Checks_areRight_5 (lv_at hl 4 rfl) ?_
  refine lv_iload_n hx hb d_q_Checks_areRight_7 rfl (lv_at hl 2 rfl) ?_
  refine n_icmp_ge hx hb d_q_Checks_areRight_8 (tgt := 85) rfl (by omega) (by omega) (fun g8 => ?_) (fun g8 => ?_)
  · skip
    obtain rfl : k = x := by omega
    exact kx ls H locs (lv_sub hl [0, 1, 2, 3, 4] rfl) hP hD hS
  · skip
    refine lv_iconst (v := nI 0) hx hb d_q_Checks_areRight_11 (by decide) ?_
    refine lv_istore hx hb d_q_Checks_areRight_12 hl (Nat.le_of_ble_eq_true rfl) rfl (fun ls hl => ?_)
    have hl : lv_has ls 7 [(5, .int (nI 0)), (0, .ref co), (1, .ref ba), (2, .int (nI x)), (3, .int (nI (irL bt k))), (4, .int (nI k))] := hl
    refine lv_iconst (v := nI 0) hx hb d_q_Checks_areRight_14 (by decide) ?_
    refine lv_istore hx hb d_q_Checks_areRight_15 hl (Nat.le_of_ble_eq_true rfl) rfl (fun ls hl => ?_)
    have hl : lv_has ls 7 [(6, .int (nI 0)), (5, .int (nI 0)), (0, .ref co), (1, .ref ba), (2, .int (nI x)), (3, .int (nI (irL bt k))), (4, .int (nI k))] := hl
    refine lp_q_Checks_areRight_17 cI cC co c1 c2 c3 c4 c5 c6 c7 fo fp fl po lo su bt ba x hx0 hbt hF S hRf hRl hRc hK hA k (by omega) (fun ls H locs hl hP hD hS => ?_) 0 (by omega) ls H locs (lv_sub hl [2, 3, 4, 5, 6, 1, 0] rfl) hP hD hS
    have hv := hrn_lt hbt (pw_lt k) 26 (by omega)
    refine lv_aload_n hx hb d_q_Checks_areRight_55 rfl (lv_at hl 0 rfl) ?_
    refine n_get (C := R_Checks) (T := F_Checks) (N := 8) (v := .ref c3) hx hb hts u_Checks_in hown hK hP 0 rfl rfl 3 (by decide) kw_111 rfl d_q_Checks_areRight_56 ?_
    refine lv_iload hx hb d_q_Checks_areRight_59 (lv_at hl 4 rfl) ?_
    refine lv_iload hx hb d_q_Checks_areRight_61 (lv_at hl 5 rfl) ?_
    refine n_iast hx hb hK hP hD hS 4 0 rfl rfl (by omega) (by decide) d_q_Checks_areRight_63 (fun H locs hP hD hS => ?_)
    have hP : va_P D classes [(co, .inr (0, [.ref fo, .ref c1, .ref c2, .ref c3, .ref c4, .ref c5, .ref c6, .ref c7])), (fo, .inr (1, [.ref fp, .ref fl])), (fp, .inl (cI, 255, .inl (fun j => nI (po j)))), (fl, .inl (cI, 256, .inl (fun j => nI (lo j)))), (c3, .inl (cI, 17, .inl (fun j => nI ((va_up (smL su bt k) k (hrn bt (pw k) 26)) j)))), (ba, .inl (cI, 26, .inl (fun j => nI (bt j))))] H := hP
    have hD : va_D A [(co, .inr (0, [.ref fo, .ref c1, .ref c2, .ref c3, .ref c4, .ref c5, .ref c6, .ref c7])), (fo, .inr (1, [.ref fp, .ref fl])), (fp, .inl (cI, 255, .inl (fun j => nI (po j)))), (fl, .inl (cI, 256, .inl (fun j => nI (lo j)))), (c3, .inl (cI, 17, .inl (fun j => nI ((va_up (smL su bt k) k (hrn bt (pw k) 26)) j)))), (ba, .inl (cI, 26, .inl (fun j => nI (bt j))))] := hD
    rw [show va_up (smL su bt k) k (hrn bt (pw k) 26) = smL su bt (k + 1) from rfl] at hP hD
    refine lv_iload_n hx hb d_q_Checks_areRight_64 rfl (lv_at hl 3 rfl) ?_
    refine n_if_eq hx hb d_q_Checks_areRight_65 (tgt := 77) rfl (by omega) (fun g65 => ?_) (fun g65 => ?_)
    · skip
      refine lv_iconst (v := nI 0) hx hb d_q_Checks_areRight_77 (by decide) ?_
      refine n_topn (show 0 = irL bt (k + 1) from (by first | exact (irL_t g65 g70).symm | exact (irL_f g65).symm | exact (irL_g g70).symm)) ?_
      refine lv_istore_n hx hb d_q_Checks_areRight_78 rfl hl (Nat.le_of_ble_eq_true rfl) rfl (fun ls hl => ?_)
      have hl : lv_has ls 7 [(3, .int (nI (irL bt (k + 1)))), (0, .ref co), (1, .ref ba), (2, .int (nI x)), (4, .int (nI k)), (5, .int (nI (hrn bt (pw k) 26))), (6, .int (nI 26))] := hl
      refine lv_iinc (k := 4) (v := nI (k + 1)) hx hb d_q_Checks_areRight_79 hl rfl (nx_inc k 1) (Nat.le_of_ble_eq_true rfl) rfl (fun ls hl => ?_)
      have hl : lv_has ls 7 [(4, .int (nI (k + 1))), (3, .int (nI (irL bt (k + 1)))), (0, .ref co), (1, .ref ba), (2, .int (nI x)), (5, .int (nI (hrn bt (pw k) 26))), (6, .int (nI 26))] := hl
      refine lv_goto hx hb d_q_Checks_areRight_82 (tgt := 5) rfl ?_
      exact ih (by omega) ls H locs (lv_sub hl [2, 3, 4, 1, 0] rfl) hP hD hS
    · skip
      refine lv_iload hx hb d_q_Checks_areRight_68 (lv_at hl 5 rfl) ?_
      refine n_if_ne hx hb d_q_Checks_areRight_70 (tgt := 77) rfl (by omega) (fun g70 => ?_) (fun g70 => ?_)
      · skip
        refine lv_iconst (v := nI 0) hx hb d_q_Checks_areRight_77 (by decide) ?_
        refine n_topn (show 0 = irL bt (k + 1) from (by first | exact (irL_t g65 g70).symm | exact (irL_f g65).symm | exact (irL_g g70).symm)) ?_
        refine lv_istore_n hx hb d_q_Checks_areRight_78 rfl hl (Nat.le_of_ble_eq_true rfl) rfl (fun ls hl => ?_)
        have hl : lv_has ls 7 [(3, .int (nI (irL bt (k + 1)))), (0, .ref co), (1, .ref ba), (2, .int (nI x)), (4, .int (nI k)), (5, .int (nI (hrn bt (pw k) 26))), (6, .int (nI 26))] := hl
        refine lv_iinc (k := 4) (v := nI (k + 1)) hx hb d_q_Checks_areRight_79 hl rfl (nx_inc k 1) (Nat.le_of_ble_eq_true rfl) rfl (fun ls hl => ?_)
        have hl : lv_has ls 7 [(4, .int (nI (k + 1))), (3, .int (nI (irL bt (k + 1)))), (0, .ref co), (1, .ref ba), (2, .int (nI x)), (5, .int (nI (hrn bt (pw k) 26))), (6, .int (nI 26))] := hl
        refine lv_goto hx hb d_q_Checks_areRight_82 (tgt := 5) rfl ?_
        exact ih (by omega) ls H locs (lv_sub hl [2, 3, 4, 1, 0] rfl) hP hD hS
      · skip
        refine lv_iconst (v := nI 1) hx hb d_q_Checks_areRight_73 (by decide) ?_
        refine lv_goto hx hb d_q_Checks_areRight_74 (tgt := 78) rfl ?_
        refine n_topn (show 1 = irL bt (k + 1) from (by first | exact (irL_t g65 g70).symm | exact (irL_f g65).symm | exact (irL_g g70).symm)) ?_
        refine lv_istore_n hx hb d_q_Checks_areRight_78 rfl hl (Nat.le_of_ble_eq_true rfl) rfl (fun ls hl => ?_)
        have hl : lv_has ls 7 [(3, .int (nI (irL bt (k + 1)))), (0, .ref co), (1, .ref ba), (2, .int (nI x)), (4, .int (nI k)), (5, .int (nI (hrn bt (pw k) 26))), (6, .int (nI 26))] := hl
        refine lv_iinc (k := 4) (v := nI (k + 1)) hx hb d_q_Checks_areRight_79 hl rfl (nx_inc k 1) (Nat.le_of_ble_eq_true rfl) rfl (fun ls hl => ?_)
        have hl : lv_has ls 7 [(4, .int (nI (k + 1))), (3, .int (nI (irL bt (k + 1)))), (0, .ref co), (1, .ref ba), (2, .int (nI x)), (5, .int (nI (hrn bt (pw k) 26))), (6, .int (nI 26))] := hl
        refine lv_goto hx hb d_q_Checks_areRight_82 (tgt := 5) rfl ?_
        exact ih (by omega) ls H locs (lv_sub hl [2, 3, 4, 1, 0] rfl) hP hD hS
set_option maxHeartbeats 1000000 in
set_option maxRecDepth 100000 in
theorem bd_q_Checks_areRight (cI cC : ClassId) (co c1 c2 c3 c4 c5 c6 c7 fo fp fl : Nat) (po lo su bt : Nat → Nat) (ba x : Nat) (hx0 : x ≤ 17) (hbt : lt256 26 bt) (hF : fldOK po lo) (S : CallFix p m c b_q_Checks_areRight 7 s args (cd_q_Checks_areRight :: WS) R_Checks) (hRf : 2 ≤ R.frames) (hRl : 43 ≤ R.locals) (hRc : cells ≤ R.cells ∧ slots ≤ R.slots) (hK : va_K D classes [(cI, .int), (cC, .char)] s) (hA : ∀ q, H0.size ≤ q → A q) (kr : ∀ (pc : Nat) (ls : Array Slot) (H : Heap) (locs : List Loc), decode b_q_Checks_areRight pc = .ok (.ireturn, 1) → va_P D classes [(co, .inr (0, [.ref fo, .ref c1, .ref c2, .ref c3, .ref c4, .ref c5, .ref c6, .ref c7])), (fo, .inr (1, [.ref fp, .ref fl])), (fp, .inl (cI, 255, .inl (fun j => nI (po j)))), (fl, .inl (cI, 256, .inl (fun j => nI (lo j)))), (c3, .inl (cI, 17, .inl (fun j => nI ((smL su bt x) j)))), (ba, .inl (cI, 26, .inl (fun j => nI (bt j))))] H → va_D A [(co, .inr (0, [.ref fo, .ref c1, .ref c2, .ref c3, .ref c4, .ref c5, .ref c6, .ref c7])), (fo, .inr (1, [.ref fp, .ref fl])), (fp, .inl (cI, 255, .inl (fun j => nI (po j)))), (fl, .inl (cI, 256, .inl (fun j => nI (lo j)))), (c3, .inl (cI, 17, .inl (fun j => nI ((smL su bt x) j)))), (ba, .inl (cI, 26, .inl (fun j => nI (bt j))))] → va_S A H0 H locs → W p l e R s m args below meth c H locs cells slots Q (F0 m pc ls [.int (nI (irL bt x))])) : ∀ (ls : Array Slot) (H : Heap) (locs : List Loc), lv_has ls 7 [(0, .ref co), (1, .ref ba), (2, .int (nI x))] → va_P D classes [(co, .inr (0, [.ref fo, .ref c1, .ref c2, .ref c3, .ref c4, .ref c5, .ref c6, .ref c7])), (fo, .inr (1, [.ref fp, .ref fl])), (fp, .inl (cI, 255, .inl (fun j => nI (po j)))), (fl, .inl (cI, 256, .inl (fun j => nI (lo j)))), (c3, .inl (cI, 17, .inl (fun j => nI (su j)))), (ba, .inl (cI, 26, .inl (fun j => nI (bt j))))] H → va_D A [(co, .inr (0, [.ref fo, .ref c1, .ref c2, .ref c3, .ref c4, .ref c5, .ref c6, .ref c7])), (fo, .inr (1, [.ref fp, .ref fl])), (fp, .inl (cI, 255, .inl (fun j => nI (po j)))), (fl, .inl (cI, 256, .inl (fun j => nI (lo j)))), (c3, .inl (cI, 17, .inl (fun j => nI (su j)))), (ba, .inl (cI, 26, .inl (fun j => nI (bt j))))] → va_S A H0 H locs → W p l e R s m args below meth c H locs cells slots Q (F0 m 0 ls []) := by
  obtain ⟨hx, hb, hml, hown, hts⟩ := id S
  intro ls H locs hl hP hD hS
  refine lv_iconst (v := nI 1) hx hb d_q_Checks_areRight_0 (by decide) ?_
  refine lv_istore_n hx hb d_q_Checks_areRight_1 rfl hl (Nat.le_of_ble_eq_true rfl) rfl (fun ls hl => ?_)
  have hl : lv_has ls 7 [(3, .int (nI 1)), (0, .ref co), (1, .ref ba), (2, .int (nI x))] := hl
  refine lv_iconst (v := nI 0) hx hb d_q_Checks_areRight_2 (by decide) ?_
  refine lv_istore hx hb d_q_Checks_areRight_3 hl (Nat.le_of_ble_eq_true rfl) rfl (fun ls hl => ?_)
  have hl : lv_has ls 7 [(4, .int (nI 0)), (3, .int (nI 1)), (0, .ref co), (1, .ref ba), (2, .int (nI x))] := hl
  refine lp_q_Checks_areRight_5 cI cC co c1 c2 c3 c4 c5 c6 c7 fo fp fl po lo su bt ba x hx0 hbt hF S hRf hRl hRc hK hA  (fun ls H locs hl hP hD hS => ?_) 0 (by omega) ls H locs (lv_sub hl [2, 3, 4, 1, 0] rfl) hP hD hS
  refine lv_iload_n hx hb d_q_Checks_areRight_85 rfl (lv_at hl 3 rfl) ?_
  exact kr _ ls H locs d_q_Checks_areRight_86 hP hD hS
set_option maxHeartbeats 1000000 in
set_option maxRecDepth 100000 in
theorem c_q_Checks_areRight (l : Launch) (D : va_G) (cI cC : ClassId) (co c1 c2 c3 c4 c5 c6 c7 fo fp fl : Nat) (po lo su bt : Nat → Nat) (ba x : Nat) (hx0 : x ≤ 17) (hbt : lt256 26 bt) (hF : fldOK po lo) (sz : Nat) : Met l y_q_Checks_areRight (cd_q_Checks_areRight :: WS) { frames := 2, cells := 0, slots := 0, locals := 43 } (va_Pc [.ref co, .ref ba, .int (nI x)] (wP D [(co, .inr (0, [.ref fo, .ref c1, .ref c2, .ref c3, .ref c4, .ref c5, .ref c6, .ref c7])), (fo, .inr (1, [.ref fp, .ref fl])), (fp, .inl (cI, 255, .inl (fun j => nI (po j)))), (fl, .inl (cI, 256, .inl (fun j => nI (lo j)))), (c3, .inl (cI, 17, .inl (fun j => nI (su j)))), (ba, .inl (cI, 26, .inl (fun j => nI (bt j))))] [(cI, .int), (cC, .char)] sz)) (wQi D (nI (irL bt x)) [(co, .inr (0, [.ref fo, .ref c1, .ref c2, .ref c3, .ref c4, .ref c5, .ref c6, .ref c7])), (fo, .inr (1, [.ref fp, .ref fl])), (fp, .inl (cI, 255, .inl (fun j => nI (po j)))), (fl, .inl (cI, 256, .inl (fun j => nI (lo j)))), (c3, .inl (cI, 17, .inl (fun j => nI (su j)))), (ba, .inl (cI, 26, .inl (fun j => nI (bt j))))] [(co, .inr (0, [.ref fo, .ref c1, .ref c2, .ref c3, .ref c4, .ref c5, .ref c6, .ref c7])), (fo, .inr (1, [.ref fp, .ref fl])), (fp, .inl (cI, 255, .inl (fun j => nI (po j)))), (fl, .inl (cI, 256, .inl (fun j => nI (lo j)))), (c3, .inl (cI, 17, .inl (fun j => nI ((smL su bt x) j)))), (ba, .inl (cI, 26, .inl (fun j => nI (bt j))))] sz) 0 0 (va_A [(co, .inr (0, [.ref fo, .ref c1, .ref c2, .ref c3, .ref c4, .ref c5, .ref c6, .ref c7])), (fo, .inr (1, [.ref fp, .ref fl])), (fp, .inl (cI, 255, .inl (fun j => nI (po j)))), (fl, .inl (cI, 256, .inl (fun j => nI (lo j)))), (c3, .inl (cI, 17, .inl (fun j => nI (su j)))), (ba, .inl (cI, 26, .inl (fun j => nI (bt j))))] sz) := by
  refine Met.ofW (cc := b_q_Checks_areRight) (maxL := 7) (ret := (some .boolean)) (by decide) rfl ?_
  intro p e s m args below meth c s₁ B hml hv0
  obtain ⟨rfl, hP, hK, hD0, hsz⟩ := hv0
  have hts := atoms_spec (ws := cd_q_Checks_areRight :: WS) B.pre
  have hown : s.vm.findClass R_Checks = some m.cls := findClass_of_methodNamed B.named
  have hlocks := B.notSynchronized
  subst hsz
  have hD := hD0.self (sz := s.heap.size)
  have hl := lv_entry ([.ref co, .ref ba, .int (nI x)]) (n := 7) (Nat.le_of_ble_eq_true rfl)
  rw [lg_entry_eq]
  generalize (lg_sl ([.ref co, .ref ba, .int (nI x)]) ++ List.replicate (7 - (lg_sl ([.ref co, .ref ba, .int (nI x)])).length) Slot.unset).toArray = ls at hl ⊢
  refine bd_q_Checks_areRight cI cC co c1 c2 c3 c4 c5 c6 c7 fo fp fl po lo su bt ba x hx0 hbt hF ⟨B.exec, B.bytes, hml, hown, hts⟩ (Nat.le_refl _) (Nat.le_refl _) ⟨Nat.le_refl _, Nat.le_refl _⟩ hK (fun q h => Or.inr h) (fun pc ls H locs hd hP hD hS => ?_) ls _ _ hl hP hD (va_S.rf)
  exact W.zret B.exec B.bytes B.returns (irL_fit _ _) (fun t ht _ => ⟨⟨_, (), rfl, rfl, (by have h9 := hP; rw [← ht] at h9; exact h9)⟩, hS.F ht⟩) hS.2.2 hd
end
section
theorem d_q_Checks_missAt_0 : decode b_q_Checks_missAt 0 = .ok (.iconst 0, 1) := by decide +kernel
theorem d_q_Checks_missAt_1 : decode b_q_Checks_missAt 1 = .ok (.istore_n 3, 1) := by decide +kernel
theorem d_q_Checks_missAt_2 : decode b_q_Checks_missAt 2 = .ok (.iconst 0, 1) := by decide +kernel
theorem d_q_Checks_missAt_3 : decode b_q_Checks_missAt 3 = .ok (.istore 4, 2) := by decide +kernel
theorem d_q_Checks_missAt_5 : decode b_q_Checks_missAt 5 = .ok (.iload 4, 2) := by decide +kernel
theorem d_q_Checks_missAt_7 : decode b_q_Checks_missAt 7 = .ok (.iload_n 2, 1) := by decide +kernel
theorem d_q_Checks_missAt_8 : decode b_q_Checks_missAt 8 = .ok (.if_icmp .gt 41, 3) := by decide +kernel
theorem d_q_Checks_missAt_11 : decode b_q_Checks_missAt 11 = .ok (.iload 4, 2) := by decide +kernel
theorem d_q_Checks_missAt_13 : decode b_q_Checks_missAt 13 = .ok (.iload_n 1, 1) := by decide +kernel
theorem d_q_Checks_missAt_14 : decode b_q_Checks_missAt 14 = .ok (.if_icmp .gt 35, 3) := by decide +kernel
theorem d_q_Checks_missAt_17 : decode b_q_Checks_missAt 17 = .ok (.iload_n 3, 1) := by decide +kernel
theorem d_q_Checks_missAt_18 : decode b_q_Checks_missAt 18 = .ok (.aload_n 0, 1) := by decide +kernel
theorem d_q_Checks_missAt_19 : decode b_q_Checks_missAt 19 = .ok (.getfield 12, 3) := by decide +kernel
theorem d_q_Checks_missAt_22 : decode b_q_Checks_missAt 22 = .ok (.aload_n 0, 1) := by decide +kernel
theorem d_q_Checks_missAt_23 : decode b_q_Checks_missAt 23 = .ok (.getfield 28, 3) := by decide +kernel
theorem d_q_Checks_missAt_26 : decode b_q_Checks_missAt 26 = .ok (.iload 4, 2) := by decide +kernel
theorem d_q_Checks_missAt_28 : decode b_q_Checks_missAt 28 = .ok (.iaload, 1) := by decide +kernel
theorem d_q_Checks_missAt_29 : decode b_q_Checks_missAt 29 = .ok (.aload_n 0, 1) := by decide +kernel
theorem d_q_Checks_missAt_30 : decode b_q_Checks_missAt 30 = .ok (.getfield 25, 3) := by decide +kernel
theorem d_q_Checks_missAt_33 : decode b_q_Checks_missAt 33 = .ok (.iload_n 1, 1) := by decide +kernel
theorem d_q_Checks_missAt_34 : decode b_q_Checks_missAt 34 = .ok (.iload 4, 2) := by decide +kernel
theorem d_q_Checks_missAt_36 : decode b_q_Checks_missAt 36 = .ok (.isub, 1) := by decide +kernel
theorem d_q_Checks_missAt_37 : decode b_q_Checks_missAt 37 = .ok (.iaload, 1) := by decide +kernel
theorem d_q_Checks_missAt_38 : decode b_q_Checks_missAt 38 = .ok (.invokevirtual 56, 3) := by decide +kernel
theorem d_q_Checks_missAt_41 : decode b_q_Checks_missAt 41 = .ok (.ixor, 1) := by decide +kernel
theorem d_q_Checks_missAt_42 : decode b_q_Checks_missAt 42 = .ok (.istore_n 3, 1) := by decide +kernel
theorem d_q_Checks_missAt_43 : decode b_q_Checks_missAt 43 = .ok (.iinc 4 1, 3) := by decide +kernel
theorem d_q_Checks_missAt_46 : decode b_q_Checks_missAt 46 = .ok (.goto (-41), 3) := by decide +kernel
theorem d_q_Checks_missAt_49 : decode b_q_Checks_missAt 49 = .ok (.iload_n 3, 1) := by decide +kernel
theorem d_q_Checks_missAt_50 : decode b_q_Checks_missAt 50 = .ok (.ireturn, 1) := by decide +kernel
end
section
variable {p : Program} {l : Launch} {e : Env} {R : Room} {s : State} {m : MethodId} {args : Array Value} {below : List Frame} {meth : Method} {c : Code} {cells slots : Nat} {Q : State → Prop} {A : Nat → Prop} {H0 : Heap} {D : va_G}
set_option maxHeartbeats 1000000 in
set_option maxRecDepth 100000 in
theorem lp_q_Checks_missAt_5 (cI cC : ClassId) (co c1 c2 c3 c4 c5 c6 c7 fo fp fl : Nat) (po lo su lc : Nat → Nat) (x y : Nat) (hx0 : x < 17) (hy0 : y ≤ 17) (hlc : lt256 18 lc) (hsu : lt256 17 su) (hF : fldOK po lo) (S : CallFix p m c b_q_Checks_missAt 5 s args (cd_q_Checks_missAt :: WS) R_Checks) (hRf : 1 ≤ R.frames) (hRl : 22 ≤ R.locals) (hRc : cells ≤ R.cells ∧ slots ≤ R.slots) (hK : va_K D classes [(cI, .int), (cC, .char)] s) (kx : ∀ (ls : Array Slot) (H : Heap) (locs : List Loc), lv_has ls 5 [(0, .ref co), (1, .int (nI x)), (2, .int (nI y)), (3, .int (nI (msL lc su x (min y x + 1)))), (4, .int (nI (min y x + 1)))] → va_P D classes [(co, .inr (0, [.ref fo, .ref c1, .ref c2, .ref c3, .ref c4, .ref c5, .ref c6, .ref c7])), (fo, .inr (1, [.ref fp, .ref fl])), (fp, .inl (cI, 255, .inl (fun j => nI (po j)))), (fl, .inl (cI, 256, .inl (fun j => nI (lo j)))), (c3, .inl (cI, 17, .inl (fun j => nI (su j)))), (c4, .inl (cI, 18, .inl (fun j => nI (lc j))))] H → va_S A H0 H locs → W p l e R s m args below meth c H locs cells slots Q (F0 m 49 ls [])) :
    ∀ k, k ≤ min y x + 1 → ∀ (ls : Array Slot) (H : Heap) (locs : List Loc), lv_has ls 5 [(0, .ref co), (1, .int (nI x)), (2, .int (nI y)), (3, .int (nI (msL lc su x k))), (4, .int (nI k))] → va_P D classes [(co, .inr (0, [.ref fo, .ref c1, .ref c2, .ref c3, .ref c4, .ref c5, .ref c6, .ref c7])), (fo, .inr (1, [.ref fp, .ref fl])), (fp, .inl (cI, 255, .inl (fun j => nI (po j)))), (fl, .inl (cI, 256, .inl (fun j => nI (lo j)))), (c3, .inl (cI, 17, .inl (fun j => nI (su j)))), (c4, .inl (cI, 18, .inl (fun j => nI (lc j))))] H → va_S A H0 H locs → W p l e R s m args below meth c H locs cells slots Q (F0 m 5 ls []) := by
  obtain ⟨hx, hb, hml, hown, hts⟩ := id S
  refine up_loop (fun k hkk ih => ?_)
  intro ls H locs hl hP hS
  refine lv_iload hx hb d_q_Checks_missAt_5 (lv_at hl 4 rfl) ?_
  refine lv_iload_n hx hb d_q_Checks_missAt_7 rfl (lv_at hl 2 rfl) ?_
  refine n_icmp_gt hx hb d_q_Checks_missAt_8 (tgt := 49) rfl (by omega) (by omega) (fun g8 => ?_) (fun g8 => ?_)
  · skip
    obtain rfl : k = min y x + 1 := by omega
    exact kx ls H locs (lv_sub hl [0, 1, 2, 3, 4] rfl) hP hS
  · skip
    refine lv_iload hx hb d_q_Checks_missAt_11 (lv_at hl 4 rfl) ?_
    refine lv_iload_n hx hb d_q_Checks_missAt_13 rfl (lv_at hl 1 rfl) ?_
    refine n_icmp_gt hx hb d_q_Checks_missAt_14 (tgt := 49) rfl (by omega) (by omega) (fun g14 => ?_) (fun g14 => ?_)
    · skip
      obtain rfl : k = min y x + 1 := by omega
      exact kx ls H locs (lv_sub hl [0, 1, 2, 3, 4] rfl) hP hS
    · skip
      have h1 := hlc k (by omega)
      have h2 := hsu (x - k) (by omega)
      refine lv_iload_n hx hb d_q_Checks_missAt_17 rfl (lv_at hl 3 rfl) ?_
      refine lv_aload_n hx hb d_q_Checks_missAt_18 rfl (lv_at hl 0 rfl) ?_
      refine n_get (C := R_Checks) (T := F_Checks) (N := 8) (v := .ref fo) hx hb hts u_Checks_in hown hK hP 0 rfl rfl 0 (by decide) kw_108 rfl d_q_Checks_missAt_19 ?_
      refine lv_aload_n hx hb d_q_Checks_missAt_22 rfl (lv_at hl 0 rfl) ?_
      refine n_get (C := R_Checks) (T := F_Checks) (N := 8) (v := .ref c4) hx hb hts u_Checks_in hown hK hP 0 rfl rfl 4 (by decide) kw_112 rfl d_q_Checks_missAt_23 ?_
      refine lv_iload hx hb d_q_Checks_missAt_26 (lv_at hl 4 rfl) ?_
      refine n_iald hx hb hK hP 5 0 rfl rfl (by omega) (by decide) d_q_Checks_missAt_28 ?_
      refine lv_aload_n hx hb d_q_Checks_missAt_29 rfl (lv_at hl 0 rfl) ?_
      refine n_get (C := R_Checks) (T := F_Checks) (N := 8) (v := .ref c3) hx hb hts u_Checks_in hown hK hP 0 rfl rfl 3 (by decide) kw_111 rfl d_q_Checks_missAt_30 ?_
      refine lv_iload_n hx hb d_q_Checks_missAt_33 rfl (lv_at hl 1 rfl) ?_
      refine lv_iload hx hb d_q_Checks_missAt_34 (lv_at hl 4 rfl) ?_
      refine n_isub hx hb d_q_Checks_missAt_36 (by omega) ?_
      refine n_iald hx hb hK hP 4 0 rfl rfl (by omega) (by decide) d_q_Checks_missAt_37 ?_
      refine q_readV (n := 2) (As := [.int (nI (lc k)), .int (nI (su (x - k)))]) (rest := [.int (nI (msL lc su x k))]) (wc := [(fo, .inr (1, [.ref fp, .ref fl])), (fp, .inl (cI, 255, .inl (fun j => nI (po j)))), (fl, .inl (cI, 256, .inl (fun j => nI (lo j))))]) S (c_q_Field_product l D cI cC fo fp fl po lo (lc k) (su (x - k)) (by omega) (by omega) hF) hK hP (q0 := 1) rfl rfl [1, 2, 3] rfl (q_goodV kw_540 kw_541 kw_542 kw_5 kw_543) (by decide +kernel) rfl rfl rfl ⟨Nat.le_trans (Nat.le_of_ble_eq_true rfl) hRf, Nat.le_trans (Nat.le_of_ble_eq_true rfl) hRl⟩ rfl hl.1 rfl (Nat.le_of_ble_eq_true rfl) d_q_Checks_missAt_38 hRc hS (fun H locs hP hS => ?_)
      refine n_ixor hx hb d_q_Checks_missAt_41 ?_
      refine n_topn (show (msL lc su x k) ^^^ (gm (lc k) (su (x - k))) = msL lc su x (k + 1) from rfl) ?_
      refine lv_istore_n hx hb d_q_Checks_missAt_42 rfl hl (Nat.le_of_ble_eq_true rfl) rfl (fun ls hl => ?_)
      have hl : lv_has ls 5 [(3, .int (nI (msL lc su x (k + 1)))), (0, .ref co), (1, .int (nI x)), (2, .int (nI y)), (4, .int (nI k))] := hl
      refine lv_iinc (k := 4) (v := nI (k + 1)) hx hb d_q_Checks_missAt_43 hl rfl (nx_inc k 1) (Nat.le_of_ble_eq_true rfl) rfl (fun ls hl => ?_)
      have hl : lv_has ls 5 [(4, .int (nI (k + 1))), (3, .int (nI (msL lc su x (k + 1)))), (0, .ref co), (1, .int (nI x)), (2, .int (nI y))] := hl
      refine lv_goto hx hb d_q_Checks_missAt_46 (tgt := 5) rfl ?_
      exact ih (by omega) ls H locs (lv_sub hl [2, 3, 4, 1, 0] rfl) hP hS
set_option maxHeartbeats 1000000 in
set_option maxRecDepth 100000 in
theorem bd_q_Checks_missAt (cI cC : ClassId) (co c1 c2 c3 c4 c5 c6 c7 fo fp fl : Nat) (po lo su lc : Nat → Nat) (x y : Nat) (hx0 : x < 17) (hy0 : y ≤ 17) (hlc : lt256 18 lc) (hsu : lt256 17 su) (hF : fldOK po lo) (S : CallFix p m c b_q_Checks_missAt 5 s args (cd_q_Checks_missAt :: WS) R_Checks) (hRf : 1 ≤ R.frames) (hRl : 22 ≤ R.locals) (hRc : cells ≤ R.cells ∧ slots ≤ R.slots) (hK : va_K D classes [(cI, .int), (cC, .char)] s) (kr : ∀ (pc : Nat) (ls : Array Slot) (H : Heap) (locs : List Loc), decode b_q_Checks_missAt pc = .ok (.ireturn, 1) → va_P D classes [(co, .inr (0, [.ref fo, .ref c1, .ref c2, .ref c3, .ref c4, .ref c5, .ref c6, .ref c7])), (fo, .inr (1, [.ref fp, .ref fl])), (fp, .inl (cI, 255, .inl (fun j => nI (po j)))), (fl, .inl (cI, 256, .inl (fun j => nI (lo j)))), (c3, .inl (cI, 17, .inl (fun j => nI (su j)))), (c4, .inl (cI, 18, .inl (fun j => nI (lc j))))] H → va_S A H0 H locs → W p l e R s m args below meth c H locs cells slots Q (F0 m pc ls [.int (nI (msL lc su x (min y x + 1)))])) : ∀ (ls : Array Slot) (H : Heap) (locs : List Loc), lv_has ls 5 [(0, .ref co), (1, .int (nI x)), (2, .int (nI y))] → va_P D classes [(co, .inr (0, [.ref fo, .ref c1, .ref c2, .ref c3, .ref c4, .ref c5, .ref c6, .ref c7])), (fo, .inr (1, [.ref fp, .ref fl])), (fp, .inl (cI, 255, .inl (fun j => nI (po j)))), (fl, .inl (cI, 256, .inl (fun j => nI (lo j)))), (c3, .inl (cI, 17, .inl (fun j => nI (su j)))), (c4, .inl (cI, 18, .inl (fun j => nI (lc j))))] H → va_S A H0 H locs → W p l e R s m args below meth c H locs cells slots Q (F0 m 0 ls []) := by
  obtain ⟨hx, hb, hml, hown, hts⟩ := id S
  intro ls H locs hl hP hS
  refine lv_iconst (v := nI 0) hx hb d_q_Checks_missAt_0 (by decide) ?_
  refine lv_istore_n hx hb d_q_Checks_missAt_1 rfl hl (Nat.le_of_ble_eq_true rfl) rfl (fun ls hl => ?_)
  have hl : lv_has ls 5 [(3, .int (nI 0)), (0, .ref co), (1, .int (nI x)), (2, .int (nI y))] := hl
  refine lv_iconst (v := nI 0) hx hb d_q_Checks_missAt_2 (by decide) ?_
  refine lv_istore hx hb d_q_Checks_missAt_3 hl (Nat.le_of_ble_eq_true rfl) rfl (fun ls hl => ?_)
  have hl : lv_has ls 5 [(4, .int (nI 0)), (3, .int (nI 0)), (0, .ref co), (1, .int (nI x)), (2, .int (nI y))] := hl
  refine lp_q_Checks_missAt_5 cI cC co c1 c2 c3 c4 c5 c6 c7 fo fp fl po lo su lc x y hx0 hy0 hlc hsu hF S hRf hRl hRc hK  (fun ls H locs hl hP hS => ?_) 0 (by omega) ls H locs (lv_sub hl [2, 3, 4, 1, 0] rfl) hP hS
  refine lv_iload_n hx hb d_q_Checks_missAt_49 rfl (lv_at hl 3 rfl) ?_
  exact kr _ ls H locs d_q_Checks_missAt_50 hP hS
set_option maxHeartbeats 1000000 in
set_option maxRecDepth 100000 in
theorem c_q_Checks_missAt (l : Launch) (D : va_G) (cI cC : ClassId) (co c1 c2 c3 c4 c5 c6 c7 fo fp fl : Nat) (po lo su lc : Nat → Nat) (x y : Nat) (hx0 : x < 17) (hy0 : y ≤ 17) (hlc : lt256 18 lc) (hsu : lt256 17 su) (hF : fldOK po lo) : Met l y_q_Checks_missAt (cd_q_Checks_missAt :: WS) { frames := 1, cells := 0, slots := 0, locals := 22 } (va_Pc [.ref co, .int (nI x), .int (nI y)] (rP D [(co, .inr (0, [.ref fo, .ref c1, .ref c2, .ref c3, .ref c4, .ref c5, .ref c6, .ref c7])), (fo, .inr (1, [.ref fp, .ref fl])), (fp, .inl (cI, 255, .inl (fun j => nI (po j)))), (fl, .inl (cI, 256, .inl (fun j => nI (lo j)))), (c3, .inl (cI, 17, .inl (fun j => nI (su j)))), (c4, .inl (cI, 18, .inl (fun j => nI (lc j))))] [(cI, .int), (cC, .char)])) (pQ (nI (msL lc su x (min y x + 1)))) 0 0 noA := by
  refine Met.ofW (cc := b_q_Checks_missAt) (maxL := 5) (ret := (some .int)) (by decide) rfl ?_
  intro p e s m args below meth c s₁ B hml hv0
  obtain ⟨rfl, hP, hK⟩ := hv0
  have hts := atoms_spec (ws := cd_q_Checks_missAt :: WS) B.pre
  have hown : s.vm.findClass R_Checks = some m.cls := findClass_of_methodNamed B.named
  have hlocks := B.notSynchronized
  have hl := lv_entry ([.ref co, .int (nI x), .int (nI y)]) (n := 5) (Nat.le_of_ble_eq_true rfl)
  rw [lg_entry_eq]
  generalize (lg_sl ([.ref co, .int (nI x), .int (nI y)]) ++ List.replicate (5 - (lg_sl ([.ref co, .int (nI x), .int (nI y)])).length) Slot.unset).toArray = ls at hl ⊢
  refine bd_q_Checks_missAt cI cC co c1 c2 c3 c4 c5 c6 c7 fo fp fl po lo su lc x y hx0 hy0 hlc hsu hF ⟨B.exec, B.bytes, hml, hown, hts⟩ (Nat.le_refl _) (Nat.le_refl _) ⟨Nat.le_refl _, Nat.le_refl _⟩ hK (fun pc ls H locs hd hP hS => ?_) ls _ _ hl hP (va_S.rf (A := noA))
  exact W.iret B.exec B.bytes B.returns (fun t ht _ => ⟨⟨_, (), rfl, rfl, trivial⟩, hS.F ht⟩) hS.2.2 hd
end
section
theorem d_q_Checks_addShifted_0 : decode b_q_Checks_addShifted 0 = .ok (.iconst 0, 1) := by decide +kernel
theorem d_q_Checks_addShifted_1 : decode b_q_Checks_addShifted 1 = .ok (.istore_n 3, 1) := by decide +kernel
theorem d_q_Checks_addShifted_2 : decode b_q_Checks_addShifted 2 = .ok (.iload_n 3, 1) := by decide +kernel
theorem d_q_Checks_addShifted_3 : decode b_q_Checks_addShifted 3 = .ok (.iload_n 2, 1) := by decide +kernel
theorem d_q_Checks_addShifted_4 : decode b_q_Checks_addShifted 4 = .ok (.iadd, 1) := by decide +kernel
theorem d_q_Checks_addShifted_5 : decode b_q_Checks_addShifted 5 = .ok (.bipush 18, 2) := by decide +kernel
theorem d_q_Checks_addShifted_7 : decode b_q_Checks_addShifted 7 = .ok (.if_icmp .ge 34, 3) := by decide +kernel
theorem d_q_Checks_addShifted_10 : decode b_q_Checks_addShifted 10 = .ok (.aload_n 0, 1) := by decide +kernel
theorem d_q_Checks_addShifted_11 : decode b_q_Checks_addShifted 11 = .ok (.getfield 28, 3) := by decide +kernel
theorem d_q_Checks_addShifted_14 : decode b_q_Checks_addShifted 14 = .ok (.iload_n 3, 1) := by decide +kernel
theorem d_q_Checks_addShifted_15 : decode b_q_Checks_addShifted 15 = .ok (.iload_n 2, 1) := by decide +kernel
theorem d_q_Checks_addShifted_16 : decode b_q_Checks_addShifted 16 = .ok (.iadd, 1) := by decide +kernel
theorem d_q_Checks_addShifted_17 : decode b_q_Checks_addShifted 17 = .ok (.dup2, 1) := by decide +kernel
theorem d_q_Checks_addShifted_18 : decode b_q_Checks_addShifted 18 = .ok (.iaload, 1) := by decide +kernel
theorem d_q_Checks_addShifted_19 : decode b_q_Checks_addShifted 19 = .ok (.aload_n 0, 1) := by decide +kernel
theorem d_q_Checks_addShifted_20 : decode b_q_Checks_addShifted 20 = .ok (.getfield 12, 3) := by decide +kernel
theorem d_q_Checks_addShifted_23 : decode b_q_Checks_addShifted 23 = .ok (.iload_n 1, 1) := by decide +kernel
theorem d_q_Checks_addShifted_24 : decode b_q_Checks_addShifted 24 = .ok (.aload_n 0, 1) := by decide +kernel
theorem d_q_Checks_addShifted_25 : decode b_q_Checks_addShifted 25 = .ok (.getfield 31, 3) := by decide +kernel
theorem d_q_Checks_addShifted_28 : decode b_q_Checks_addShifted 28 = .ok (.iload_n 3, 1) := by decide +kernel
theorem d_q_Checks_addShifted_29 : decode b_q_Checks_addShifted 29 = .ok (.iaload, 1) := by decide +kernel
theorem d_q_Checks_addShifted_30 : decode b_q_Checks_addShifted 30 = .ok (.invokevirtual 56, 3) := by decide +kernel
theorem d_q_Checks_addShifted_33 : decode b_q_Checks_addShifted 33 = .ok (.ixor, 1) := by decide +kernel
theorem d_q_Checks_addShifted_34 : decode b_q_Checks_addShifted 34 = .ok (.iastore, 1) := by decide +kernel
theorem d_q_Checks_addShifted_35 : decode b_q_Checks_addShifted 35 = .ok (.iinc 3 1, 3) := by decide +kernel
theorem d_q_Checks_addShifted_38 : decode b_q_Checks_addShifted 38 = .ok (.goto (-36), 3) := by decide +kernel
theorem d_q_Checks_addShifted_41 : decode b_q_Checks_addShifted 41 = .ok (.return_, 1) := by decide +kernel
end
section
variable {p : Program} {l : Launch} {e : Env} {R : Room} {s : State} {m : MethodId} {args : Array Value} {below : List Frame} {meth : Method} {c : Code} {cells slots : Nat} {Q : State → Prop} {A : Nat → Prop} {H0 : Heap} {D : va_G}
set_option maxHeartbeats 1000000 in
set_option maxRecDepth 100000 in
theorem lp_q_Checks_addShifted_2 (cI cC : ClassId) (co c1 c2 c3 c4 c5 c6 c7 fo fp fl : Nat) (po lo lc fm : Nat → Nat) (f y : Nat) (hf0 : f < 256) (hy0 : y ≤ 18) (hfm : lt256 18 fm) (hF : fldOK po lo) (S : CallFix p m c b_q_Checks_addShifted 4 s args (cd_q_Checks_addShifted :: WS) R_Checks) (hRf : 1 ≤ R.frames) (hRl : 22 ≤ R.locals) (hRc : cells ≤ R.cells ∧ slots ≤ R.slots) (hK : va_K D classes [(cI, .int), (cC, .char)] s) (hA : ∀ q, H0.size ≤ q → A q) (kx : ∀ (ls : Array Slot) (H : Heap) (locs : List Loc), lv_has ls 4 [(0, .ref co), (1, .int (nI f)), (2, .int (nI y)), (3, .int (nI (18 - y)))] → va_P D classes [(co, .inr (0, [.ref fo, .ref c1, .ref c2, .ref c3, .ref c4, .ref c5, .ref c6, .ref c7])), (fo, .inr (1, [.ref fp, .ref fl])), (fp, .inl (cI, 255, .inl (fun j => nI (po j)))), (fl, .inl (cI, 256, .inl (fun j => nI (lo j)))), (c4, .inl (cI, 18, .inl (fun j => nI ((asL lc fm f y (18 - y)) j)))), (c5, .inl (cI, 18, .inl (fun j => nI (fm j))))] H → va_D A [(co, .inr (0, [.ref fo, .ref c1, .ref c2, .ref c3, .ref c4, .ref c5, .ref c6, .ref c7])), (fo, .inr (1, [.ref fp, .ref fl])), (fp, .inl (cI, 255, .inl (fun j => nI (po j)))), (fl, .inl (cI, 256, .inl (fun j => nI (lo j)))), (c4, .inl (cI, 18, .inl (fun j => nI ((asL lc fm f y (18 - y)) j)))), (c5, .inl (cI, 18, .inl (fun j => nI (fm j))))] → va_S A H0 H locs → W p l e R s m args below meth c H locs cells slots Q (F0 m 41 ls [])) :
    ∀ k, k ≤ 18 - y → ∀ (ls : Array Slot) (H : Heap) (locs : List Loc), lv_has ls 4 [(0, .ref co), (1, .int (nI f)), (2, .int (nI y)), (3, .int (nI k))] → va_P D classes [(co, .inr (0, [.ref fo, .ref c1, .ref c2, .ref c3, .ref c4, .ref c5, .ref c6, .ref c7])), (fo, .inr (1, [.ref fp, .ref fl])), (fp, .inl (cI, 255, .inl (fun j => nI (po j)))), (fl, .inl (cI, 256, .inl (fun j => nI (lo j)))), (c4, .inl (cI, 18, .inl (fun j => nI ((asL lc fm f y k) j)))), (c5, .inl (cI, 18, .inl (fun j => nI (fm j))))] H → va_D A [(co, .inr (0, [.ref fo, .ref c1, .ref c2, .ref c3, .ref c4, .ref c5, .ref c6, .ref c7])), (fo, .inr (1, [.ref fp, .ref fl])), (fp, .inl (cI, 255, .inl (fun j => nI (po j)))), (fl, .inl (cI, 256, .inl (fun j => nI (lo j)))), (c4, .inl (cI, 18, .inl (fun j => nI ((asL lc fm f y k) j)))), (c5, .inl (cI, 18, .inl (fun j => nI (fm j))))] → va_S A H0 H locs → W p l e R s m args below meth c H locs cells slots Q (F0 m 2 ls []) := by
  obtain ⟨hx, hb, hml, hown, hts⟩ := id S
  refine up_loop (fun k hkk ih => ?_)
  intro ls H locs hl hP hD hS
  refine lv_iload_n hx hb d_q_Checks_addShifted_2 rfl (lv_at hl 3 rfl) ?_
  refine lv_iload_n hx hb d_q_Checks_addShifted_3 rfl (lv_at hl 2 rfl) ?_
  refine n_iadd hx hb d_q_Checks_addShifted_4 ?_
  refine lv_bipush (v := nI 18) hx hb d_q_Checks_addShifted_5 (by decide) ?_
  refine n_icmp_ge hx hb d_q_Checks_addShifted_7 (tgt := 41) rfl (by omega) (by omega) (fun g7 => ?_) (fun g7 => ?_)
  · skip
    obtain rfl : k = 18 - y := by omega
    exact kx ls H locs (lv_sub hl [0, 1, 2, 3] rfl) hP hD hS
  · skip
    have h1 := hfm k (by omega)
    refine lv_aload_n hx hb d_q_Checks_addShifted_10 rfl (lv_at hl 0 rfl) ?_
    refine n_get (C := R_Checks) (T := F_Checks) (N := 8) (v := .ref c4) hx hb hts u_Checks_in hown hK hP 0 rfl rfl 4 (by decide) kw_112 rfl d_q_Checks_addShifted_11 ?_
    refine lv_iload_n hx hb d_q_Checks_addShifted_14 rfl (lv_at hl 3 rfl) ?_
    refine lv_iload_n hx hb d_q_Checks_addShifted_15 rfl (lv_at hl 2 rfl) ?_
    refine n_iadd hx hb d_q_Checks_addShifted_16 ?_
    refine lv_dup2_11 hx hb d_q_Checks_addShifted_17 rfl rfl ?_
    refine n_iald hx hb hK hP 4 0 rfl rfl (by omega) (by decide) d_q_Checks_addShifted_18 ?_
    refine lv_aload_n hx hb d_q_Checks_addShifted_19 rfl (lv_at hl 0 rfl) ?_
    refine n_get (C := R_Checks) (T := F_Checks) (N := 8) (v := .ref fo) hx hb hts u_Checks_in hown hK hP 0 rfl rfl 0 (by decide) kw_108 rfl d_q_Checks_addShifted_20 ?_
    refine lv_iload_n hx hb d_q_Checks_addShifted_23 rfl (lv_at hl 1 rfl) ?_
    refine lv_aload_n hx hb d_q_Checks_addShifted_24 rfl (lv_at hl 0 rfl) ?_
    refine n_get (C := R_Checks) (T := F_Checks) (N := 8) (v := .ref c5) hx hb hts u_Checks_in hown hK hP 0 rfl rfl 5 (by decide) kw_113 rfl d_q_Checks_addShifted_25 ?_
    refine lv_iload_n hx hb d_q_Checks_addShifted_28 rfl (lv_at hl 3 rfl) ?_
    refine n_iald hx hb hK hP 5 0 rfl rfl (by omega) (by decide) d_q_Checks_addShifted_29 ?_
    refine q_readV (n := 2) (As := [.int (nI f), .int (nI (fm k))]) (rest := [.int (nI ((asL lc fm f y k) (k + y))), .int (nI (k + y)), .ref c4]) (wc := [(fo, .inr (1, [.ref fp, .ref fl])), (fp, .inl (cI, 255, .inl (fun j => nI (po j)))), (fl, .inl (cI, 256, .inl (fun j => nI (lo j))))]) S (c_q_Field_product l D cI cC fo fp fl po lo f (fm k) (by omega) (by omega) hF) hK hP (q0 := 1) rfl rfl [1, 2, 3] rfl (q_goodV kw_540 kw_541 kw_542 kw_5 kw_543) (by decide +kernel) rfl rfl rfl ⟨Nat.le_trans (Nat.le_of_ble_eq_true rfl) hRf, Nat.le_trans (Nat.le_of_ble_eq_true rfl) hRl⟩ rfl hl.1 rfl (Nat.le_of_ble_eq_true rfl) d_q_Checks_addShifted_30 hRc hS (fun H locs hP hS => ?_)
    refine n_ixor hx hb d_q_Checks_addShifted_33 ?_
    refine n_iast hx hb hK hP hD hS 4 0 rfl rfl (by omega) (by decide) d_q_Checks_addShifted_34 (fun H locs hP hD hS => ?_)
    have hP : va_P D classes [(co, .inr (0, [.ref fo, .ref c1, .ref c2, .ref c3, .ref c4, .ref c5, .ref c6, .ref c7])), (fo, .inr (1, [.ref fp, .ref fl])), (fp, .inl (cI, 255, .inl (fun j => nI (po j)))), (fl, .inl (cI, 256, .inl (fun j => nI (lo j)))), (c4, .inl (cI, 18, .inl (fun j => nI ((va_up (asL lc fm f y k) (k + y) (((asL lc fm f y k) (k + y)) ^^^ (gm f (fm k)))) j)))), (c5, .inl (cI, 18, .inl (fun j => nI (fm j))))] H := hP
    have hD : va_D A [(co, .inr (0, [.ref fo, .ref c1, .ref c2, .ref c3, .ref c4, .ref c5, .ref c6, .ref c7])), (fo, .inr (1, [.ref fp, .ref fl])), (fp, .inl (cI, 255, .inl (fun j => nI (po j)))), (fl, .inl (cI, 256, .inl (fun j => nI (lo j)))), (c4, .inl (cI, 18, .inl (fun j => nI ((va_up (asL lc fm f y k) (k + y) (((asL lc fm f y k) (k + y)) ^^^ (gm f (fm k)))) j)))), (c5, .inl (cI, 18, .inl (fun j => nI (fm j))))] := hD
    rw [show va_up (asL lc fm f y k) (k + y) (((asL lc fm f y k) (k + y)) ^^^ (gm f (fm k))) = asL lc fm f y (k + 1) from rfl] at hP hD
    refine lv_iinc (k := 3) (v := nI (k + 1)) hx hb d_q_Checks_addShifted_35 hl rfl (nx_inc k 1) (Nat.le_of_ble_eq_true rfl) rfl (fun ls hl => ?_)
    have hl : lv_has ls 4 [(3, .int (nI (k + 1))), (0, .ref co), (1, .int (nI f)), (2, .int (nI y))] := hl
    refine lv_goto hx hb d_q_Checks_addShifted_38 (tgt := 2) rfl ?_
    exact ih (by omega) ls H locs (lv_sub hl [1, 2, 3, 0] rfl) hP hD hS
set_option maxHeartbeats 1000000 in
set_option maxRecDepth 100000 in
theorem bd_q_Checks_addShifted (cI cC : ClassId) (co c1 c2 c3 c4 c5 c6 c7 fo fp fl : Nat) (po lo lc fm : Nat → Nat) (f y : Nat) (hf0 : f < 256) (hy0 : y ≤ 18) (hfm : lt256 18 fm) (hF : fldOK po lo) (S : CallFix p m c b_q_Checks_addShifted 4 s args (cd_q_Checks_addShifted :: WS) R_Checks) (hRf : 1 ≤ R.frames) (hRl : 22 ≤ R.locals) (hRc : cells ≤ R.cells ∧ slots ≤ R.slots) (hK : va_K D classes [(cI, .int), (cC, .char)] s) (hA : ∀ q, H0.size ≤ q → A q) (kr : ∀ (pc : Nat) (ls : Array Slot) (H : Heap) (locs : List Loc), decode b_q_Checks_addShifted pc = .ok (.return_, 1) → va_P D classes [(co, .inr (0, [.ref fo, .ref c1, .ref c2, .ref c3, .ref c4, .ref c5, .ref c6, .ref c7])), (fo, .inr (1, [.ref fp, .ref fl])), (fp, .inl (cI, 255, .inl (fun j => nI (po j)))), (fl, .inl (cI, 256, .inl (fun j => nI (lo j)))), (c4, .inl (cI, 18, .inl (fun j => nI ((asL lc fm f y (18 - y)) j)))), (c5, .inl (cI, 18, .inl (fun j => nI (fm j))))] H → va_D A [(co, .inr (0, [.ref fo, .ref c1, .ref c2, .ref c3, .ref c4, .ref c5, .ref c6, .ref c7])), (fo, .inr (1, [.ref fp, .ref fl])), (fp, .inl (cI, 255, .inl (fun j => nI (po j)))), (fl, .inl (cI, 256, .inl (fun j => nI (lo j)))), (c4, .inl (cI, 18, .inl (fun j => nI ((asL lc fm f y (18 - y)) j)))), (c5, .inl (cI, 18, .inl (fun j => nI (fm j))))] → va_S A H0 H locs → W p l e R s m args below meth c H locs cells slots Q (F0 m pc ls [])) : ∀ (ls : Array Slot) (H : Heap) (locs : List Loc), lv_has ls 4 [(0, .ref co), (1, .int (nI f)), (2, .int (nI y))] → va_P D classes [(co, .inr (0, [.ref fo, .ref c1, .ref c2, .ref c3, .ref c4, .ref c5, .ref c6, .ref c7])), (fo, .inr (1, [.ref fp, .ref fl])), (fp, .inl (cI, 255, .inl (fun j => nI (po j)))), (fl, .inl (cI, 256, .inl (fun j => nI (lo j)))), (c4, .inl (cI, 18, .inl (fun j => nI (lc j)))), (c5, .inl (cI, 18, .inl (fun j => nI (fm j))))] H → va_D A [(co, .inr (0, [.ref fo, .ref c1, .ref c2, .ref c3, .ref c4, .ref c5, .ref c6, .ref c7])), (fo, .inr (1, [.ref fp, .ref fl])), (fp, .inl (cI, 255, .inl (fun j => nI (po j)))), (fl, .inl (cI, 256, .inl (fun j => nI (lo j)))), (c4, .inl (cI, 18, .inl (fun j => nI (lc j)))), (c5, .inl (cI, 18, .inl (fun j => nI (fm j))))] → va_S A H0 H locs → W p l e R s m args below meth c H locs cells slots Q (F0 m 0 ls []) := by
  obtain ⟨hx, hb, hml, hown, hts⟩ := id S
  intro ls H locs hl hP hD hS
  refine lv_iconst (v := nI 0) hx hb d_q_Checks_addShifted_0 (by decide) ?_
  refine lv_istore_n hx hb d_q_Checks_addShifted_1 rfl hl (Nat.le_of_ble_eq_true rfl) rfl (fun ls hl => ?_)
  have hl : lv_has ls 4 [(3, .int (nI 0)), (0, .ref co), (1, .int (nI f)), (2, .int (nI y))] := hl
  refine lp_q_Checks_addShifted_2 cI cC co c1 c2 c3 c4 c5 c6 c7 fo fp fl po lo lc fm f y hf0 hy0 hfm hF S hRf hRl hRc hK hA  (fun ls H locs hl hP hD hS => ?_) 0 (by omega) ls H locs (lv_sub hl [1, 2, 3, 0] rfl) hP hD hS
  exact kr _ ls H locs d_q_Checks_addShifted_41 hP hD hS
set_option maxHeartbeats 1000000 in
set_option maxRecDepth 100000 in
theorem c_q_Checks_addShifted (l : Launch) (D : va_G) (cI cC : ClassId) (co c1 c2 c3 c4 c5 c6 c7 fo fp fl : Nat) (po lo lc fm : Nat → Nat) (f y : Nat) (hf0 : f < 256) (hy0 : y ≤ 18) (hfm : lt256 18 fm) (hF : fldOK po lo) (sz : Nat) : Met l y_q_Checks_addShifted (cd_q_Checks_addShifted :: WS) { frames := 1, cells := 0, slots := 0, locals := 22 } (va_Pc [.ref co, .int (nI f), .int (nI y)] (wP D [(co, .inr (0, [.ref fo, .ref c1, .ref c2, .ref c3, .ref c4, .ref c5, .ref c6, .ref c7])), (fo, .inr (1, [.ref fp, .ref fl])), (fp, .inl (cI, 255, .inl (fun j => nI (po j)))), (fl, .inl (cI, 256, .inl (fun j => nI (lo j)))), (c4, .inl (cI, 18, .inl (fun j => nI (lc j)))), (c5, .inl (cI, 18, .inl (fun j => nI (fm j))))] [(cI, .int), (cC, .char)] sz)) (wQv D [(co, .inr (0, [.ref fo, .ref c1, .ref c2, .ref c3, .ref c4, .ref c5, .ref c6, .ref c7])), (fo, .inr (1, [.ref fp, .ref fl])), (fp, .inl (cI, 255, .inl (fun j => nI (po j)))), (fl, .inl (cI, 256, .inl (fun j => nI (lo j)))), (c4, .inl (cI, 18, .inl (fun j => nI (lc j)))), (c5, .inl (cI, 18, .inl (fun j => nI (fm j))))] [(co, .inr (0, [.ref fo, .ref c1, .ref c2, .ref c3, .ref c4, .ref c5, .ref c6, .ref c7])), (fo, .inr (1, [.ref fp, .ref fl])), (fp, .inl (cI, 255, .inl (fun j => nI (po j)))), (fl, .inl (cI, 256, .inl (fun j => nI (lo j)))), (c4, .inl (cI, 18, .inl (fun j => nI ((asL lc fm f y (18 - y)) j)))), (c5, .inl (cI, 18, .inl (fun j => nI (fm j))))] sz) 0 0 (va_A [(co, .inr (0, [.ref fo, .ref c1, .ref c2, .ref c3, .ref c4, .ref c5, .ref c6, .ref c7])), (fo, .inr (1, [.ref fp, .ref fl])), (fp, .inl (cI, 255, .inl (fun j => nI (po j)))), (fl, .inl (cI, 256, .inl (fun j => nI (lo j)))), (c4, .inl (cI, 18, .inl (fun j => nI (lc j)))), (c5, .inl (cI, 18, .inl (fun j => nI (fm j))))] sz) := by
  refine Met.ofW (cc := b_q_Checks_addShifted) (maxL := 4) (ret := none) (by decide) rfl ?_
  intro p e s m args below meth c s₁ B hml hv0
  obtain ⟨rfl, hP, hK, hD0, hsz⟩ := hv0
  have hts := atoms_spec (ws := cd_q_Checks_addShifted :: WS) B.pre
  have hown : s.vm.findClass R_Checks = some m.cls := findClass_of_methodNamed B.named
  have hlocks := B.notSynchronized
  subst hsz
  have hD := hD0.self (sz := s.heap.size)
  have hl := lv_entry ([.ref co, .int (nI f), .int (nI y)]) (n := 4) (Nat.le_of_ble_eq_true rfl)
  rw [lg_entry_eq]
  generalize (lg_sl ([.ref co, .int (nI f), .int (nI y)]) ++ List.replicate (4 - (lg_sl ([.ref co, .int (nI f), .int (nI y)])).length) Slot.unset).toArray = ls at hl ⊢
  refine bd_q_Checks_addShifted cI cC co c1 c2 c3 c4 c5 c6 c7 fo fp fl po lo lc fm f y hf0 hy0 hfm hF ⟨B.exec, B.bytes, hml, hown, hts⟩ (Nat.le_refl _) (Nat.le_refl _) ⟨Nat.le_refl _, Nat.le_refl _⟩ hK (fun q h => Or.inr h) (fun pc ls H locs hd hP hD hS => ?_) ls _ _ hl hP hD (va_S.rf)
  exact W.vret B.exec B.bytes B.returns (fun t ht _ => ⟨⟨(), rfl, trivial, (by have h9 := hP; rw [← ht] at h9; exact h9)⟩, hS.F ht⟩) hS.2.2 hd
end
section
theorem d_q_Checks_findEvaluator_0 : decode b_q_Checks_findEvaluator 0 = .ok (.aload_n 0, 1) := by decide +kernel
theorem d_q_Checks_findEvaluator_1 : decode b_q_Checks_findEvaluator 1 = .ok (.getfield 37, 3) := by decide +kernel
theorem d_q_Checks_findEvaluator_4 : decode b_q_Checks_findEvaluator 4 = .ok (.iconst 0, 1) := by decide +kernel
theorem d_q_Checks_findEvaluator_5 : decode b_q_Checks_findEvaluator 5 = .ok (.invokestatic 44, 3) := by decide +kernel
theorem d_q_Checks_findEvaluator_8 : decode b_q_Checks_findEvaluator 8 = .ok (.iconst 0, 1) := by decide +kernel
theorem d_q_Checks_findEvaluator_9 : decode b_q_Checks_findEvaluator 9 = .ok (.istore_n 2, 1) := by decide +kernel
theorem d_q_Checks_findEvaluator_10 : decode b_q_Checks_findEvaluator 10 = .ok (.iload_n 2, 1) := by decide +kernel
theorem d_q_Checks_findEvaluator_11 : decode b_q_Checks_findEvaluator 11 = .ok (.iload_n 1, 1) := by decide +kernel
theorem d_q_Checks_findEvaluator_12 : decode b_q_Checks_findEvaluator 12 = .ok (.if_icmp .ge 52, 3) := by decide +kernel
theorem d_q_Checks_findEvaluator_15 : decode b_q_Checks_findEvaluator 15 = .ok (.iconst 0, 1) := by decide +kernel
theorem d_q_Checks_findEvaluator_16 : decode b_q_Checks_findEvaluator 16 = .ok (.istore_n 3, 1) := by decide +kernel
theorem d_q_Checks_findEvaluator_17 : decode b_q_Checks_findEvaluator 17 = .ok (.iload_n 3, 1) := by decide +kernel
theorem d_q_Checks_findEvaluator_18 : decode b_q_Checks_findEvaluator 18 = .ok (.iload_n 2, 1) := by decide +kernel
theorem d_q_Checks_findEvaluator_19 : decode b_q_Checks_findEvaluator 19 = .ok (.if_icmp .gt 39, 3) := by decide +kernel
theorem d_q_Checks_findEvaluator_22 : decode b_q_Checks_findEvaluator 22 = .ok (.aload_n 0, 1) := by decide +kernel
theorem d_q_Checks_findEvaluator_23 : decode b_q_Checks_findEvaluator 23 = .ok (.getfield 37, 3) := by decide +kernel
theorem d_q_Checks_findEvaluator_26 : decode b_q_Checks_findEvaluator 26 = .ok (.iload_n 2, 1) := by decide +kernel
theorem d_q_Checks_findEvaluator_27 : decode b_q_Checks_findEvaluator 27 = .ok (.dup2, 1) := by decide +kernel
theorem d_q_Checks_findEvaluator_28 : decode b_q_Checks_findEvaluator 28 = .ok (.iaload, 1) := by decide +kernel
theorem d_q_Checks_findEvaluator_29 : decode b_q_Checks_findEvaluator 29 = .ok (.aload_n 0, 1) := by decide +kernel
theorem d_q_Checks_findEvaluator_30 : decode b_q_Checks_findEvaluator 30 = .ok (.getfield 12, 3) := by decide +kernel
theorem d_q_Checks_findEvaluator_33 : decode b_q_Checks_findEvaluator 33 = .ok (.aload_n 0, 1) := by decide +kernel
theorem d_q_Checks_findEvaluator_34 : decode b_q_Checks_findEvaluator 34 = .ok (.getfield 28, 3) := by decide +kernel
theorem d_q_Checks_findEvaluator_37 : decode b_q_Checks_findEvaluator 37 = .ok (.iload_n 3, 1) := by decide +kernel
theorem d_q_Checks_findEvaluator_38 : decode b_q_Checks_findEvaluator 38 = .ok (.iaload, 1) := by decide +kernel
theorem d_q_Checks_findEvaluator_39 : decode b_q_Checks_findEvaluator 39 = .ok (.aload_n 0, 1) := by decide +kernel
theorem d_q_Checks_findEvaluator_40 : decode b_q_Checks_findEvaluator 40 = .ok (.getfield 25, 3) := by decide +kernel
theorem d_q_Checks_findEvaluator_43 : decode b_q_Checks_findEvaluator 43 = .ok (.iload_n 2, 1) := by decide +kernel
theorem d_q_Checks_findEvaluator_44 : decode b_q_Checks_findEvaluator 44 = .ok (.iload_n 3, 1) := by decide +kernel
theorem d_q_Checks_findEvaluator_45 : decode b_q_Checks_findEvaluator 45 = .ok (.isub, 1) := by decide +kernel
theorem d_q_Checks_findEvaluator_46 : decode b_q_Checks_findEvaluator 46 = .ok (.iaload, 1) := by decide +kernel
theorem d_q_Checks_findEvaluator_47 : decode b_q_Checks_findEvaluator 47 = .ok (.invokevirtual 56, 3) := by decide +kernel
theorem d_q_Checks_findEvaluator_50 : decode b_q_Checks_findEvaluator 50 = .ok (.ixor, 1) := by decide +kernel
theorem d_q_Checks_findEvaluator_51 : decode b_q_Checks_findEvaluator 51 = .ok (.iastore, 1) := by decide +kernel
theorem d_q_Checks_findEvaluator_52 : decode b_q_Checks_findEvaluator 52 = .ok (.iinc 3 1, 3) := by decide +kernel
theorem d_q_Checks_findEvaluator_55 : decode b_q_Checks_findEvaluator 55 = .ok (.goto (-38), 3) := by decide +kernel
theorem d_q_Checks_findEvaluator_58 : decode b_q_Checks_findEvaluator 58 = .ok (.iinc 2 1, 3) := by decide +kernel
theorem d_q_Checks_findEvaluator_61 : decode b_q_Checks_findEvaluator 61 = .ok (.goto (-51), 3) := by decide +kernel
theorem d_q_Checks_findEvaluator_64 : decode b_q_Checks_findEvaluator 64 = .ok (.return_, 1) := by decide +kernel
end
section
variable {p : Program} {l : Launch} {e : Env} {R : Room} {s : State} {m : MethodId} {args : Array Value} {below : List Frame} {meth : Method} {c : Code} {cells slots : Nat} {Q : State → Prop} {A : Nat → Prop} {H0 : Heap} {D : va_G}
set_option maxHeartbeats 1000000 in
set_option maxRecDepth 100000 in
theorem lp_q_Checks_findEvaluator_17 (cI cC : ClassId) (co c1 c2 c3 c4 c5 c6 c7 fo fp fl : Nat) (po lo su lc vl : Nat → Nat) (x : Nat) (hx0 : x ≤ 17) (hlc : lt256 18 lc) (hsu : lt256 17 su) (hF : fldOK po lo) (S : CallFix p m c b_q_Checks_findEvaluator 4 s args (cd_q_Checks_findEvaluator :: WS) R_Checks) (hRf : 1 ≤ R.frames) (hRl : 23 ≤ R.locals) (hRc : cells ≤ R.cells ∧ slots ≤ R.slots) (hK : va_K D classes [(cI, .int), (cC, .char)] s) (hA : ∀ q, H0.size ≤ q → A q) (i : Nat) (hi : i < x) (kx : ∀ (ls : Array Slot) (H : Heap) (locs : List Loc), lv_has ls 4 [(0, .ref co), (1, .int (nI x)), (2, .int (nI i)), (3, .int (nI (i + 1)))] → va_P D classes [(co, .inr (0, [.ref fo, .ref c1, .ref c2, .ref c3, .ref c4, .ref c5, .ref c6, .ref c7])), (fo, .inr (1, [.ref fp, .ref fl])), (fp, .inl (cI, 255, .inl (fun j => nI (po j)))), (fl, .inl (cI, 256, .inl (fun j => nI (lo j)))), (c3, .inl (cI, 17, .inl (fun j => nI (su j)))), (c4, .inl (cI, 18, .inl (fun j => nI (lc j)))), (c7, .inl (cI, 17, .inl (fun j => nI ((feJ (feI (flL vl 0 17) lc su i) lc su i (i + 1)) j))))] H → va_D A [(co, .inr (0, [.ref fo, .ref c1, .ref c2, .ref c3, .ref c4, .ref c5, .ref c6, .ref c7])), (fo, .inr (1, [.ref fp, .ref fl])), (fp, .inl (cI, 255, .inl (fun j => nI (po j)))), (fl, .inl (cI, 256, .inl (fun j => nI (lo j)))), (c3, .inl (cI, 17, .inl (fun j => nI (su j)))), (c4, .inl (cI, 18, .inl (fun j => nI (lc j)))), (c7, .inl (cI, 17, .inl (fun j => nI ((feJ (feI (flL vl 0 17) lc su i) lc su i (i + 1)) j))))] → va_S A H0 H locs → W p l e R s m args below meth c H locs cells slots Q (F0 m 58 ls [])) :
    ∀ j, j ≤ i + 1 → ∀ (ls : Array Slot) (H : Heap) (locs : List Loc), lv_has ls 4 [(0, .ref co), (1, .int (nI x)), (2, .int (nI i)), (3, .int (nI j))] → va_P D classes [(co, .inr (0, [.ref fo, .ref c1, .ref c2, .ref c3, .ref c4, .ref c5, .ref c6, .ref c7])), (fo, .inr (1, [.ref fp, .ref fl])), (fp, .inl (cI, 255, .inl (fun j => nI (po j)))), (fl, .inl (cI, 256, .inl (fun j => nI (lo j)))), (c3, .inl (cI, 17, .inl (fun j => nI (su j)))), (c4, .inl (cI, 18, .inl (fun j => nI (lc j)))), (c7, .inl (cI, 17, .inl (fun z9 => nI ((feJ (feI (flL vl 0 17) lc su i) lc su i j) z9))))] H → va_D A [(co, .inr (0, [.ref fo, .ref c1, .ref c2, .ref c3, .ref c4, .ref c5, .ref c6, .ref c7])), (fo, .inr (1, [.ref fp, .ref fl])), (fp, .inl (cI, 255, .inl (fun j => nI (po j)))), (fl, .inl (cI, 256, .inl (fun j => nI (lo j)))), (c3, .inl (cI, 17, .inl (fun j => nI (su j)))), (c4, .inl (cI, 18, .inl (fun j => nI (lc j)))), (c7, .inl (cI, 17, .inl (fun z9 => nI ((feJ (feI (flL vl 0 17) lc su i) lc su i j) z9))))] → va_S A H0 H locs → W p l e R s m args below meth c H locs cells slots Q (F0 m 17 ls []) := by
  obtain ⟨hx, hb, hml, hown, hts⟩ := id S
  refine up_loop (fun j hkj ih => ?_)
  intro ls H locs hl hP hD hS
  refine lv_iload_n hx hb d_q_Checks_findEvaluator_17 rfl (lv_at hl 3 rfl) ?_
  refine lv_iload_n hx hb d_q_Checks_findEvaluator_18 rfl (lv_at hl 2 rfl) ?_
  refine n_icmp_gt hx hb d_q_Checks_findEvaluator_19 (tgt := 58) rfl (by omega) (by omega) (fun g19 => ?_) (fun g19 => ?_)
  · skip
    obtain rfl : j = i + 1 := by omega
    exact kx ls H locs (lv_sub hl [0, 1, 2, 3] rfl) hP hD hS
  · skip
    have h1 := hlc j (by omega)
    have h2 := hsu (i - j) (by omega)
    refine lv_aload_n hx hb d_q_Checks_findEvaluator_22 rfl (lv_at hl 0 rfl) ?_
    refine n_get (C := R_Checks) (T := F_Checks) (N := 8) (v := .ref c7) hx hb hts u_Checks_in hown hK hP 0 rfl rfl 7 (by decide) kw_115 rfl d_q_Checks_findEvaluator_23 ?_
    refine lv_iload_n hx hb d_q_Checks_findEvaluator_26 rfl (lv_at hl 2 rfl) ?_
    refine lv_dup2_11 hx hb d_q_Checks_findEvaluator_27 rfl rfl ?_
    refine n_iald hx hb hK hP 6 0 rfl rfl (by omega) (by decide) d_q_Checks_findEvaluator_28 ?_
    refine lv_aload_n hx hb d_q_Checks_findEvaluator_29 rfl (lv_at hl 0 rfl) ?_
    refine n_get (C := R_Checks) (T := F_Checks) (N := 8) (v := .ref fo) hx hb hts u_Checks_in hown hK hP 0 rfl rfl 0 (by decide) kw_108 rfl d_q_Checks_findEvaluator_30 ?_
    refine lv_aload_n hx hb d_q_Checks_findEvaluator_33 rfl (lv_at hl 0 rfl) ?_
    refine n_get (C := R_Checks) (T := F_Checks) (N := 8) (v := .ref c4) hx hb hts u_Checks_in hown hK hP 0 rfl rfl 4 (by decide) kw_112 rfl d_q_Checks_findEvaluator_34 ?_
    refine lv_iload_n hx hb d_q_Checks_findEvaluator_37 rfl (lv_at hl 3 rfl) ?_
    refine n_iald hx hb hK hP 5 0 rfl rfl (by omega) (by decide) d_q_Checks_findEvaluator_38 ?_
    refine lv_aload_n hx hb d_q_Checks_findEvaluator_39 rfl (lv_at hl 0 rfl) ?_
    refine n_get (C := R_Checks) (T := F_Checks) (N := 8) (v := .ref c3) hx hb hts u_Checks_in hown hK hP 0 rfl rfl 3 (by decide) kw_111 rfl d_q_Checks_findEvaluator_40 ?_
    refine lv_iload_n hx hb d_q_Checks_findEvaluator_43 rfl (lv_at hl 2 rfl) ?_
    refine lv_iload_n hx hb d_q_Checks_findEvaluator_44 rfl (lv_at hl 3 rfl) ?_
    refine n_isub hx hb d_q_Checks_findEvaluator_45 (by omega) ?_
    refine n_iald hx hb hK hP 4 0 rfl rfl (by omega) (by decide) d_q_Checks_findEvaluator_46 ?_
    refine q_readV (n := 2) (As := [.int (nI (lc j)), .int (nI (su (i - j)))]) (rest := [.int (nI ((feJ (feI (flL vl 0 17) lc su i) lc su i j) i)), .int (nI i), .ref c7]) (wc := [(fo, .inr (1, [.ref fp, .ref fl])), (fp, .inl (cI, 255, .inl (fun j => nI (po j)))), (fl, .inl (cI, 256, .inl (fun j => nI (lo j))))]) S (c_q_Field_product l D cI cC fo fp fl po lo (lc j) (su (i - j)) (by omega) (by omega) hF) hK hP (q0 := 1) rfl rfl [1, 2, 3] rfl (q_goodV kw_540 kw_541 kw_542 kw_5 kw_543) (by decide +kernel) rfl rfl rfl ⟨Nat.le_trans (Nat.le_of_ble_eq_true rfl) hRf, Nat.le_trans (Nat.le_of_ble_eq_true rfl) hRl⟩ rfl hl.1 rfl (Nat.le_of_ble_eq_true rfl) d_q_Checks_findEvaluator_47 hRc hS (fun H locs hP hS => ?_)
    refine n_ixor hx hb d_q_Checks_findEvaluator_50 ?_
    refine n_iast hx hb hK hP hD hS 6 0 rfl rfl (by omega) (by decide) d_q_Checks_findEvaluator_51 (fun H locs hP hD hS => ?_)
    have hP : va_P D classes [(co, .inr (0, [.ref fo, .ref c1, .ref c2, .ref c3, .ref c4, .ref c5, .ref c6, .ref c7])), (fo, .inr (1, [.ref fp, .ref fl])), (fp, .inl (cI, 255, .inl (fun j => nI (po j)))), (fl, .inl (cI, 256, .inl (fun j => nI (lo j)))), (c3, .inl (cI, 17, .inl (fun j => nI (su j)))), (c4, .inl (cI, 18, .inl (fun j => nI (lc j)))), (c7, .inl (cI, 17, .inl (fun z9 => nI ((va_up (feJ (feI (flL vl 0 17) lc su i) lc su i j) i (((feJ (feI (flL vl 0 17) lc su i) lc su i j) i) ^^^ (gm (lc j) (su (i - j))))) z9))))] H := hP
    have hD : va_D A [(co, .inr (0, [.ref fo, .ref c1, .ref c2, .ref c3, .ref c4, .ref c5, .ref c6, .ref c7])), (fo, .inr (1, [.ref fp, .ref fl])), (fp, .inl (cI, 255, .inl (fun j => nI (po j)))), (fl, .inl (cI, 256, .inl (fun j => nI (lo j)))), (c3, .inl (cI, 17, .inl (fun j => nI (su j)))), (c4, .inl (cI, 18, .inl (fun j => nI (lc j)))), (c7, .inl (cI, 17, .inl (fun z9 => nI ((va_up (feJ (feI (flL vl 0 17) lc su i) lc su i j) i (((feJ (feI (flL vl 0 17) lc su i) lc su i j) i) ^^^ (gm (lc j) (su (i - j))))) z9))))] := hD
    rw [show va_up (feJ (feI (flL vl 0 17) lc su i) lc su i j) i (((feJ (feI (flL vl 0 17) lc su i) lc su i j) i) ^^^ (gm (lc j) (su (i - j)))) = feJ (feI (flL vl 0 17) lc su i) lc su i (j + 1) from rfl] at hP hD
    refine lv_iinc (k := 3) (v := nI (j + 1)) hx hb d_q_Checks_findEvaluator_52 hl rfl (nx_inc j 1) (Nat.le_of_ble_eq_true rfl) rfl (fun ls hl => ?_)
    have hl : lv_has ls 4 [(3, .int (nI (j + 1))), (0, .ref co), (1, .int (nI x)), (2, .int (nI i))] := hl
    refine lv_goto hx hb d_q_Checks_findEvaluator_55 (tgt := 17) rfl ?_
    exact ih (by omega) ls H locs (lv_sub hl [1, 2, 3, 0] rfl) hP hD hS
set_option maxHeartbeats 1000000 in
set_option maxRecDepth 100000 in
theorem lp_q_Checks_findEvaluator_10 (cI cC : ClassId) (co c1 c2 c3 c4 c5 c6 c7 fo fp fl : Nat) (po lo su lc vl : Nat → Nat) (x : Nat) (hx0 : x ≤ 17) (hlc : lt256 18 lc) (hsu : lt256 17 su) (hF : fldOK po lo) (S : CallFix p m c b_q_Checks_findEvaluator 4 s args (cd_q_Checks_findEvaluator :: WS) R_Checks) (hRf : 1 ≤ R.frames) (hRl : 23 ≤ R.locals) (hRc : cells ≤ R.cells ∧ slots ≤ R.slots) (hK : va_K D classes [(cI, .int), (cC, .char)] s) (hA : ∀ q, H0.size ≤ q → A q) (kx : ∀ (ls : Array Slot) (H : Heap) (locs : List Loc), lv_has ls 4 [(0, .ref co), (1, .int (nI x)), (2, .int (nI x))] → va_P D classes [(co, .inr (0, [.ref fo, .ref c1, .ref c2, .ref c3, .ref c4, .ref c5, .ref c6, .ref c7])), (fo, .inr (1, [.ref fp, .ref fl])), (fp, .inl (cI, 255, .inl (fun j => nI (po j)))), (fl, .inl (cI, 256, .inl (fun j => nI (lo j)))), (c3, .inl (cI, 17, .inl (fun j => nI (su j)))), (c4, .inl (cI, 18, .inl (fun j => nI (lc j)))), (c7, .inl (cI, 17, .inl (fun j => nI ((feI (flL vl 0 17) lc su x) j))))] H → va_D A [(co, .inr (0, [.ref fo, .ref c1, .ref c2, .ref c3, .ref c4, .ref c5, .ref c6, .ref c7])), (fo, .inr (1, [.ref fp, .ref fl])), (fp, .inl (cI, 255, .inl (fun j => nI (po j)))), (fl, .inl (cI, 256, .inl (fun j => nI (lo j)))), (c3, .inl (cI, 17, .inl (fun j => nI (su j)))), (c4, .inl (cI, 18, .inl (fun j => nI (lc j)))), (c7, .inl (cI, 17, .inl (fun j => nI ((feI (flL vl 0 17) lc su x) j))))] → va_S A H0 H locs → W p l e R s m args below meth c H locs cells slots Q (F0 m 64 ls [])) :
    ∀ i, i ≤ x → ∀ (ls : Array Slot) (H : Heap) (locs : List Loc), lv_has ls 4 [(0, .ref co), (1, .int (nI x)), (2, .int (nI i))] → va_P D classes [(co, .inr (0, [.ref fo, .ref c1, .ref c2, .ref c3, .ref c4, .ref c5, .ref c6, .ref c7])), (fo, .inr (1, [.ref fp, .ref fl])), (fp, .inl (cI, 255, .inl (fun j => nI (po j)))), (fl, .inl (cI, 256, .inl (fun j => nI (lo j)))), (c3, .inl (cI, 17, .inl (fun j => nI (su j)))), (c4, .inl (cI, 18, .inl (fun j => nI (lc j)))), (c7, .inl (cI, 17, .inl (fun j => nI ((feI (flL vl 0 17) lc su i) j))))] H → va_D A [(co, .inr (0, [.ref fo, .ref c1, .ref c2, .ref c3, .ref c4, .ref c5, .ref c6, .ref c7])), (fo, .inr (1, [.ref fp, .ref fl])), (fp, .inl (cI, 255, .inl (fun j => nI (po j)))), (fl, .inl (cI, 256, .inl (fun j => nI (lo j)))), (c3, .inl (cI, 17, .inl (fun j => nI (su j)))), (c4, .inl (cI, 18, .inl (fun j => nI (lc j)))), (c7, .inl (cI, 17, .inl (fun j => nI ((feI (flL vl 0 17) lc su i) j))))] → va_S A H0 H locs → W p l e R s m args below meth c H locs cells slots Q (F0 m 10 ls []) := by
  obtain ⟨hx, hb, hml, hown, hts⟩ := id S
  refine up_loop (fun i hki ih => ?_)
  intro ls H locs hl hP hD hS
  refine lv_iload_n hx hb d_q_Checks_findEvaluator_10 rfl (lv_at hl 2 rfl) ?_
  refine lv_iload_n hx hb d_q_Checks_findEvaluator_11 rfl (lv_at hl 1 rfl) ?_
  refine n_icmp_ge hx hb d_q_Checks_findEvaluator_12 (tgt := 64) rfl (by omega) (by omega) (fun g12 => ?_) (fun g12 => ?_)
  · skip
    obtain rfl : i = x := by omega
    exact kx ls H locs (lv_sub hl [0, 1, 2] rfl) hP hD hS
  · skip
    refine lv_iconst (v := nI 0) hx hb d_q_Checks_findEvaluator_15 (by decide) ?_
    refine lv_istore_n hx hb d_q_Checks_findEvaluator_16 rfl hl (Nat.le_of_ble_eq_true rfl) rfl (fun ls hl => ?_)
    have hl : lv_has ls 4 [(3, .int (nI 0)), (0, .ref co), (1, .int (nI x)), (2, .int (nI i))] := hl
    refine lp_q_Checks_findEvaluator_17 cI cC co c1 c2 c3 c4 c5 c6 c7 fo fp fl po lo su lc vl x hx0 hlc hsu hF S hRf hRl hRc hK hA i (by omega) (fun ls H locs hl hP hD hS => ?_) 0 (by omega) ls H locs (lv_sub hl [1, 2, 3, 0] rfl) hP hD hS
    refine lv_iinc (k := 2) (v := nI (i + 1)) hx hb d_q_Checks_findEvaluator_58 hl rfl (nx_inc i 1) (Nat.le_of_ble_eq_true rfl) rfl (fun ls hl => ?_)
    have hl : lv_has ls 4 [(2, .int (nI (i + 1))), (0, .ref co), (1, .int (nI x)), (3, .int (nI (i + 1)))] := hl
    refine lv_goto hx hb d_q_Checks_findEvaluator_61 (tgt := 10) rfl ?_
    exact ih (by omega) ls H locs (lv_sub hl [1, 2, 0] rfl) hP hD hS
set_option maxHeartbeats 1000000 in
set_option maxRecDepth 100000 in
theorem bd_q_Checks_findEvaluator (cI cC : ClassId) (co c1 c2 c3 c4 c5 c6 c7 fo fp fl : Nat) (po lo su lc vl : Nat → Nat) (x : Nat) (hx0 : x ≤ 17) (hlc : lt256 18 lc) (hsu : lt256 17 su) (hF : fldOK po lo) (S : CallFix p m c b_q_Checks_findEvaluator 4 s args (cd_q_Checks_findEvaluator :: WS) R_Checks) (hRf : 1 ≤ R.frames) (hRl : 23 ≤ R.locals) (hRc : cells ≤ R.cells ∧ slots ≤ R.slots) (hK : va_K D classes [(cI, .int), (cC, .char)] s) (hA : ∀ q, H0.size ≤ q → A q) (kr : ∀ (pc : Nat) (ls : Array Slot) (H : Heap) (locs : List Loc), decode b_q_Checks_findEvaluator pc = .ok (.return_, 1) → va_P D classes [(co, .inr (0, [.ref fo, .ref c1, .ref c2, .ref c3, .ref c4, .ref c5, .ref c6, .ref c7])), (fo, .inr (1, [.ref fp, .ref fl])), (fp, .inl (cI, 255, .inl (fun j => nI (po j)))), (fl, .inl (cI, 256, .inl (fun j => nI (lo j)))), (c3, .inl (cI, 17, .inl (fun j => nI (su j)))), (c4, .inl (cI, 18, .inl (fun j => nI (lc j)))), (c7, .inl (cI, 17, .inl (fun j => nI ((feI (flL vl 0 17) lc su x) j))))] H → va_D A [(co, .inr (0, [.ref fo, .ref c1, .ref c2, .ref c3, .ref c4, .ref c5, .ref c6, .ref c7])), (fo, .inr (1, [.ref fp, .ref fl])), (fp, .inl (cI, 255, .inl (fun j => nI (po j)))), (fl, .inl (cI, 256, .inl (fun j => nI (lo j)))), (c3, .inl (cI, 17, .inl (fun j => nI (su j)))), (c4, .inl (cI, 18, .inl (fun j => nI (lc j)))), (c7, .inl (cI, 17, .inl (fun j => nI ((feI (flL vl 0 17) lc su x) j))))] → va_S A H0 H locs → W p l e R s m args below meth c H locs cells slots Q (F0 m pc ls [])) : ∀ (ls : Array Slot) (H : Heap) (locs : List Loc), lv_has ls 4 [(0, .ref co), (1, .int (nI x))] → va_P D classes [(co, .inr (0, [.ref fo, .ref c1, .ref c2, .ref c3, .ref c4, .ref c5, .ref c6, .ref c7])), (fo, .inr (1, [.ref fp, .ref fl])), (fp, .inl (cI, 255, .inl (fun j => nI (po j)))), (fl, .inl (cI, 256, .inl (fun j => nI (lo j)))), (c3, .inl (cI, 17, .inl (fun j => nI (su j)))), (c4, .inl (cI, 18, .inl (fun j => nI (lc j)))), (c7, .inl (cI, 17, .inl (fun j => nI (vl j))))] H → va_D A [(co, .inr (0, [.ref fo, .ref c1, .ref c2, .ref c3, .ref c4, .ref c5, .ref c6, .ref c7])), (fo, .inr (1, [.ref fp, .ref fl])), (fp, .inl (cI, 255, .inl (fun j => nI (po j)))), (fl, .inl (cI, 256, .inl (fun j => nI (lo j)))), (c3, .inl (cI, 17, .inl (fun j => nI (su j)))), (c4, .inl (cI, 18, .inl (fun j => nI (lc j)))), (c7, .inl (cI, 17, .inl (fun j => nI (vl j))))] → va_S A H0 H locs → W p l e R s m args below meth c H locs cells slots Q (F0 m 0 ls []) := by
  obtain ⟨hx, hb, hml, hown, hts⟩ := id S
  intro ls H locs hl hP hD hS
  refine lv_aload_n hx hb d_q_Checks_findEvaluator_0 rfl (lv_at hl 0 rfl) ?_
  refine n_get (C := R_Checks) (T := F_Checks) (N := 8) (v := .ref c7) hx hb hts u_Checks_in hown hK hP 0 rfl rfl 7 (by decide) kw_115 rfl d_q_Checks_findEvaluator_1 ?_
  refine lv_iconst (v := nI 0) hx hb d_q_Checks_findEvaluator_4 (by decide) ?_
  refine q_writeSv (n := 2) (As := [.ref c7, .int (nI 0)]) (rest := []) (wc := [(c7, .inl (cI, 17, .inl (fun j => nI (vl j))))]) (wr := [(co, .inr (0, [.ref fo, .ref c1, .ref c2, .ref c3, .ref c4, .ref c5, .ref c6, .ref c7])), (fo, .inr (1, [.ref fp, .ref fl])), (fp, .inl (cI, 255, .inl (fun j => nI (po j)))), (fl, .inl (cI, 256, .inl (fun j => nI (lo j)))), (c3, .inl (cI, 17, .inl (fun j => nI (su j)))), (c4, .inl (cI, 18, .inl (fun j => nI (lc j))))]) (w1 := [(c7, .inl (cI, 17, .inl (fun j => nI ((flL vl 0 17) j))))]) S (c_j_Arrays_fill l D cI cC c7 17 vl 0 (by decide) H.size) hK hP hD hA [6] [0, 1, 2, 3, 4, 5] rfl rfl rfl rfl (by decide) rfl (q_goodS kw_532 kw_169 kw_9 kw_170) (by decide +kernel) rfl rfl ⟨Nat.le_trans (Nat.le_of_ble_eq_true rfl) hRf, Nat.le_trans (Nat.le_of_ble_eq_true rfl) hRl⟩ rfl hl.1 rfl (Nat.le_of_ble_eq_true rfl) d_q_Checks_findEvaluator_5 hRc hS (fun H locs hP hD hS => ?_)
  replace hP : va_P D classes [(co, .inr (0, [.ref fo, .ref c1, .ref c2, .ref c3, .ref c4, .ref c5, .ref c6, .ref c7])), (fo, .inr (1, [.ref fp, .ref fl])), (fp, .inl (cI, 255, .inl (fun j => nI (po j)))), (fl, .inl (cI, 256, .inl (fun j => nI (lo j)))), (c3, .inl (cI, 17, .inl (fun j => nI (su j)))), (c4, .inl (cI, 18, .inl (fun j => nI (lc j)))), (c7, .inl (cI, 17, .inl (fun j => nI ((flL vl 0 17) j))))] H := hP.sub [0, 1, 2, 3, 4, 5, 6] rfl
  replace hD : va_D A [(co, .inr (0, [.ref fo, .ref c1, .ref c2, .ref c3, .ref c4, .ref c5, .ref c6, .ref c7])), (fo, .inr (1, [.ref fp, .ref fl])), (fp, .inl (cI, 255, .inl (fun j => nI (po j)))), (fl, .inl (cI, 256, .inl (fun j => nI (lo j)))), (c3, .inl (cI, 17, .inl (fun j => nI (su j)))), (c4, .inl (cI, 18, .inl (fun j => nI (lc j)))), (c7, .inl (cI, 17, .inl (fun j => nI ((flL vl 0 17) j))))] := hD.sub [0, 1, 2, 3, 4, 5, 6] rfl rfl
  refine lv_iconst (v := nI 0) hx hb d_q_Checks_findEvaluator_8 (by decide) ?_
  refine lv_istore_n hx hb d_q_Checks_findEvaluator_9 rfl hl (Nat.le_of_ble_eq_true rfl) rfl (fun ls hl => ?_)
  have hl : lv_has ls 4 [(2, .int (nI 0)), (0, .ref co), (1, .int (nI x))] := hl
  refine lp_q_Checks_findEvaluator_10 cI cC co c1 c2 c3 c4 c5 c6 c7 fo fp fl po lo su lc vl x hx0 hlc hsu hF S hRf hRl hRc hK hA  (fun ls H locs hl hP hD hS => ?_) 0 (by omega) ls H locs (lv_sub hl [1, 2, 0] rfl) hP hD hS
  exact kr _ ls H locs d_q_Checks_findEvaluator_64 hP hD hS
set_option maxHeartbeats 1000000 in
set_option maxRecDepth 100000 in
theorem c_q_Checks_findEvaluator (l : Launch) (D : va_G) (cI cC : ClassId) (co c1 c2 c3 c4 c5 c6 c7 fo fp fl : Nat) (po lo su lc vl : Nat → Nat) (x : Nat) (hx0 : x ≤ 17) (hlc : lt256 18 lc) (hsu : lt256 17 su) (hF : fldOK po lo) (sz : Nat) : Met l y_q_Checks_findEvaluator (cd_q_Checks_findEvaluator :: WS) { frames := 1, cells := 0, slots := 0, locals := 23 } (va_Pc [.ref co, .int (nI x)] (wP D [(co, .inr (0, [.ref fo, .ref c1, .ref c2, .ref c3, .ref c4, .ref c5, .ref c6, .ref c7])), (fo, .inr (1, [.ref fp, .ref fl])), (fp, .inl (cI, 255, .inl (fun j => nI (po j)))), (fl, .inl (cI, 256, .inl (fun j => nI (lo j)))), (c3, .inl (cI, 17, .inl (fun j => nI (su j)))), (c4, .inl (cI, 18, .inl (fun j => nI (lc j)))), (c7, .inl (cI, 17, .inl (fun j => nI (vl j))))] [(cI, .int), (cC, .char)] sz)) (wQv D [(co, .inr (0, [.ref fo, .ref c1, .ref c2, .ref c3, .ref c4, .ref c5, .ref c6, .ref c7])), (fo, .inr (1, [.ref fp, .ref fl])), (fp, .inl (cI, 255, .inl (fun j => nI (po j)))), (fl, .inl (cI, 256, .inl (fun j => nI (lo j)))), (c3, .inl (cI, 17, .inl (fun j => nI (su j)))), (c4, .inl (cI, 18, .inl (fun j => nI (lc j)))), (c7, .inl (cI, 17, .inl (fun j => nI (vl j))))] [(co, .inr (0, [.ref fo, .ref c1, .ref c2, .ref c3, .ref c4, .ref c5, .ref c6, .ref c7])), (fo, .inr (1, [.ref fp, .ref fl])), (fp, .inl (cI, 255, .inl (fun j => nI (po j)))), (fl, .inl (cI, 256, .inl (fun j => nI (lo j)))), (c3, .inl (cI, 17, .inl (fun j => nI (su j)))), (c4, .inl (cI, 18, .inl (fun j => nI (lc j)))), (c7, .inl (cI, 17, .inl (fun j => nI ((feI (flL vl 0 17) lc su x) j))))] sz) 0 0 (va_A [(co, .inr (0, [.ref fo, .ref c1, .ref c2, .ref c3, .ref c4, .ref c5, .ref c6, .ref c7])), (fo, .inr (1, [.ref fp, .ref fl])), (fp, .inl (cI, 255, .inl (fun j => nI (po j)))), (fl, .inl (cI, 256, .inl (fun j => nI (lo j)))), (c3, .inl (cI, 17, .inl (fun j => nI (su j)))), (c4, .inl (cI, 18, .inl (fun j => nI (lc j)))), (c7, .inl (cI, 17, .inl (fun j => nI (vl j))))] sz) := by
  refine Met.ofW (cc := b_q_Checks_findEvaluator) (maxL := 4) (ret := none) (by decide) rfl ?_
  intro p e s m args below meth c s₁ B hml hv0
  obtain ⟨rfl, hP, hK, hD0, hsz⟩ := hv0
  have hts := atoms_spec (ws := cd_q_Checks_findEvaluator :: WS) B.pre
  have hown : s.vm.findClass R_Checks = some m.cls := findClass_of_methodNamed B.named
  have hlocks := B.notSynchronized
  subst hsz
  have hD := hD0.self (sz := s.heap.size)
  have hl := lv_entry ([.ref co, .int (nI x)]) (n := 4) (Nat.le_of_ble_eq_true rfl)
  rw [lg_entry_eq]
  generalize (lg_sl ([.ref co, .int (nI x)]) ++ List.replicate (4 - (lg_sl ([.ref co, .int (nI x)])).length) Slot.unset).toArray = ls at hl ⊢
  refine bd_q_Checks_findEvaluator cI cC co c1 c2 c3 c4 c5 c6 c7 fo fp fl po lo su lc vl x hx0 hlc hsu hF ⟨B.exec, B.bytes, hml, hown, hts⟩ (Nat.le_refl _) (Nat.le_refl _) ⟨Nat.le_refl _, Nat.le_refl _⟩ hK (fun q h => Or.inr h) (fun pc ls H locs hd hP hD hS => ?_) ls _ _ hl hP hD (va_S.rf)
  exact W.vret B.exec B.bytes B.returns (fun t ht _ => ⟨⟨(), rfl, trivial, (by have h9 := hP; rw [← ht] at h9; exact h9)⟩, hS.F ht⟩) hS.2.2 hd
end
section
theorem d_q_Checks_valueAt_0 : decode b_q_Checks_valueAt 0 = .ok (.iconst 0, 1) := by decide +kernel
theorem d_q_Checks_valueAt_1 : decode b_q_Checks_valueAt 1 = .ok (.istore_n 3, 1) := by decide +kernel
theorem d_q_Checks_valueAt_2 : decode b_q_Checks_valueAt 2 = .ok (.aload_n 1, 1) := by decide +kernel
theorem d_q_Checks_valueAt_3 : decode b_q_Checks_valueAt 3 = .ok (.arraylength, 1) := by decide +kernel
theorem d_q_Checks_valueAt_4 : decode b_q_Checks_valueAt 4 = .ok (.iconst 1, 1) := by decide +kernel
theorem d_q_Checks_valueAt_5 : decode b_q_Checks_valueAt 5 = .ok (.isub, 1) := by decide +kernel
theorem d_q_Checks_valueAt_6 : decode b_q_Checks_valueAt 6 = .ok (.istore 4, 2) := by decide +kernel
theorem d_q_Checks_valueAt_8 : decode b_q_Checks_valueAt 8 = .ok (.iload 4, 2) := by decide +kernel
theorem d_q_Checks_valueAt_10 : decode b_q_Checks_valueAt 10 = .ok (.ifCond .lt 31, 3) := by decide +kernel
theorem d_q_Checks_valueAt_13 : decode b_q_Checks_valueAt 13 = .ok (.aload_n 0, 1) := by decide +kernel
theorem d_q_Checks_valueAt_14 : decode b_q_Checks_valueAt 14 = .ok (.getfield 12, 3) := by decide +kernel
theorem d_q_Checks_valueAt_17 : decode b_q_Checks_valueAt 17 = .ok (.iload_n 3, 1) := by decide +kernel
theorem d_q_Checks_valueAt_18 : decode b_q_Checks_valueAt 18 = .ok (.aload_n 0, 1) := by decide +kernel
theorem d_q_Checks_valueAt_19 : decode b_q_Checks_valueAt 19 = .ok (.getfield 12, 3) := by decide +kernel
theorem d_q_Checks_valueAt_22 : decode b_q_Checks_valueAt 22 = .ok (.iload_n 2, 1) := by decide +kernel
theorem d_q_Checks_valueAt_23 : decode b_q_Checks_valueAt 23 = .ok (.invokevirtual 60, 3) := by decide +kernel
theorem d_q_Checks_valueAt_26 : decode b_q_Checks_valueAt 26 = .ok (.invokevirtual 56, 3) := by decide +kernel
theorem d_q_Checks_valueAt_29 : decode b_q_Checks_valueAt 29 = .ok (.aload_n 1, 1) := by decide +kernel
theorem d_q_Checks_valueAt_30 : decode b_q_Checks_valueAt 30 = .ok (.iload 4, 2) := by decide +kernel
theorem d_q_Checks_valueAt_32 : decode b_q_Checks_valueAt 32 = .ok (.iaload, 1) := by decide +kernel
theorem d_q_Checks_valueAt_33 : decode b_q_Checks_valueAt 33 = .ok (.ixor, 1) := by decide +kernel
theorem d_q_Checks_valueAt_34 : decode b_q_Checks_valueAt 34 = .ok (.istore_n 3, 1) := by decide +kernel
theorem d_q_Checks_valueAt_35 : decode b_q_Checks_valueAt 35 = .ok (.iinc 4 (-1), 3) := by decide +kernel
theorem d_q_Checks_valueAt_38 : decode b_q_Checks_valueAt 38 = .ok (.goto (-30), 3) := by decide +kernel
theorem d_q_Checks_valueAt_41 : decode b_q_Checks_valueAt 41 = .ok (.iload_n 3, 1) := by decide +kernel
theorem d_q_Checks_valueAt_42 : decode b_q_Checks_valueAt 42 = .ok (.ireturn, 1) := by decide +kernel
end
section
variable {p : Program} {l : Launch} {e : Env} {R : Room} {s : State} {m : MethodId} {args : Array Value} {below : List Frame} {meth : Method} {c : Code} {cells slots : Nat} {Q : State → Prop} {A : Nat → Prop} {H0 : Heap} {D : va_G}
set_option maxHeartbeats 1000000 in
set_option maxRecDepth 100000 in
theorem lp_q_Checks_valueAt_8 (cI cC : ClassId) (co c1 c2 c3 c4 c5 c6 c7 fo fp fl : Nat) (po lo pz : Nat → Nat) (pa pn x : Nat) (hx0 : x < 1000) (hpn : pn ≤ 18) (hpc : lt256 pn pz) (hF : fldOK po lo) (S : CallFix p m c b_q_Checks_valueAt 5 s args (cd_q_Checks_valueAt :: WS) R_Checks) (hRf : 2 ≤ R.frames) (hRl : 43 ≤ R.locals) (hRc : cells ≤ R.cells ∧ slots ≤ R.slots) (hK : va_K D classes [(cI, .int), (cC, .char)] s) (kx : ∀ (ls : Array Slot) (H : Heap) (locs : List Loc), lv_has ls 5 [(0, .ref co), (1, .ref pa), (2, .int (-(nI x))), (3, .int (nI (hvL pz pn (pwm x) pn))), (4, .int (-1))] → va_P D classes [(co, .inr (0, [.ref fo, .ref c1, .ref c2, .ref c3, .ref c4, .ref c5, .ref c6, .ref c7])), (fo, .inr (1, [.ref fp, .ref fl])), (fp, .inl (cI, 255, .inl (fun j => nI (po j)))), (fl, .inl (cI, 256, .inl (fun j => nI (lo j)))), (pa, .inl (cI, pn, .inl (fun j => nI (pz j))))] H → va_S A H0 H locs → W p l e R s m args below meth c H locs cells slots Q (F0 m 41 ls [])) :
    ∀ i, i ≤ pn → ∀ (ls : Array Slot) (H : Heap) (locs : List Loc), lv_has ls 5 [(0, .ref co), (1, .ref pa), (2, .int (-(nI x))), (3, .int (nI (hvL pz pn (pwm x) i))), (4, .int (nI (pn - i) - 1))] → va_P D classes [(co, .inr (0, [.ref fo, .ref c1, .ref c2, .ref c3, .ref c4, .ref c5, .ref c6, .ref c7])), (fo, .inr (1, [.ref fp, .ref fl])), (fp, .inl (cI, 255, .inl (fun j => nI (po j)))), (fl, .inl (cI, 256, .inl (fun j => nI (lo j)))), (pa, .inl (cI, pn, .inl (fun j => nI (pz j))))] H → va_S A H0 H locs → W p l e R s m args below meth c H locs cells slots Q (F0 m 8 ls []) := by
  obtain ⟨hx, hb, hml, hown, hts⟩ := id S
  refine up_loop (fun i hki ih => ?_)
  intro ls H locs hl hP hS
  have hp := pwm_lt x
  have hv := hvL_lt hpc (pwm_lt x) i (by omega)
  rcases Nat.lt_or_ge i pn with hdn | hdn
  · skip
    have hl : lv_has ls 5 [(0, .ref co), (1, .ref pa), (2, .int (-(nI x))), (3, .int (nI (hvL pz pn (pwm x) i))), (4, .int (nI (pn - (i + 1))))] := lv_re hl (by rw [nx_dn hdn])
    refine lv_iload hx hb d_q_Checks_valueAt_8 (lv_at hl 4 rfl) ?_
    refine n_if_lt hx hb d_q_Checks_valueAt_10 (tgt := 41) rfl (by omega) ?_
    refine lv_aload_n hx hb d_q_Checks_valueAt_13 rfl (lv_at hl 0 rfl) ?_
    refine n_get (C := R_Checks) (T := F_Checks) (N := 8) (v := .ref fo) hx hb hts u_Checks_in hown hK hP 0 rfl rfl 0 (by decide) kw_108 rfl d_q_Checks_valueAt_14 ?_
    refine lv_iload_n hx hb d_q_Checks_valueAt_17 rfl (lv_at hl 3 rfl) ?_
    refine lv_aload_n hx hb d_q_Checks_valueAt_18 rfl (lv_at hl 0 rfl) ?_
    refine n_get (C := R_Checks) (T := F_Checks) (N := 8) (v := .ref fo) hx hb hts u_Checks_in hown hK hP 0 rfl rfl 0 (by decide) kw_108 rfl d_q_Checks_valueAt_19 ?_
    refine lv_iload_n hx hb d_q_Checks_valueAt_22 rfl (lv_at hl 2 rfl) ?_
    refine q_readV (n := 1) (As := [.int (-(nI x))]) (rest := [.int (nI (hvL pz pn (pwm x) i)), .ref fo]) (wc := [(fo, .inr (1, [.ref fp, .ref fl])), (fp, .inl (cI, 255, .inl (fun j => nI (po j)))), (fl, .inl (cI, 256, .inl (fun j => nI (lo j))))]) S (c_q_Field_power_neg l D cI cC fo fp fl po lo x (by omega) hF) hK hP (q0 := 1) rfl rfl [1, 2, 3] rfl (q_goodV kw_533 kw_534 kw_535 kw_5 kw_536) (by decide +kernel) rfl rfl rfl ⟨Nat.le_trans (Nat.le_of_ble_eq_true rfl) hRf, Nat.le_trans (Nat.le_of_ble_eq_true rfl) hRl⟩ rfl hl.1 rfl (Nat.le_of_ble_eq_true rfl) d_q_Checks_valueAt_23 hRc hS (fun H locs hP hS => ?_)
    refine q_readV (n := 2) (As := [.int (nI (hvL pz pn (pwm x) i)), .int (nI (pwm x))]) (rest := []) (wc := [(fo, .inr (1, [.ref fp, .ref fl])), (fp, .inl (cI, 255, .inl (fun j => nI (po j)))), (fl, .inl (cI, 256, .inl (fun j => nI (lo j))))]) S (c_q_Field_product l D cI cC fo fp fl po lo (hvL pz pn (pwm x) i) (pwm x) (by omega) (by omega) hF) hK hP (q0 := 1) rfl rfl [1, 2, 3] rfl (q_goodV kw_540 kw_541 kw_542 kw_5 kw_543) (by decide +kernel) rfl rfl rfl ⟨Nat.le_trans (Nat.le_of_ble_eq_true rfl) hRf, Nat.le_trans (Nat.le_of_ble_eq_true rfl) hRl⟩ rfl hl.1 rfl (Nat.le_of_ble_eq_true rfl) d_q_Checks_valueAt_26 hRc hS (fun H locs hP hS => ?_)
    refine lv_aload_n hx hb d_q_Checks_valueAt_29 rfl (lv_at hl 1 rfl) ?_
    refine lv_iload hx hb d_q_Checks_valueAt_30 (lv_at hl 4 rfl) ?_
    refine n_iald hx hb hK hP 4 0 rfl rfl (by omega) (by omega) d_q_Checks_valueAt_32 ?_
    refine n_ixor hx hb d_q_Checks_valueAt_33 ?_
    refine n_topn (show (gm (hvL pz pn (pwm x) i) (pwm x)) ^^^ (pz (pn - (i + 1))) = hvL pz pn (pwm x) (i + 1) from rfl) ?_
    refine lv_istore_n hx hb d_q_Checks_valueAt_34 rfl hl (Nat.le_of_ble_eq_true rfl) rfl (fun ls hl => ?_)
    have hl : lv_has ls 5 [(3, .int (nI (hvL pz pn (pwm x) (i + 1)))), (0, .ref co), (1, .ref pa), (2, .int (-(nI x))), (4, .int (nI (pn - (i + 1))))] := hl
    refine lv_iinc (k := 4) (v := nI (pn - (i + 1)) - 1) hx hb d_q_Checks_valueAt_35 hl rfl (nx_dec (pn - (i + 1))) (Nat.le_of_ble_eq_true rfl) rfl (fun ls hl => ?_)
    have hl : lv_has ls 5 [(4, .int (nI (pn - (i + 1)) - 1)), (3, .int (nI (hvL pz pn (pwm x) (i + 1)))), (0, .ref co), (1, .ref pa), (2, .int (-(nI x)))] := hl
    refine lv_goto hx hb d_q_Checks_valueAt_38 (tgt := 8) rfl ?_
    exact ih (by omega) ls H locs (lv_sub hl [2, 3, 4, 1, 0] rfl) hP hS
  · skip
    have e9 : i = pn := by omega
    have hl : lv_has ls 5 [(0, .ref co), (1, .ref pa), (2, .int (-(nI x))), (3, .int (nI (hvL pz pn (pwm x) pn))), (4, .int (-1))] := lv_re hl (by rw [e9, nx_dn0])
    refine lv_iload hx hb d_q_Checks_valueAt_8 (lv_at hl 4 rfl) ?_
    refine n_dn_lt hx hb d_q_Checks_valueAt_10 (tgt := 41) rfl ?_
    exact kx ls H locs (lv_sub hl [0, 1, 2, 3, 4] rfl) hP hS
set_option maxHeartbeats 1000000 in
set_option maxRecDepth 100000 in
theorem bd_q_Checks_valueAt (cI cC : ClassId) (co c1 c2 c3 c4 c5 c6 c7 fo fp fl : Nat) (po lo pz : Nat → Nat) (pa pn x : Nat) (hx0 : x < 1000) (hpn : pn ≤ 18) (hpc : lt256 pn pz) (hF : fldOK po lo) (S : CallFix p m c b_q_Checks_valueAt 5 s args (cd_q_Checks_valueAt :: WS) R_Checks) (hRf : 2 ≤ R.frames) (hRl : 43 ≤ R.locals) (hRc : cells ≤ R.cells ∧ slots ≤ R.slots) (hK : va_K D classes [(cI, .int), (cC, .char)] s) (kr : ∀ (pc : Nat) (ls : Array Slot) (H : Heap) (locs : List Loc), decode b_q_Checks_valueAt pc = .ok (.ireturn, 1) → va_P D classes [(co, .inr (0, [.ref fo, .ref c1, .ref c2, .ref c3, .ref c4, .ref c5, .ref c6, .ref c7])), (fo, .inr (1, [.ref fp, .ref fl])), (fp, .inl (cI, 255, .inl (fun j => nI (po j)))), (fl, .inl (cI, 256, .inl (fun j => nI (lo j)))), (pa, .inl (cI, pn, .inl (fun j => nI (pz j))))] H → va_S A H0 H locs → W p l e R s m args below meth c H locs cells slots Q (F0 m pc ls [.int (nI (hvL pz pn (pwm x) pn))])) : ∀ (ls : Array Slot) (H : Heap) (locs : List Loc), lv_has ls 5 [(0, .ref co), (1, .ref pa), (2, .int (-(nI x)))] → va_P D classes [(co, .inr (0, [.ref fo, .ref c1, .ref c2, .ref c3, .ref c4, .ref c5, .ref c6, .ref c7])), (fo, .inr (1, [.ref fp, .ref fl])), (fp, .inl (cI, 255, .inl (fun j => nI (po j)))), (fl, .inl (cI, 256, .inl (fun j => nI (lo j)))), (pa, .inl (cI, pn, .inl (fun j => nI (pz j))))] H → va_S A H0 H locs → W p l e R s m args below meth c H locs cells slots Q (F0 m 0 ls []) := by
  obtain ⟨hx, hb, hml, hown, hts⟩ := id S
  intro ls H locs hl hP hS
  refine lv_iconst (v := nI 0) hx hb d_q_Checks_valueAt_0 (by decide) ?_
  refine lv_istore_n hx hb d_q_Checks_valueAt_1 rfl hl (Nat.le_of_ble_eq_true rfl) rfl (fun ls hl => ?_)
  have hl : lv_has ls 5 [(3, .int (nI 0)), (0, .ref co), (1, .ref pa), (2, .int (-(nI x)))] := hl
  refine lv_aload_n hx hb d_q_Checks_valueAt_2 rfl (lv_at hl 2 rfl) ?_
  refine va_alen (v := nI pn) hx hb hK hP 4 0 rfl rfl rfl d_q_Checks_valueAt_3 ?_
  refine lv_iconst (v := nI 1) hx hb d_q_Checks_valueAt_4 (by decide) ?_
  refine lv_isub hx hb d_q_Checks_valueAt_5 ?_
  refine n_top (show nI pn - nI 1 = nI (pn - 0) - 1 from nx_sub1 _) ?_
  refine lv_istore hx hb d_q_Checks_valueAt_6 hl (Nat.le_of_ble_eq_true rfl) rfl (fun ls hl => ?_)
  have hl : lv_has ls 5 [(4, .int (nI (pn - 0) - 1)), (3, .int (nI 0)), (0, .ref co), (1, .ref pa), (2, .int (-(nI x)))] := hl
  refine lp_q_Checks_valueAt_8 cI cC co c1 c2 c3 c4 c5 c6 c7 fo fp fl po lo pz pa pn x hx0 hpn hpc hF S hRf hRl hRc hK  (fun ls H locs hl hP hS => ?_) 0 (by omega) ls H locs (lv_sub hl [2, 3, 4, 1, 0] rfl) hP hS
  refine lv_iload_n hx hb d_q_Checks_valueAt_41 rfl (lv_at hl 3 rfl) ?_
  exact kr _ ls H locs d_q_Checks_valueAt_42 hP hS
set_option maxHeartbeats 1000000 in
set_option maxRecDepth 100000 in
theorem c_q_Checks_valueAt (l : Launch) (D : va_G) (cI cC : ClassId) (co c1 c2 c3 c4 c5 c6 c7 fo fp fl : Nat) (po lo pz : Nat → Nat) (pa pn x : Nat) (hx0 : x < 1000) (hpn : pn ≤ 18) (hpc : lt256 pn pz) (hF : fldOK po lo) : Met l y_q_Checks_valueAt (cd_q_Checks_valueAt :: WS) { frames := 2, cells := 0, slots := 0, locals := 43 } (va_Pc [.ref co, .ref pa, .int (-(nI x))] (rP D [(co, .inr (0, [.ref fo, .ref c1, .ref c2, .ref c3, .ref c4, .ref c5, .ref c6, .ref c7])), (fo, .inr (1, [.ref fp, .ref fl])), (fp, .inl (cI, 255, .inl (fun j => nI (po j)))), (fl, .inl (cI, 256, .inl (fun j => nI (lo j)))), (pa, .inl (cI, pn, .inl (fun j => nI (pz j))))] [(cI, .int), (cC, .char)])) (pQ (nI (hvL pz pn (pwm x) pn))) 0 0 noA := by
  refine Met.ofW (cc := b_q_Checks_valueAt) (maxL := 5) (ret := (some .int)) (by decide) rfl ?_
  intro p e s m args below meth c s₁ B hml hv0
  obtain ⟨rfl, hP, hK⟩ := hv0
  have hts := atoms_spec (ws := cd_q_Checks_valueAt :: WS) B.pre
  have hown : s.vm.findClass R_Checks = some m.cls := findClass_of_methodNamed B.named
  have hlocks := B.notSynchronized
  have hl := lv_entry ([.ref co, .ref pa, .int (-(nI x))]) (n := 5) (Nat.le_of_ble_eq_true rfl)
  rw [lg_entry_eq]
  generalize (lg_sl ([.ref co, .ref pa, .int (-(nI x))]) ++ List.replicate (5 - (lg_sl ([.ref co, .ref pa, .int (-(nI x))])).length) Slot.unset).toArray = ls at hl ⊢
  refine bd_q_Checks_valueAt cI cC co c1 c2 c3 c4 c5 c6 c7 fo fp fl po lo pz pa pn x hx0 hpn hpc hF ⟨B.exec, B.bytes, hml, hown, hts⟩ (Nat.le_refl _) (Nat.le_refl _) ⟨Nat.le_refl _, Nat.le_refl _⟩ hK (fun pc ls H locs hd hP hS => ?_) ls _ _ hl hP (va_S.rf (A := noA))
  exact W.iret B.exec B.bytes B.returns (fun t ht _ => ⟨⟨_, (), rfl, rfl, trivial⟩, hS.F ht⟩) hS.2.2 hd
end
section
theorem d_q_Checks_changeAt_0 : decode b_q_Checks_changeAt 0 = .ok (.iconst 0, 1) := by decide +kernel
theorem d_q_Checks_changeAt_1 : decode b_q_Checks_changeAt 1 = .ok (.istore_n 2, 1) := by decide +kernel
theorem d_q_Checks_changeAt_2 : decode b_q_Checks_changeAt 2 = .ok (.iconst 1, 1) := by decide +kernel
theorem d_q_Checks_changeAt_3 : decode b_q_Checks_changeAt 3 = .ok (.istore_n 3, 1) := by decide +kernel
theorem d_q_Checks_changeAt_4 : decode b_q_Checks_changeAt 4 = .ok (.iload_n 3, 1) := by decide +kernel
theorem d_q_Checks_changeAt_5 : decode b_q_Checks_changeAt 5 = .ok (.bipush 18, 2) := by decide +kernel
theorem d_q_Checks_changeAt_7 : decode b_q_Checks_changeAt 7 = .ok (.if_icmp .ge 38, 3) := by decide +kernel
theorem d_q_Checks_changeAt_10 : decode b_q_Checks_changeAt 10 = .ok (.iload_n 2, 1) := by decide +kernel
theorem d_q_Checks_changeAt_11 : decode b_q_Checks_changeAt 11 = .ok (.aload_n 0, 1) := by decide +kernel
theorem d_q_Checks_changeAt_12 : decode b_q_Checks_changeAt 12 = .ok (.getfield 12, 3) := by decide +kernel
theorem d_q_Checks_changeAt_15 : decode b_q_Checks_changeAt 15 = .ok (.aload_n 0, 1) := by decide +kernel
theorem d_q_Checks_changeAt_16 : decode b_q_Checks_changeAt 16 = .ok (.getfield 28, 3) := by decide +kernel
theorem d_q_Checks_changeAt_19 : decode b_q_Checks_changeAt 19 = .ok (.iload_n 3, 1) := by decide +kernel
theorem d_q_Checks_changeAt_20 : decode b_q_Checks_changeAt 20 = .ok (.iaload, 1) := by decide +kernel
theorem d_q_Checks_changeAt_21 : decode b_q_Checks_changeAt 21 = .ok (.aload_n 0, 1) := by decide +kernel
theorem d_q_Checks_changeAt_22 : decode b_q_Checks_changeAt 22 = .ok (.getfield 12, 3) := by decide +kernel
theorem d_q_Checks_changeAt_25 : decode b_q_Checks_changeAt 25 = .ok (.iload_n 1, 1) := by decide +kernel
theorem d_q_Checks_changeAt_26 : decode b_q_Checks_changeAt 26 = .ok (.ineg, 1) := by decide +kernel
theorem d_q_Checks_changeAt_27 : decode b_q_Checks_changeAt 27 = .ok (.iload_n 3, 1) := by decide +kernel
theorem d_q_Checks_changeAt_28 : decode b_q_Checks_changeAt 28 = .ok (.iconst 1, 1) := by decide +kernel
theorem d_q_Checks_changeAt_29 : decode b_q_Checks_changeAt 29 = .ok (.isub, 1) := by decide +kernel
theorem d_q_Checks_changeAt_30 : decode b_q_Checks_changeAt 30 = .ok (.imul, 1) := by decide +kernel
theorem d_q_Checks_changeAt_31 : decode b_q_Checks_changeAt 31 = .ok (.invokevirtual 60, 3) := by decide +kernel
theorem d_q_Checks_changeAt_34 : decode b_q_Checks_changeAt 34 = .ok (.invokevirtual 56, 3) := by decide +kernel
theorem d_q_Checks_changeAt_37 : decode b_q_Checks_changeAt 37 = .ok (.ixor, 1) := by decide +kernel
theorem d_q_Checks_changeAt_38 : decode b_q_Checks_changeAt 38 = .ok (.istore_n 2, 1) := by decide +kernel
theorem d_q_Checks_changeAt_39 : decode b_q_Checks_changeAt 39 = .ok (.iinc 3 2, 3) := by decide +kernel
theorem d_q_Checks_changeAt_42 : decode b_q_Checks_changeAt 42 = .ok (.goto (-38), 3) := by decide +kernel
theorem d_q_Checks_changeAt_45 : decode b_q_Checks_changeAt 45 = .ok (.aload_n 0, 1) := by decide +kernel
theorem d_q_Checks_changeAt_46 : decode b_q_Checks_changeAt 46 = .ok (.getfield 12, 3) := by decide +kernel
theorem d_q_Checks_changeAt_49 : decode b_q_Checks_changeAt 49 = .ok (.aload_n 0, 1) := by decide +kernel
theorem d_q_Checks_changeAt_50 : decode b_q_Checks_changeAt 50 = .ok (.aload_n 0, 1) := by decide +kernel
theorem d_q_Checks_changeAt_51 : decode b_q_Checks_changeAt 51 = .ok (.getfield 37, 3) := by decide +kernel
theorem d_q_Checks_changeAt_54 : decode b_q_Checks_changeAt 54 = .ok (.iload_n 1, 1) := by decide +kernel
theorem d_q_Checks_changeAt_55 : decode b_q_Checks_changeAt 55 = .ok (.ineg, 1) := by decide +kernel
theorem d_q_Checks_changeAt_56 : decode b_q_Checks_changeAt 56 = .ok (.invokevirtual 88, 3) := by decide +kernel
theorem d_q_Checks_changeAt_59 : decode b_q_Checks_changeAt 59 = .ok (.iload_n 2, 1) := by decide +kernel
theorem d_q_Checks_changeAt_60 : decode b_q_Checks_changeAt 60 = .ok (.invokevirtual 81, 3) := by decide +kernel
theorem d_q_Checks_changeAt_63 : decode b_q_Checks_changeAt 63 = .ok (.istore_n 3, 1) := by decide +kernel
theorem d_q_Checks_changeAt_64 : decode b_q_Checks_changeAt 64 = .ok (.aload_n 0, 1) := by decide +kernel
theorem d_q_Checks_changeAt_65 : decode b_q_Checks_changeAt 65 = .ok (.getfield 12, 3) := by decide +kernel
theorem d_q_Checks_changeAt_68 : decode b_q_Checks_changeAt 68 = .ok (.iload_n 3, 1) := by decide +kernel
theorem d_q_Checks_changeAt_69 : decode b_q_Checks_changeAt 69 = .ok (.aload_n 0, 1) := by decide +kernel
theorem d_q_Checks_changeAt_70 : decode b_q_Checks_changeAt 70 = .ok (.getfield 12, 3) := by decide +kernel
theorem d_q_Checks_changeAt_73 : decode b_q_Checks_changeAt 73 = .ok (.iload_n 1, 1) := by decide +kernel
theorem d_q_Checks_changeAt_74 : decode b_q_Checks_changeAt 74 = .ok (.invokevirtual 60, 3) := by decide +kernel
theorem d_q_Checks_changeAt_77 : decode b_q_Checks_changeAt 77 = .ok (.invokevirtual 56, 3) := by decide +kernel
theorem d_q_Checks_changeAt_80 : decode b_q_Checks_changeAt 80 = .ok (.ireturn, 1) := by decide +kernel
end
section
variable {p : Program} {l : Launch} {e : Env} {R : Room} {s : State} {m : MethodId} {args : Array Value} {below : List Frame} {meth : Method} {c : Code} {cells slots : Nat} {Q : State → Prop} {A : Nat → Prop} {H0 : Heap} {D : va_G}
set_option maxHeartbeats 1000000 in
set_option maxRecDepth 100000 in
theorem lp_q_Checks_changeAt_4 (cI cC : ClassId) (co c1 c2 c3 c4 c5 c6 c7 fo fp fl : Nat) (po lo lc vl : Nat → Nat) (x : Nat) (hx0 : x ≤ 25) (hlc : lt256 18 lc) (hvl : lt256 17 vl) (hF : fldOK po lo) (S : CallFix p m c b_q_Checks_changeAt 4 s args (cd_q_Checks_changeAt :: WS) R_Checks) (hRf : 3 ≤ R.frames) (hRl : 67 ≤ R.locals) (hRc : cells ≤ R.cells ∧ slots ≤ R.slots) (hK : va_K D classes [(cI, .int), (cC, .char)] s) (kx : ∀ (ls : Array Slot) (H : Heap) (locs : List Loc), lv_has ls 4 [(0, .ref co), (1, .int (nI x)), (2, .int (nI (spL lc x 9))), (3, .int (nI (2 * 9 + 1)))] → va_P D classes [(co, .inr (0, [.ref fo, .ref c1, .ref c2, .ref c3, .ref c4, .ref c5, .ref c6, .ref c7])), (fo, .inr (1, [.ref fp, .ref fl])), (fp, .inl (cI, 255, .inl (fun j => nI (po j)))), (fl, .inl (cI, 256, .inl (fun j => nI (lo j)))), (c4, .inl (cI, 18, .inl (fun j => nI (lc j)))), (c7, .inl (cI, 17, .inl (fun j => nI (vl j))))] H → va_S A H0 H locs → W p l e R s m args below meth c H locs cells slots Q (F0 m 45 ls [])) :
    ∀ k, k ≤ 9 → ∀ (ls : Array Slot) (H : Heap) (locs : List Loc), lv_has ls 4 [(0, .ref co), (1, .int (nI x)), (2, .int (nI (spL lc x k))), (3, .int (nI (2 * k + 1)))] → va_P D classes [(co, .inr (0, [.ref fo, .ref c1, .ref c2, .ref c3, .ref c4, .ref c5, .ref c6, .ref c7])), (fo, .inr (1, [.ref fp, .ref fl])), (fp, .inl (cI, 255, .inl (fun j => nI (po j)))), (fl, .inl (cI, 256, .inl (fun j => nI (lo j)))), (c4, .inl (cI, 18, .inl (fun j => nI (lc j)))), (c7, .inl (cI, 17, .inl (fun j => nI (vl j))))] H → va_S A H0 H locs → W p l e R s m args below meth c H locs cells slots Q (F0 m 4 ls []) := by
  obtain ⟨hx, hb, hml, hown, hts⟩ := id S
  refine up_loop (fun k hkk ih => ?_)
  intro ls H locs hl hP hS
  refine lv_iload_n hx hb d_q_Checks_changeAt_4 rfl (lv_at hl 3 rfl) ?_
  refine lv_bipush (v := nI 18) hx hb d_q_Checks_changeAt_5 (by decide) ?_
  refine n_icmp_ge hx hb d_q_Checks_changeAt_7 (tgt := 45) rfl (by omega) (by omega) (fun g7 => ?_) (fun g7 => ?_)
  · skip
    obtain rfl : k = 9 := by omega
    exact kx ls H locs (lv_sub hl [0, 1, 2, 3] rfl) hP hS
  · skip
    have h1 := hlc (2 * k + 1) (by omega)
    have hxk : x * (2 * k) ≤ 25 * 16 := Nat.mul_le_mul hx0 (by omega)
    have hp := pwm_lt (x * (2 * k))
    refine lv_iload_n hx hb d_q_Checks_changeAt_10 rfl (lv_at hl 2 rfl) ?_
    refine lv_aload_n hx hb d_q_Checks_changeAt_11 rfl (lv_at hl 0 rfl) ?_
    refine n_get (C := R_Checks) (T := F_Checks) (N := 8) (v := .ref fo) hx hb hts u_Checks_in hown hK hP 0 rfl rfl 0 (by decide) kw_108 rfl d_q_Checks_changeAt_12 ?_
    refine lv_aload_n hx hb d_q_Checks_changeAt_15 rfl (lv_at hl 0 rfl) ?_
    refine n_get (C := R_Checks) (T := F_Checks) (N := 8) (v := .ref c4) hx hb hts u_Checks_in hown hK hP 0 rfl rfl 4 (by decide) kw_112 rfl d_q_Checks_changeAt_16 ?_
    refine lv_iload_n hx hb d_q_Checks_changeAt_19 rfl (lv_at hl 3 rfl) ?_
    refine n_iald hx hb hK hP 4 0 rfl rfl (by omega) (by decide) d_q_Checks_changeAt_20 ?_
    refine lv_aload_n hx hb d_q_Checks_changeAt_21 rfl (lv_at hl 0 rfl) ?_
    refine n_get (C := R_Checks) (T := F_Checks) (N := 8) (v := .ref fo) hx hb hts u_Checks_in hown hK hP 0 rfl rfl 0 (by decide) kw_108 rfl d_q_Checks_changeAt_22 ?_
    refine lv_iload_n hx hb d_q_Checks_changeAt_25 rfl (lv_at hl 1 rfl) ?_
    refine lv_ineg hx hb d_q_Checks_changeAt_26 ?_
    refine lv_iload_n hx hb d_q_Checks_changeAt_27 rfl (lv_at hl 3 rfl) ?_
    refine lv_iconst (v := nI 1) hx hb d_q_Checks_changeAt_28 (by decide) ?_
    refine n_isub hx hb d_q_Checks_changeAt_29 (by omega) ?_
    refine n_topn (show (2 * k + 1) - 1 = 2 * k from (by omega)) ?_
    refine lv_imul hx hb d_q_Checks_changeAt_30 ?_
    refine n_top (show -(nI x) * nI (2 * k) = -(nI (x * (2 * k))) from nx_nmul _ _) ?_
    refine q_readV (n := 1) (As := [.int (-(nI (x * (2 * k))))]) (rest := [.int (nI (lc (2 * k + 1))), .ref fo, .int (nI (spL lc x k))]) (wc := [(fo, .inr (1, [.ref fp, .ref fl])), (fp, .inl (cI, 255, .inl (fun j => nI (po j)))), (fl, .inl (cI, 256, .inl (fun j => nI (lo j))))]) S (c_q_Field_power_neg l D cI cC fo fp fl po lo (x * (2 * k)) (by omega) hF) hK hP (q0 := 1) rfl rfl [1, 2, 3] rfl (q_goodV kw_533 kw_534 kw_535 kw_5 kw_536) (by decide +kernel) rfl rfl rfl ⟨Nat.le_trans (Nat.le_of_ble_eq_true rfl) hRf, Nat.le_trans (Nat.le_of_ble_eq_true rfl) hRl⟩ rfl hl.1 rfl (Nat.le_of_ble_eq_true rfl) d_q_Checks_changeAt_31 hRc hS (fun H locs hP hS => ?_)
    refine q_readV (n := 2) (As := [.int (nI (lc (2 * k + 1))), .int (nI (pwm (x * (2 * k))))]) (rest := [.int (nI (spL lc x k))]) (wc := [(fo, .inr (1, [.ref fp, .ref fl])), (fp, .inl (cI, 255, .inl (fun j => nI (po j)))), (fl, .inl (cI, 256, .inl (fun j => nI (lo j))))]) S (c_q_Field_product l D cI cC fo fp fl po lo (lc (2 * k + 1)) (pwm (x * (2 * k))) (by omega) (by omega) hF) hK hP (q0 := 1) rfl rfl [1, 2, 3] rfl (q_goodV kw_540 kw_541 kw_542 kw_5 kw_543) (by decide +kernel) rfl rfl rfl ⟨Nat.le_trans (Nat.le_of_ble_eq_true rfl) hRf, Nat.le_trans (Nat.le_of_ble_eq_true rfl) hRl⟩ rfl hl.1 rfl (Nat.le_of_ble_eq_true rfl) d_q_Checks_changeAt_34 hRc hS (fun H locs hP hS => ?_)
    refine n_ixor hx hb d_q_Checks_changeAt_37 ?_
    refine n_topn (show (spL lc x k) ^^^ (gm (lc (2 * k + 1)) (pwm (x * (2 * k)))) = spL lc x (k + 1) from rfl) ?_
    refine lv_istore_n hx hb d_q_Checks_changeAt_38 rfl hl (Nat.le_of_ble_eq_true rfl) rfl (fun ls hl => ?_)
    have hl : lv_has ls 4 [(2, .int (nI (spL lc x (k + 1)))), (0, .ref co), (1, .int (nI x)), (3, .int (nI (2 * k + 1)))] := hl
    refine lv_iinc (k := 3) (v := nI (2 * (k + 1) + 1)) hx hb d_q_Checks_changeAt_39 hl rfl ((nx_inc (2 * k + 1) 2).trans (congrArg nI (by omega))) (Nat.le_of_ble_eq_true rfl) rfl (fun ls hl => ?_)
    have hl : lv_has ls 4 [(3, .int (nI (2 * (k + 1) + 1))), (2, .int (nI (spL lc x (k + 1)))), (0, .ref co), (1, .int (nI x))] := hl
    refine lv_goto hx hb d_q_Checks_changeAt_42 (tgt := 4) rfl ?_
    exact ih (by omega) ls H locs (lv_sub hl [2, 3, 1, 0] rfl) hP hS
set_option maxHeartbeats 1000000 in
set_option maxRecDepth 100000 in
theorem bd_q_Checks_changeAt (cI cC : ClassId) (co c1 c2 c3 c4 c5 c6 c7 fo fp fl : Nat) (po lo lc vl : Nat → Nat) (x : Nat) (hx0 : x ≤ 25) (hlc : lt256 18 lc) (hvl : lt256 17 vl) (hF : fldOK po lo) (S : CallFix p m c b_q_Checks_changeAt 4 s args (cd_q_Checks_changeAt :: WS) R_Checks) (hRf : 3 ≤ R.frames) (hRl : 67 ≤ R.locals) (hRc : cells ≤ R.cells ∧ slots ≤ R.slots) (hK : va_K D classes [(cI, .int), (cC, .char)] s) (kr : ∀ (pc : Nat) (ls : Array Slot) (H : Heap) (locs : List Loc), decode b_q_Checks_changeAt pc = .ok (.ireturn, 1) → va_P D classes [(co, .inr (0, [.ref fo, .ref c1, .ref c2, .ref c3, .ref c4, .ref c5, .ref c6, .ref c7])), (fo, .inr (1, [.ref fp, .ref fl])), (fp, .inl (cI, 255, .inl (fun j => nI (po j)))), (fl, .inl (cI, 256, .inl (fun j => nI (lo j)))), (c4, .inl (cI, 18, .inl (fun j => nI (lc j)))), (c7, .inl (cI, 17, .inl (fun j => nI (vl j))))] H → va_S A H0 H locs → W p l e R s m args below meth c H locs cells slots Q (F0 m pc ls [.int (nI (caN lc vl x))])) : ∀ (ls : Array Slot) (H : Heap) (locs : List Loc), lv_has ls 4 [(0, .ref co), (1, .int (nI x))] → va_P D classes [(co, .inr (0, [.ref fo, .ref c1, .ref c2, .ref c3, .ref c4, .ref c5, .ref c6, .ref c7])), (fo, .inr (1, [.ref fp, .ref fl])), (fp, .inl (cI, 255, .inl (fun j => nI (po j)))), (fl, .inl (cI, 256, .inl (fun j => nI (lo j)))), (c4, .inl (cI, 18, .inl (fun j => nI (lc j)))), (c7, .inl (cI, 17, .inl (fun j => nI (vl j))))] H → va_S A H0 H locs → W p l e R s m args below meth c H locs cells slots Q (F0 m 0 ls []) := by
  obtain ⟨hx, hb, hml, hown, hts⟩ := id S
  intro ls H locs hl hP hS
  refine lv_iconst (v := nI 0) hx hb d_q_Checks_changeAt_0 (by decide) ?_
  refine lv_istore_n hx hb d_q_Checks_changeAt_1 rfl hl (Nat.le_of_ble_eq_true rfl) rfl (fun ls hl => ?_)
  have hl : lv_has ls 4 [(2, .int (nI 0)), (0, .ref co), (1, .int (nI x))] := hl
  refine lv_iconst (v := nI 1) hx hb d_q_Checks_changeAt_2 (by decide) ?_
  refine lv_istore_n hx hb d_q_Checks_changeAt_3 rfl hl (Nat.le_of_ble_eq_true rfl) rfl (fun ls hl => ?_)
  have hl : lv_has ls 4 [(3, .int (nI 1)), (2, .int (nI 0)), (0, .ref co), (1, .int (nI x))] := hl
  refine lp_q_Checks_changeAt_4 cI cC co c1 c2 c3 c4 c5 c6 c7 fo fp fl po lo lc vl x hx0 hlc hvl hF S hRf hRl hRc hK  (fun ls H locs hl hP hS => ?_) 0 (by omega) ls H locs (lv_sub hl [2, 3, 1, 0] rfl) hP hS
  have hsp := spL_lt hlc x 9 (by omega)
  have hp := pw_lt x
  have hvv := hvL_lt hvl (pwm_lt x) 17 (Or.inl (by decide))
  have hqt := qtN_lt (hvL vl 17 (pwm x) 17) (spL lc x 9) hvv hsp
  refine lv_aload_n hx hb d_q_Checks_changeAt_45 rfl (lv_at hl 0 rfl) ?_
  refine n_get (C := R_Checks) (T := F_Checks) (N := 8) (v := .ref fo) hx hb hts u_Checks_in hown hK hP 0 rfl rfl 0 (by decide) kw_108 rfl d_q_Checks_changeAt_46 ?_
  refine lv_aload_n hx hb d_q_Checks_changeAt_49 rfl (lv_at hl 0 rfl) ?_
  refine lv_aload_n hx hb d_q_Checks_changeAt_50 rfl (lv_at hl 0 rfl) ?_
  refine n_get (C := R_Checks) (T := F_Checks) (N := 8) (v := .ref c7) hx hb hts u_Checks_in hown hK hP 0 rfl rfl 7 (by decide) kw_115 rfl d_q_Checks_changeAt_51 ?_
  refine lv_iload_n hx hb d_q_Checks_changeAt_54 rfl (lv_at hl 1 rfl) ?_
  refine lv_ineg hx hb d_q_Checks_changeAt_55 ?_
  refine q_readV (n := 2) (As := [.ref c7, .int (-(nI x))]) (rest := [.ref fo]) (wc := [(co, .inr (0, [.ref fo, .ref c1, .ref c2, .ref c3, .ref c4, .ref c5, .ref c6, .ref c7])), (fo, .inr (1, [.ref fp, .ref fl])), (fp, .inl (cI, 255, .inl (fun j => nI (po j)))), (fl, .inl (cI, 256, .inl (fun j => nI (lo j)))), (c7, .inl (cI, 17, .inl (fun j => nI (vl j))))]) S (c_q_Checks_valueAt l D cI cC co c1 c2 c3 c4 c5 c6 c7 fo fp fl po lo vl c7 17 x (by omega) (by omega) hvl hF) hK hP (q0 := 0) rfl rfl [0, 1, 2, 3, 5] rfl (q_goodV kw_663 kw_665 ks_15 kw_4 kw_666) (by decide +kernel) rfl rfl rfl ⟨Nat.le_trans (Nat.le_of_ble_eq_true rfl) hRf, Nat.le_trans (Nat.le_of_ble_eq_true rfl) hRl⟩ rfl hl.1 rfl (Nat.le_of_ble_eq_true rfl) d_q_Checks_changeAt_56 hRc hS (fun H locs hP hS => ?_)
  refine lv_iload_n hx hb d_q_Checks_changeAt_59 rfl (lv_at hl 2 rfl) ?_
  refine q_readV (n := 2) (As := [.int (nI (hvL vl 17 (pwm x) 17)), .int (nI (spL lc x 9))]) (rest := []) (wc := [(fo, .inr (1, [.ref fp, .ref fl])), (fp, .inl (cI, 255, .inl (fun j => nI (po j)))), (fl, .inl (cI, 256, .inl (fun j => nI (lo j))))]) S (c_q_Field_quotient l D cI cC fo fp fl po lo (hvL vl 17 (pwm x) 17) (spL lc x 9) (by omega) (by omega) hF) hK hP (q0 := 1) rfl rfl [1, 2, 3] rfl (q_goodV kw_647 kw_648 kw_649 kw_5 kw_650) (by decide +kernel) rfl rfl rfl ⟨Nat.le_trans (Nat.le_of_ble_eq_true rfl) hRf, Nat.le_trans (Nat.le_of_ble_eq_true rfl) hRl⟩ rfl hl.1 rfl (Nat.le_of_ble_eq_true rfl) d_q_Checks_changeAt_60 hRc hS (fun H locs hP hS => ?_)
  refine lv_istore_n hx hb d_q_Checks_changeAt_63 rfl hl (Nat.le_of_ble_eq_true rfl) rfl (fun ls hl => ?_)
  have hl : lv_has ls 4 [(3, .int (nI (qtN (hvL vl 17 (pwm x) 17) (spL lc x 9)))), (0, .ref co), (1, .int (nI x)), (2, .int (nI (spL lc x 9)))] := hl
  refine lv_aload_n hx hb d_q_Checks_changeAt_64 rfl (lv_at hl 1 rfl) ?_
  refine n_get (C := R_Checks) (T := F_Checks) (N := 8) (v := .ref fo) hx hb hts u_Checks_in hown hK hP 0 rfl rfl 0 (by decide) kw_108 rfl d_q_Checks_changeAt_65 ?_
  refine lv_iload_n hx hb d_q_Checks_changeAt_68 rfl (lv_at hl 0 rfl) ?_
  refine lv_aload_n hx hb d_q_Checks_changeAt_69 rfl (lv_at hl 1 rfl) ?_
  refine n_get (C := R_Checks) (T := F_Checks) (N := 8) (v := .ref fo) hx hb hts u_Checks_in hown hK hP 0 rfl rfl 0 (by decide) kw_108 rfl d_q_Checks_changeAt_70 ?_
  refine lv_iload_n hx hb d_q_Checks_changeAt_73 rfl (lv_at hl 2 rfl) ?_
  refine q_readV (n := 1) (As := [.int (nI x)]) (rest := [.int (nI (qtN (hvL vl 17 (pwm x) 17) (spL lc x 9))), .ref fo]) (wc := [(fo, .inr (1, [.ref fp, .ref fl])), (fp, .inl (cI, 255, .inl (fun j => nI (po j)))), (fl, .inl (cI, 256, .inl (fun j => nI (lo j))))]) S (c_q_Field_power_pos l D cI cC fo fp fl po lo x (by omega) hF) hK hP (q0 := 1) rfl rfl [1, 2, 3] rfl (q_goodV kw_533 kw_534 kw_535 kw_5 kw_536) (by decide +kernel) rfl rfl rfl ⟨Nat.le_trans (Nat.le_of_ble_eq_true rfl) hRf, Nat.le_trans (Nat.le_of_ble_eq_true rfl) hRl⟩ rfl hl.1 rfl (Nat.le_of_ble_eq_true rfl) d_q_Checks_changeAt_74 hRc hS (fun H locs hP hS => ?_)
  refine q_readV (n := 2) (As := [.int (nI (qtN (hvL vl 17 (pwm x) 17) (spL lc x 9))), .int (nI (pw x))]) (rest := []) (wc := [(fo, .inr (1, [.ref fp, .ref fl])), (fp, .inl (cI, 255, .inl (fun j => nI (po j)))), (fl, .inl (cI, 256, .inl (fun j => nI (lo j))))]) S (c_q_Field_product l D cI cC fo fp fl po lo (qtN (hvL vl 17 (pwm x) 17) (spL lc x 9)) (pw x) (by omega) (by omega) hF) hK hP (q0 := 1) rfl rfl [1, 2, 3] rfl (q_goodV kw_540 kw_541 kw_542 kw_5 kw_543) (by decide +kernel) rfl rfl rfl ⟨Nat.le_trans (Nat.le_of_ble_eq_true rfl) hRf, Nat.le_trans (Nat.le_of_ble_eq_true rfl) hRl⟩ rfl hl.1 rfl (Nat.le_of_ble_eq_true rfl) d_q_Checks_changeAt_77 hRc hS (fun H locs hP hS => ?_)
  refine n_topn (show gm (qtN (hvL vl 17 (pwm x) 17) (spL lc x 9)) (pw x) = caN lc vl x from rfl) ?_
  exact kr _ ls H locs d_q_Checks_changeAt_80 hP hS
set_option maxHeartbeats 1000000 in
set_option maxRecDepth 100000 in
theorem c_q_Checks_changeAt (l : Launch) (D : va_G) (cI cC : ClassId) (co c1 c2 c3 c4 c5 c6 c7 fo fp fl : Nat) (po lo lc vl : Nat → Nat) (x : Nat) (hx0 : x ≤ 25) (hlc : lt256 18 lc) (hvl : lt256 17 vl) (hF : fldOK po lo) : Met l y_q_Checks_changeAt (cd_q_Checks_changeAt :: WS) { frames := 3, cells := 0, slots := 0, locals := 67 } (va_Pc [.ref co, .int (nI x)] (rP D [(co, .inr (0, [.ref fo, .ref c1, .ref c2, .ref c3, .ref c4, .ref c5, .ref c6, .ref c7])), (fo, .inr (1, [.ref fp, .ref fl])), (fp, .inl (cI, 255, .inl (fun j => nI (po j)))), (fl, .inl (cI, 256, .inl (fun j => nI (lo j)))), (c4, .inl (cI, 18, .inl (fun j => nI (lc j)))), (c7, .inl (cI, 17, .inl (fun j => nI (vl j))))] [(cI, .int), (cC, .char)])) (pQ (nI (caN lc vl x))) 0 0 noA := by
  refine Met.ofW (cc := b_q_Checks_changeAt) (maxL := 4) (ret := (some .int)) (by decide) rfl ?_
  intro p e s m args below meth c s₁ B hml hv0
  obtain ⟨rfl, hP, hK⟩ := hv0
  have hts := atoms_spec (ws := cd_q_Checks_changeAt :: WS) B.pre
  have hown : s.vm.findClass R_Checks = some m.cls := findClass_of_methodNamed B.named
  have hlocks := B.notSynchronized
  have hl := lv_entry ([.ref co, .int (nI x)]) (n := 4) (Nat.le_of_ble_eq_true rfl)
  rw [lg_entry_eq]
  generalize (lg_sl ([.ref co, .int (nI x)]) ++ List.replicate (4 - (lg_sl ([.ref co, .int (nI x)])).length) Slot.unset).toArray = ls at hl ⊢
  refine bd_q_Checks_changeAt cI cC co c1 c2 c3 c4 c5 c6 c7 fo fp fl po lo lc vl x hx0 hlc hvl hF ⟨B.exec, B.bytes, hml, hown, hts⟩ (Nat.le_refl _) (Nat.le_refl _) ⟨Nat.le_refl _, Nat.le_refl _⟩ hK (fun pc ls H locs hd hP hS => ?_) ls _ _ hl hP (va_S.rf (A := noA))
  exact W.iret B.exec B.bytes B.returns (fun t ht _ => ⟨⟨_, (), rfl, rfl, trivial⟩, hS.F ht⟩) hS.2.2 hd
end
section
theorem d_q_Checks_changeWrongBytes_0 : decode b_q_Checks_changeWrongBytes 0 = .ok (.iconst 0, 1) := by decide +kernel
theorem d_q_Checks_changeWrongBytes_1 : decode b_q_Checks_changeWrongBytes 1 = .ok (.istore_n 2, 1) := by decide +kernel
theorem d_q_Checks_changeWrongBytes_2 : decode b_q_Checks_changeWrongBytes 2 = .ok (.iconst 0, 1) := by decide +kernel
theorem d_q_Checks_changeWrongBytes_3 : decode b_q_Checks_changeWrongBytes 3 = .ok (.istore_n 3, 1) := by decide +kernel
theorem d_q_Checks_changeWrongBytes_4 : decode b_q_Checks_changeWrongBytes 4 = .ok (.iload_n 3, 1) := by decide +kernel
theorem d_q_Checks_changeWrongBytes_5 : decode b_q_Checks_changeWrongBytes 5 = .ok (.bipush 26, 2) := by decide +kernel
theorem d_q_Checks_changeWrongBytes_7 : decode b_q_Checks_changeWrongBytes 7 = .ok (.if_icmp .ge 62, 3) := by decide +kernel
theorem d_q_Checks_changeWrongBytes_10 : decode b_q_Checks_changeWrongBytes 10 = .ok (.bipush 25, 2) := by decide +kernel
theorem d_q_Checks_changeWrongBytes_12 : decode b_q_Checks_changeWrongBytes 12 = .ok (.iload_n 3, 1) := by decide +kernel
theorem d_q_Checks_changeWrongBytes_13 : decode b_q_Checks_changeWrongBytes 13 = .ok (.isub, 1) := by decide +kernel
theorem d_q_Checks_changeWrongBytes_14 : decode b_q_Checks_changeWrongBytes 14 = .ok (.istore 4, 2) := by decide +kernel
theorem d_q_Checks_changeWrongBytes_16 : decode b_q_Checks_changeWrongBytes 16 = .ok (.aload_n 0, 1) := by decide +kernel
theorem d_q_Checks_changeWrongBytes_17 : decode b_q_Checks_changeWrongBytes 17 = .ok (.aload_n 0, 1) := by decide +kernel
theorem d_q_Checks_changeWrongBytes_18 : decode b_q_Checks_changeWrongBytes 18 = .ok (.getfield 28, 3) := by decide +kernel
theorem d_q_Checks_changeWrongBytes_21 : decode b_q_Checks_changeWrongBytes 21 = .ok (.iload 4, 2) := by decide +kernel
theorem d_q_Checks_changeWrongBytes_23 : decode b_q_Checks_changeWrongBytes 23 = .ok (.ineg, 1) := by decide +kernel
theorem d_q_Checks_changeWrongBytes_24 : decode b_q_Checks_changeWrongBytes 24 = .ok (.invokevirtual 88, 3) := by decide +kernel
theorem d_q_Checks_changeWrongBytes_27 : decode b_q_Checks_changeWrongBytes 27 = .ok (.ifCond .ne 12, 3) := by decide +kernel
theorem d_q_Checks_changeWrongBytes_30 : decode b_q_Checks_changeWrongBytes 30 = .ok (.aload_n 0, 1) := by decide +kernel
theorem d_q_Checks_changeWrongBytes_31 : decode b_q_Checks_changeWrongBytes 31 = .ok (.iload 4, 2) := by decide +kernel
theorem d_q_Checks_changeWrongBytes_33 : decode b_q_Checks_changeWrongBytes 33 = .ok (.invokevirtual 92, 3) := by decide +kernel
theorem d_q_Checks_changeWrongBytes_36 : decode b_q_Checks_changeWrongBytes 36 = .ok (.goto 4, 3) := by decide +kernel
theorem d_q_Checks_changeWrongBytes_39 : decode b_q_Checks_changeWrongBytes 39 = .ok (.iconst 0, 1) := by decide +kernel
theorem d_q_Checks_changeWrongBytes_40 : decode b_q_Checks_changeWrongBytes 40 = .ok (.istore 5, 2) := by decide +kernel
theorem d_q_Checks_changeWrongBytes_42 : decode b_q_Checks_changeWrongBytes 42 = .ok (.aload_n 1, 1) := by decide +kernel
theorem d_q_Checks_changeWrongBytes_43 : decode b_q_Checks_changeWrongBytes 43 = .ok (.iload_n 3, 1) := by decide +kernel
theorem d_q_Checks_changeWrongBytes_44 : decode b_q_Checks_changeWrongBytes 44 = .ok (.dup2, 1) := by decide +kernel
theorem d_q_Checks_changeWrongBytes_45 : decode b_q_Checks_changeWrongBytes 45 = .ok (.iaload, 1) := by decide +kernel
theorem d_q_Checks_changeWrongBytes_46 : decode b_q_Checks_changeWrongBytes 46 = .ok (.iload 5, 2) := by decide +kernel
theorem d_q_Checks_changeWrongBytes_48 : decode b_q_Checks_changeWrongBytes 48 = .ok (.ixor, 1) := by decide +kernel
theorem d_q_Checks_changeWrongBytes_49 : decode b_q_Checks_changeWrongBytes 49 = .ok (.iastore, 1) := by decide +kernel
theorem d_q_Checks_changeWrongBytes_50 : decode b_q_Checks_changeWrongBytes 50 = .ok (.iload_n 2, 1) := by decide +kernel
theorem d_q_Checks_changeWrongBytes_51 : decode b_q_Checks_changeWrongBytes 51 = .ok (.iload 5, 2) := by decide +kernel
theorem d_q_Checks_changeWrongBytes_53 : decode b_q_Checks_changeWrongBytes 53 = .ok (.ifCond .ne 7, 3) := by decide +kernel
theorem d_q_Checks_changeWrongBytes_56 : decode b_q_Checks_changeWrongBytes 56 = .ok (.iconst 0, 1) := by decide +kernel
theorem d_q_Checks_changeWrongBytes_57 : decode b_q_Checks_changeWrongBytes 57 = .ok (.goto 4, 3) := by decide +kernel
theorem d_q_Checks_changeWrongBytes_60 : decode b_q_Checks_changeWrongBytes 60 = .ok (.iconst 1, 1) := by decide +kernel
theorem d_q_Checks_changeWrongBytes_61 : decode b_q_Checks_changeWrongBytes 61 = .ok (.iadd, 1) := by decide +kernel
theorem d_q_Checks_changeWrongBytes_62 : decode b_q_Checks_changeWrongBytes 62 = .ok (.istore_n 2, 1) := by decide +kernel
theorem d_q_Checks_changeWrongBytes_63 : decode b_q_Checks_changeWrongBytes 63 = .ok (.iinc 3 1, 3) := by decide +kernel
theorem d_q_Checks_changeWrongBytes_66 : decode b_q_Checks_changeWrongBytes 66 = .ok (.goto (-62), 3) := by decide +kernel
theorem d_q_Checks_changeWrongBytes_69 : decode b_q_Checks_changeWrongBytes 69 = .ok (.iload_n 2, 1) := by decide +kernel
theorem d_q_Checks_changeWrongBytes_70 : decode b_q_Checks_changeWrongBytes 70 = .ok (.ireturn, 1) := by decide +kernel
end
section
variable {p : Program} {l : Launch} {e : Env} {R : Room} {s : State} {m : MethodId} {args : Array Value} {below : List Frame} {meth : Method} {c : Code} {cells slots : Nat} {Q : State → Prop} {A : Nat → Prop} {H0 : Heap} {D : va_G}
set_option maxHeartbeats 1000000 in
set_option maxRecDepth 100000 in
theorem lp_q_Checks_changeWrongBytes_4 (cI cC : ClassId) (co c1 c2 c3 c4 c5 c6 c7 fo fp fl : Nat) (po lo lc vl bt : Nat → Nat) (ba : Nat) (hlc : lt256 18 lc) (hvl : lt256 17 vl) (hF : fldOK po lo) (S : CallFix p m c b_q_Checks_changeWrongBytes 6 s args (cd_q_Checks_changeWrongBytes :: WS) R_Checks) (hRf : 4 ≤ R.frames) (hRl : 90 ≤ R.locals) (hRc : cells ≤ R.cells ∧ slots ≤ R.slots) (hK : va_K D classes [(cI, .int), (cC, .char)] s) (hA : ∀ q, H0.size ≤ q → A q) (kx : ∀ (ls : Array Slot) (H : Heap) (locs : List Loc), lv_has ls 6 [(0, .ref co), (1, .ref ba), (2, .int (nI (cwC lc vl 26))), (3, .int (nI 26))] → va_P D classes [(co, .inr (0, [.ref fo, .ref c1, .ref c2, .ref c3, .ref c4, .ref c5, .ref c6, .ref c7])), (fo, .inr (1, [.ref fp, .ref fl])), (fp, .inl (cI, 255, .inl (fun j => nI (po j)))), (fl, .inl (cI, 256, .inl (fun j => nI (lo j)))), (c4, .inl (cI, 18, .inl (fun j => nI (lc j)))), (c7, .inl (cI, 17, .inl (fun j => nI (vl j)))), (ba, .inl (cI, 26, .inl (fun j => nI ((cwB bt lc vl 26) j))))] H → va_D A [(co, .inr (0, [.ref fo, .ref c1, .ref c2, .ref c3, .ref c4, .ref c5, .ref c6, .ref c7])), (fo, .inr (1, [.ref fp, .ref fl])), (fp, .inl (cI, 255, .inl (fun j => nI (po j)))), (fl, .inl (cI, 256, .inl (fun j => nI (lo j)))), (c4, .inl (cI, 18, .inl (fun j => nI (lc j)))), (c7, .inl (cI, 17, .inl (fun j => nI (vl j)))), (ba, .inl (cI, 26, .inl (fun j => nI ((cwB bt lc vl 26) j))))] → va_S A H0 H locs → W p l e R s m args below meth c H locs cells slots Q (F0 m 69 ls [])) :
    ∀ k, k ≤ 26 → ∀ (ls : Array Slot) (H : Heap) (locs : List Loc), lv_has ls 6 [(0, .ref co), (1, .ref ba), (2, .int (nI (cwC lc vl k))), (3, .int (nI k))] → va_P D classes [(co, .inr (0, [.ref fo, .ref c1, .ref c2, .ref c3, .ref c4, .ref c5, .ref c6, .ref c7])), (fo, .inr (1, [.ref fp, .ref fl])), (fp, .inl (cI, 255, .inl (fun j => nI (po j)))), (fl, .inl (cI, 256, .inl (fun j => nI (lo j)))), (c4, .inl (cI, 18, .inl (fun j => nI (lc j)))), (c7, .inl (cI, 17, .inl (fun j => nI (vl j)))), (ba, .inl (cI, 26, .inl (fun j => nI ((cwB bt lc vl k) j))))] H → va_D A [(co, .inr (0, [.ref fo, .ref c1, .ref c2, .ref c3, .ref c4, .ref c5, .ref c6, .ref c7])), (fo, .inr (1, [.ref fp, .ref fl])), (fp, .inl (cI, 255, .inl (fun j => nI (po j)))), (fl, .inl (cI, 256, .inl (fun j => nI (lo j)))), (c4, .inl (cI, 18, .inl (fun j => nI (lc j)))), (c7, .inl (cI, 17, .inl (fun j => nI (vl j)))), (ba, .inl (cI, 26, .inl (fun j => nI ((cwB bt lc vl k) j))))] → va_S A H0 H locs → W p l e R s m args below meth c H locs cells slots Q (F0 m 4 ls []) := by
  obtain ⟨hx, hb, hml, hown, hts⟩ := id S
  refine up_loop (fun k hkk ih => ?_)
  intro ls H locs hl hP hD hS
  refine lv_iload_n hx hb d_q_Checks_changeWrongBytes_4 rfl (lv_at hl 3 rfl) ?_
  refine lv_bipush (v := nI 26) hx hb d_q_Checks_changeWrongBytes_5 (by decide) ?_
  refine n_icmp_ge hx hb d_q_Checks_changeWrongBytes_7 (tgt := 69) rfl (by omega) (by omega) (fun g7 => ?_) (fun g7 => ?_)
  · skip
    obtain rfl : k = 26 := by omega
    exact kx ls H locs (lv_sub hl [0, 1, 2, 3] rfl) hP hD hS
  · skip
    have hvv := hvL_lt hlc (pwm_lt (25 - k)) 18 (Or.inl (by decide))
    have hcl := chg_lt hlc hvl (25 - k)
    refine lv_bipush (v := nI 25) hx hb d_q_Checks_changeWrongBytes_10 (by decide) ?_
    refine lv_iload_n hx hb d_q_Checks_changeWrongBytes_12 rfl (lv_at hl 3 rfl) ?_
    refine n_isub hx hb d_q_Checks_changeWrongBytes_13 (by omega) ?_
    refine lv_istore hx hb d_q_Checks_changeWrongBytes_14 hl (Nat.le_of_ble_eq_true rfl) rfl (fun ls hl => ?_)
    have hl : lv_has ls 6 [(4, .int (nI (25 - k))), (0, .ref co), (1, .ref ba), (2, .int (nI (cwC lc vl k))), (3, .int (nI k))] := hl
    refine lv_aload_n hx hb d_q_Checks_changeWrongBytes_16 rfl (lv_at hl 1 rfl) ?_
    refine lv_aload_n hx hb d_q_Checks_changeWrongBytes_17 rfl (lv_at hl 1 rfl) ?_
    refine n_get (C := R_Checks) (T := F_Checks) (N := 8) (v := .ref c4) hx hb hts u_Checks_in hown hK hP 0 rfl rfl 4 (by decide) kw_112 rfl d_q_Checks_changeWrongBytes_18 ?_
    refine lv_iload hx hb d_q_Checks_changeWrongBytes_21 (lv_at hl 0 rfl) ?_
    refine lv_ineg hx hb d_q_Checks_changeWrongBytes_23 ?_
    refine q_readV (n := 2) (As := [.ref c4, .int (-(nI (25 - k)))]) (rest := []) (wc := [(co, .inr (0, [.ref fo, .ref c1, .ref c2, .ref c3, .ref c4, .ref c5, .ref c6, .ref c7])), (fo, .inr (1, [.ref fp, .ref fl])), (fp, .inl (cI, 255, .inl (fun j => nI (po j)))), (fl, .inl (cI, 256, .inl (fun j => nI (lo j)))), (c4, .inl (cI, 18, .inl (fun j => nI (lc j))))]) S (c_q_Checks_valueAt l D cI cC co c1 c2 c3 c4 c5 c6 c7 fo fp fl po lo lc c4 18 (25 - k) (by omega) (by omega) hlc hF) hK hP (q0 := 0) rfl rfl [0, 1, 2, 3, 4] rfl (q_goodV kw_663 kw_665 ks_15 kw_4 kw_666) (by decide +kernel) rfl rfl rfl ⟨Nat.le_trans (Nat.le_of_ble_eq_true rfl) hRf, Nat.le_trans (Nat.le_of_ble_eq_true rfl) hRl⟩ rfl hl.1 rfl (Nat.le_of_ble_eq_true rfl) d_q_Checks_changeWrongBytes_24 hRc hS (fun H locs hP hS => ?_)
    refine n_if_ne hx hb d_q_Checks_changeWrongBytes_27 (tgt := 39) rfl (by omega) (fun g27 => ?_) (fun g27 => ?_)
    · skip
      refine lv_iconst (v := nI 0) hx hb d_q_Checks_changeWrongBytes_39 (by decide) ?_
      refine n_topn (show 0 = chg lc vl (25 - k) from (by first | exact (chg_t g27).symm | exact (chg_f g27).symm)) ?_
      refine lv_istore hx hb d_q_Checks_changeWrongBytes_40 hl (Nat.le_of_ble_eq_true rfl) rfl (fun ls hl => ?_)
      have hl : lv_has ls 6 [(5, .int (nI (chg lc vl (25 - k)))), (4, .int (nI (25 - k))), (0, .ref co), (1, .ref ba), (2, .int (nI (cwC lc vl k))), (3, .int (nI k))] := hl
      refine lv_aload_n hx hb d_q_Checks_changeWrongBytes_42 rfl (lv_at hl 3 rfl) ?_
      refine lv_iload_n hx hb d_q_Checks_changeWrongBytes_43 rfl (lv_at hl 5 rfl) ?_
      refine lv_dup2_11 hx hb d_q_Checks_changeWrongBytes_44 rfl rfl ?_
      refine n_iald hx hb hK hP 6 0 rfl rfl (by omega) (by decide) d_q_Checks_changeWrongBytes_45 ?_
      refine lv_iload hx hb d_q_Checks_changeWrongBytes_46 (lv_at hl 0 rfl) ?_
      refine n_ixor hx hb d_q_Checks_changeWrongBytes_48 ?_
      refine n_iast hx hb hK hP hD hS 6 0 rfl rfl (by omega) (by decide) d_q_Checks_changeWrongBytes_49 (fun H locs hP hD hS => ?_)
      have hP : va_P D classes [(co, .inr (0, [.ref fo, .ref c1, .ref c2, .ref c3, .ref c4, .ref c5, .ref c6, .ref c7])), (fo, .inr (1, [.ref fp, .ref fl])), (fp, .inl (cI, 255, .inl (fun j => nI (po j)))), (fl, .inl (cI, 256, .inl (fun j => nI (lo j)))), (c4, .inl (cI, 18, .inl (fun j => nI (lc j)))), (c7, .inl (cI, 17, .inl (fun j => nI (vl j)))), (ba, .inl (cI, 26, .inl (fun j => nI ((va_up (cwB bt lc vl k) k (((cwB bt lc vl k) k) ^^^ (chg lc vl (25 - k)))) j))))] H := hP
      have hD : va_D A [(co, .inr (0, [.ref fo, .ref c1, .ref c2, .ref c3, .ref c4, .ref c5, .ref c6, .ref c7])), (fo, .inr (1, [.ref fp, .ref fl])), (fp, .inl (cI, 255, .inl (fun j => nI (po j)))), (fl, .inl (cI, 256, .inl (fun j => nI (lo j)))), (c4, .inl (cI, 18, .inl (fun j => nI (lc j)))), (c7, .inl (cI, 17, .inl (fun j => nI (vl j)))), (ba, .inl (cI, 26, .inl (fun j => nI ((va_up (cwB bt lc vl k) k (((cwB bt lc vl k) k) ^^^ (chg lc vl (25 - k)))) j))))] := hD
      rw [show va_up (cwB bt lc vl k) k (((cwB bt lc vl k) k) ^^^ (chg lc vl (25 - k))) = cwB bt lc vl (k + 1) from rfl] at hP hD
      refine lv_iload_n hx hb d_q_Checks_changeWrongBytes_50 rfl (lv_at hl 4 rfl) ?_
      refine lv_iload hx hb d_q_Checks_changeWrongBytes_51 (lv_at hl 0 rfl) ?_
      refine n_if_ne hx hb d_q_Checks_changeWrongBytes_53 (tgt := 60) rfl (by omega) (fun g53 => ?_) (fun g53 => ?_)
      · skip
        refine lv_iconst (v := nI 1) hx hb d_q_Checks_changeWrongBytes_60 (by decide) ?_
        refine n_iadd hx hb d_q_Checks_changeWrongBytes_61 ?_
        refine n_topn (show (cwC lc vl k) + 1 = cwC lc vl (k + 1) from (by first | exact (cwC_t g53).symm | exact (cwC_f g53).symm)) ?_
        refine lv_istore_n hx hb d_q_Checks_changeWrongBytes_62 rfl hl (Nat.le_of_ble_eq_true rfl) rfl (fun ls hl => ?_)
        have hl : lv_has ls 6 [(2, .int (nI (cwC lc vl (k + 1)))), (5, .int (nI (chg lc vl (25 - k)))), (4, .int (nI (25 - k))), (0, .ref co), (1, .ref ba), (3, .int (nI k))] := hl
        refine lv_iinc (k := 5) (v := nI (k + 1)) hx hb d_q_Checks_changeWrongBytes_63 hl rfl (nx_inc k 1) (Nat.le_of_ble_eq_true rfl) rfl (fun ls hl => ?_)
        have hl : lv_has ls 6 [(3, .int (nI (k + 1))), (2, .int (nI (cwC lc vl (k + 1)))), (5, .int (nI (chg lc vl (25 - k)))), (4, .int (nI (25 - k))), (0, .ref co), (1, .ref ba)] := hl
        refine lv_goto hx hb d_q_Checks_changeWrongBytes_66 (tgt := 4) rfl ?_
        exact ih (by omega) ls H locs (lv_sub hl [4, 5, 1, 0] rfl) hP hD hS
      · skip
        refine lv_iconst (v := nI 0) hx hb d_q_Checks_changeWrongBytes_56 (by decide) ?_
        refine lv_goto hx hb d_q_Checks_changeWrongBytes_57 (tgt := 61) rfl ?_
        refine n_iadd hx hb d_q_Checks_changeWrongBytes_61 ?_
        refine n_topn (show (cwC lc vl k) + 0 = cwC lc vl (k + 1) from (by first | exact (cwC_t g53).symm | exact (cwC_f g53).symm)) ?_
        refine lv_istore_n hx hb d_q_Checks_changeWrongBytes_62 rfl hl (Nat.le_of_ble_eq_true rfl) rfl (fun ls hl => ?_)
        have hl : lv_has ls 6 [(2, .int (nI (cwC lc vl (k + 1)))), (5, .int (nI (chg lc vl (25 - k)))), (4, .int (nI (25 - k))), (0, .ref co), (1, .ref ba), (3, .int (nI k))] := hl
        refine lv_iinc (k := 5) (v := nI (k + 1)) hx hb d_q_Checks_changeWrongBytes_63 hl rfl (nx_inc k 1) (Nat.le_of_ble_eq_true rfl) rfl (fun ls hl => ?_)
        have hl : lv_has ls 6 [(3, .int (nI (k + 1))), (2, .int (nI (cwC lc vl (k + 1)))), (5, .int (nI (chg lc vl (25 - k)))), (4, .int (nI (25 - k))), (0, .ref co), (1, .ref ba)] := hl
        refine lv_goto hx hb d_q_Checks_changeWrongBytes_66 (tgt := 4) rfl ?_
        exact ih (by omega) ls H locs (lv_sub hl [4, 5, 1, 0] rfl) hP hD hS
    · skip
      refine lv_aload_n hx hb d_q_Checks_changeWrongBytes_30 rfl (lv_at hl 1 rfl) ?_
      refine lv_iload hx hb d_q_Checks_changeWrongBytes_31 (lv_at hl 0 rfl) ?_
      refine q_readV (n := 1) (As := [.int (nI (25 - k))]) (rest := []) (wc := [(co, .inr (0, [.ref fo, .ref c1, .ref c2, .ref c3, .ref c4, .ref c5, .ref c6, .ref c7])), (fo, .inr (1, [.ref fp, .ref fl])), (fp, .inl (cI, 255, .inl (fun j => nI (po j)))), (fl, .inl (cI, 256, .inl (fun j => nI (lo j)))), (c4, .inl (cI, 18, .inl (fun j => nI (lc j)))), (c7, .inl (cI, 17, .inl (fun j => nI (vl j))))]) S (c_q_Checks_changeAt l D cI cC co c1 c2 c3 c4 c5 c6 c7 fo fp fl po lo lc vl (25 - k) (by omega) hlc hvl hF) hK hP (q0 := 0) rfl rfl [0, 1, 2, 3, 4, 5] rfl (q_goodV kw_667 kw_669 ks_16 kw_4 kw_670) (by decide +kernel) rfl rfl rfl ⟨Nat.le_trans (Nat.le_of_ble_eq_true rfl) hRf, Nat.le_trans (Nat.le_of_ble_eq_true rfl) hRl⟩ rfl hl.1 rfl (Nat.le_of_ble_eq_true rfl) d_q_Checks_changeWrongBytes_33 hRc hS (fun H locs hP hS => ?_)
      refine lv_goto hx hb d_q_Checks_changeWrongBytes_36 (tgt := 40) rfl ?_
      refine n_topn (show caN lc vl (25 - k) = chg lc vl (25 - k) from (by first | exact (chg_t g27).symm | exact (chg_f g27).symm)) ?_
      refine lv_istore hx hb d_q_Checks_changeWrongBytes_40 hl (Nat.le_of_ble_eq_true rfl) rfl (fun ls hl => ?_)
      have hl : lv_has ls 6 [(5, .int (nI (chg lc vl (25 - k)))), (4, .int (nI (25 - k))), (0, .ref co), (1, .ref ba), (2, .int (nI (cwC lc vl k))), (3, .int (nI k))] := hl
      refine lv_aload_n hx hb d_q_Checks_changeWrongBytes_42 rfl (lv_at hl 3 rfl) ?_
      refine lv_iload_n hx hb d_q_Checks_changeWrongBytes_43 rfl (lv_at hl 5 rfl) ?_
      refine lv_dup2_11 hx hb d_q_Checks_changeWrongBytes_44 rfl rfl ?_
      refine n_iald hx hb hK hP 6 0 rfl rfl (by omega) (by decide) d_q_Checks_changeWrongBytes_45 ?_
      refine lv_iload hx hb d_q_Checks_changeWrongBytes_46 (lv_at hl 0 rfl) ?_
      refine n_ixor hx hb d_q_Checks_changeWrongBytes_48 ?_
      refine n_iast hx hb hK hP hD hS 6 0 rfl rfl (by omega) (by decide) d_q_Checks_changeWrongBytes_49 (fun H locs hP hD hS => ?_)
      have hP : va_P D classes [(co, .inr (0, [.ref fo, .ref c1, .ref c2, .ref c3, .ref c4, .ref c5, .ref c6, .ref c7])), (fo, .inr (1, [.ref fp, .ref fl])), (fp, .inl (cI, 255, .inl (fun j => nI (po j)))), (fl, .inl (cI, 256, .inl (fun j => nI (lo j)))), (c4, .inl (cI, 18, .inl (fun j => nI (lc j)))), (c7, .inl (cI, 17, .inl (fun j => nI (vl j)))), (ba, .inl (cI, 26, .inl (fun j => nI ((va_up (cwB bt lc vl k) k (((cwB bt lc vl k) k) ^^^ (chg lc vl (25 - k)))) j))))] H := hP
      have hD : va_D A [(co, .inr (0, [.ref fo, .ref c1, .ref c2, .ref c3, .ref c4, .ref c5, .ref c6, .ref c7])), (fo, .inr (1, [.ref fp, .ref fl])), (fp, .inl (cI, 255, .inl (fun j => nI (po j)))), (fl, .inl (cI, 256, .inl (fun j => nI (lo j)))), (c4, .inl (cI, 18, .inl (fun j => nI (lc j)))), (c7, .inl (cI, 17, .inl (fun j => nI (vl j)))), (ba, .inl (cI, 26, .inl (fun j => nI ((va_up (cwB bt lc vl k) k (((cwB bt lc vl k) k) ^^^ (chg lc vl (25 - k)))) j))))] := hD
      rw [show va_up (cwB bt lc vl k) k (((cwB bt lc vl k) k) ^^^ (chg lc vl (25 - k))) = cwB bt lc vl (k + 1) from rfl] at hP hD
      refine lv_iload_n hx hb d_q_Checks_changeWrongBytes_50 rfl (lv_at hl 4 rfl) ?_
      refine lv_iload hx hb d_q_Checks_changeWrongBytes_51 (lv_at hl 0 rfl) ?_
      refine n_if_ne hx hb d_q_Checks_changeWrongBytes_53 (tgt := 60) rfl (by omega) (fun g53 => ?_) (fun g53 => ?_)
      · skip
        refine lv_iconst (v := nI 1) hx hb d_q_Checks_changeWrongBytes_60 (by decide) ?_
        refine n_iadd hx hb d_q_Checks_changeWrongBytes_61 ?_
        refine n_topn (show (cwC lc vl k) + 1 = cwC lc vl (k + 1) from (by first | exact (cwC_t g53).symm | exact (cwC_f g53).symm)) ?_
        refine lv_istore_n hx hb d_q_Checks_changeWrongBytes_62 rfl hl (Nat.le_of_ble_eq_true rfl) rfl (fun ls hl => ?_)
        have hl : lv_has ls 6 [(2, .int (nI (cwC lc vl (k + 1)))), (5, .int (nI (chg lc vl (25 - k)))), (4, .int (nI (25 - k))), (0, .ref co), (1, .ref ba), (3, .int (nI k))] := hl
        refine lv_iinc (k := 5) (v := nI (k + 1)) hx hb d_q_Checks_changeWrongBytes_63 hl rfl (nx_inc k 1) (Nat.le_of_ble_eq_true rfl) rfl (fun ls hl => ?_)
        have hl : lv_has ls 6 [(3, .int (nI (k + 1))), (2, .int (nI (cwC lc vl (k + 1)))), (5, .int (nI (chg lc vl (25 - k)))), (4, .int (nI (25 - k))), (0, .ref co), (1, .ref ba)] := hl
        refine lv_goto hx hb d_q_Checks_changeWrongBytes_66 (tgt := 4) rfl ?_
        exact ih (by omega) ls H locs (lv_sub hl [4, 5, 1, 0] rfl) hP hD hS
      · skip
        refine lv_iconst (v := nI 0) hx hb d_q_Checks_changeWrongBytes_56 (by decide) ?_
        refine lv_goto hx hb d_q_Checks_changeWrongBytes_57 (tgt := 61) rfl ?_
        refine n_iadd hx hb d_q_Checks_changeWrongBytes_61 ?_
        refine n_topn (show (cwC lc vl k) + 0 = cwC lc vl (k + 1) from (by first | exact (cwC_t g53).symm | exact (cwC_f g53).symm)) ?_
        refine lv_istore_n hx hb d_q_Checks_changeWrongBytes_62 rfl hl (Nat.le_of_ble_eq_true rfl) rfl (fun ls hl => ?_)
        have hl : lv_has ls 6 [(2, .int (nI (cwC lc vl (k + 1)))), (5, .int (nI (chg lc vl (25 - k)))), (4, .int (nI (25 - k))), (0, .ref co), (1, .ref ba), (3, .int (nI k))] := hl
        refine lv_iinc (k := 5) (v := nI (k + 1)) hx hb d_q_Checks_changeWrongBytes_63 hl rfl (nx_inc k 1) (Nat.le_of_ble_eq_true rfl) rfl (fun ls hl => ?_)
        have hl : lv_has ls 6 [(3, .int (nI (k + 1))), (2, .int (nI (cwC lc vl (k + 1)))), (5, .int (nI (chg lc vl (25 - k)))), (4, .int (nI (25 - k))), (0, .ref co), (1, .ref ba)] := hl
        refine lv_goto hx hb d_q_Checks_changeWrongBytes_66 (tgt := 4) rfl ?_
        exact ih (by omega) ls H locs (lv_sub hl [4, 5, 1, 0] rfl) hP hD hS
set_option maxHeartbeats 1000000 in
set_option maxRecDepth 100000 in
theorem bd_q_Checks_changeWrongBytes (cI cC : ClassId) (co c1 c2 c3 c4 c5 c6 c7 fo fp fl : Nat) (po lo lc vl bt : Nat → Nat) (ba : Nat) (hlc : lt256 18 lc) (hvl : lt256 17 vl) (hF : fldOK po lo) (S : CallFix p m c b_q_Checks_changeWrongBytes 6 s args (cd_q_Checks_changeWrongBytes :: WS) R_Checks) (hRf : 4 ≤ R.frames) (hRl : 90 ≤ R.locals) (hRc : cells ≤ R.cells ∧ slots ≤ R.slots) (hK : va_K D classes [(cI, .int), (cC, .char)] s) (hA : ∀ q, H0.size ≤ q → A q) (kr : ∀ (pc : Nat) (ls : Array Slot) (H : Heap) (locs : List Loc), decode b_q_Checks_changeWrongBytes pc = .ok (.ireturn, 1) → va_P D classes [(co, .inr (0, [.ref fo, .ref c1, .ref c2, .ref c3, .ref c4, .ref c5, .ref c6, .ref c7])), (fo, .inr (1, [.ref fp, .ref fl])), (fp, .inl (cI, 255, .inl (fun j => nI (po j)))), (fl, .inl (cI, 256, .inl (fun j => nI (lo j)))), (c4, .inl (cI, 18, .inl (fun j => nI (lc j)))), (c7, .inl (cI, 17, .inl (fun j => nI (vl j)))), (ba, .inl (cI, 26, .inl (fun j => nI ((cwB bt lc vl 26) j))))] H → va_D A [(co, .inr (0, [.ref fo, .ref c1, .ref c2, .ref c3, .ref c4, .ref c5, .ref c6, .ref c7])), (fo, .inr (1, [.ref fp, .ref fl])), (fp, .inl (cI, 255, .inl (fun j => nI (po j)))), (fl, .inl (cI, 256, .inl (fun j => nI (lo j)))), (c4, .inl (cI, 18, .inl (fun j => nI (lc j)))), (c7, .inl (cI, 17, .inl (fun j => nI (vl j)))), (ba, .inl (cI, 26, .inl (fun j => nI ((cwB bt lc vl 26) j))))] → va_S A H0 H locs → W p l e R s m args below meth c H locs cells slots Q (F0 m pc ls [.int (nI (cwC lc vl 26))])) : ∀ (ls : Array Slot) (H : Heap) (locs : List Loc), lv_has ls 6 [(0, .ref co), (1, .ref ba)] → va_P D classes [(co, .inr (0, [.ref fo, .ref c1, .ref c2, .ref c3, .ref c4, .ref c5, .ref c6, .ref c7])), (fo, .inr (1, [.ref fp, .ref fl])), (fp, .inl (cI, 255, .inl (fun j => nI (po j)))), (fl, .inl (cI, 256, .inl (fun j => nI (lo j)))), (c4, .inl (cI, 18, .inl (fun j => nI (lc j)))), (c7, .inl (cI, 17, .inl (fun j => nI (vl j)))), (ba, .inl (cI, 26, .inl (fun j => nI (bt j))))] H → va_D A [(co, .inr (0, [.ref fo, .ref c1, .ref c2, .ref c3, .ref c4, .ref c5, .ref c6, .ref c7])), (fo, .inr (1, [.ref fp, .ref fl])), (fp, .inl (cI, 255, .inl (fun j => nI (po j)))), (fl, .inl (cI, 256, .inl (fun j => nI (lo j)))), (c4, .inl (cI, 18, .inl (fun j => nI (lc j)))), (c7, .inl (cI, 17, .inl (fun j => nI (vl j)))), (ba, .inl (cI, 26, .inl (fun j => nI (bt j))))] → va_S A H0 H locs → W p l e R s m args below meth c H locs cells slots Q (F0 m 0 ls []) := by
  obtain ⟨hx, hb, hml, hown, hts⟩ := id S
  intro ls H locs hl hP hD hS
  refine lv_iconst (v := nI 0) hx hb d_q_Checks_changeWrongBytes_0 (by decide) ?_
  refine lv_istore_n hx hb d_q_Checks_changeWrongBytes_1 rfl hl (Nat.le_of_ble_eq_true rfl) rfl (fun ls hl => ?_)
  have hl : lv_has ls 6 [(2, .int (nI 0)), (0, .ref co), (1, .ref ba)] := hl
  refine lv_iconst (v := nI 0) hx hb d_q_Checks_changeWrongBytes_2 (by decide) ?_
  refine lv_istore_n hx hb d_q_Checks_changeWrongBytes_3 rfl hl (Nat.le_of_ble_eq_true rfl) rfl (fun ls hl => ?_)
  have hl : lv_has ls 6 [(3, .int (nI 0)), (2, .int (nI 0)), (0, .ref co), (1, .ref ba)] := hl
  refine lp_q_Checks_changeWrongBytes_4 cI cC co c1 c2 c3 c4 c5 c6 c7 fo fp fl po lo lc vl bt ba hlc hvl hF S hRf hRl hRc hK hA  (fun ls H locs hl hP hD hS => ?_) 0 (by omega) ls H locs (lv_sub hl [2, 3, 1, 0] rfl) hP hD hS
  refine lv_iload_n hx hb d_q_Checks_changeWrongBytes_69 rfl (lv_at hl 2 rfl) ?_
  exact kr _ ls H locs d_q_Checks_changeWrongBytes_70 hP hD hS
set_option maxHeartbeats 1000000 in
set_option maxRecDepth 100000 in
theorem c_q_Checks_changeWrongBytes (l : Launch) (D : va_G) (cI cC : ClassId) (co c1 c2 c3 c4 c5 c6 c7 fo fp fl : Nat) (po lo lc vl bt : Nat → Nat) (ba : Nat) (hlc : lt256 18 lc) (hvl : lt256 17 vl) (hF : fldOK po lo) (sz : Nat) : Met l y_q_Checks_changeWrongBytes (cd_q_Checks_changeWrongBytes :: WS) { frames := 4, cells := 0, slots := 0, locals := 90 } (va_Pc [.ref co, .ref ba] (wP D [(co, .inr (0, [.ref fo, .ref c1, .ref c2, .ref c3, .ref c4, .ref c5, .ref c6, .ref c7])), (fo, .inr (1, [.ref fp, .ref fl])), (fp, .inl (cI, 255, .inl (fun j => nI (po j)))), (fl, .inl (cI, 256, .inl (fun j => nI (lo j)))), (c4, .inl (cI, 18, .inl (fun j => nI (lc j)))), (c7, .inl (cI, 17, .inl (fun j => nI (vl j)))), (ba, .inl (cI, 26, .inl (fun j => nI (bt j))))] [(cI, .int), (cC, .char)] sz)) (wQi D (nI (cwC lc vl 26)) [(co, .inr (0, [.ref fo, .ref c1, .ref c2, .ref c3, .ref c4, .ref c5, .ref c6, .ref c7])), (fo, .inr (1, [.ref fp, .ref fl])), (fp, .inl (cI, 255, .inl (fun j => nI (po j)))), (fl, .inl (cI, 256, .inl (fun j => nI (lo j)))), (c4, .inl (cI, 18, .inl (fun j => nI (lc j)))), (c7, .inl (cI, 17, .inl (fun j => nI (vl j)))), (ba, .inl (cI, 26, .inl (fun j => nI (bt j))))] [(co, .inr (0, [.ref fo, .ref c1, .ref c2, .ref c3, .ref c4, .ref c5, .ref c6, .ref c7])), (fo, .inr (1, [.ref fp, .ref fl])), (fp, .inl (cI, 255, .inl (fun j => nI (po j)))), (fl, .inl (cI, 256, .inl (fun j => nI (lo j)))), (c4, .inl (cI, 18, .inl (fun j => nI (lc j)))), (c7, .inl (cI, 17, .inl (fun j => nI (vl j)))), (ba, .inl (cI, 26, .inl (fun j => nI ((cwB bt lc vl 26) j))))] sz) 0 0 (va_A [(co, .inr (0, [.ref fo, .ref c1, .ref c2, .ref c3, .ref c4, .ref c5, .ref c6, .ref c7])), (fo, .inr (1, [.ref fp, .ref fl])), (fp, .inl (cI, 255, .inl (fun j => nI (po j)))), (fl, .inl (cI, 256, .inl (fun j => nI (lo j)))), (c4, .inl (cI, 18, .inl (fun j => nI (lc j)))), (c7, .inl (cI, 17, .inl (fun j => nI (vl j)))), (ba, .inl (cI, 26, .inl (fun j => nI (bt j))))] sz) := by
  refine Met.ofW (cc := b_q_Checks_changeWrongBytes) (maxL := 6) (ret := (some .int)) (by decide) rfl ?_
  intro p e s m args below meth c s₁ B hml hv0
  obtain ⟨rfl, hP, hK, hD0, hsz⟩ := hv0
  have hts := atoms_spec (ws := cd_q_Checks_changeWrongBytes :: WS) B.pre
  have hown : s.vm.findClass R_Checks = some m.cls := findClass_of_methodNamed B.named
  have hlocks := B.notSynchronized
  subst hsz
  have hD := hD0.self (sz := s.heap.size)
  have hl := lv_entry ([.ref co, .ref ba]) (n := 6) (Nat.le_of_ble_eq_true rfl)
  rw [lg_entry_eq]
  generalize (lg_sl ([.ref co, .ref ba]) ++ List.replicate (6 - (lg_sl ([.ref co, .ref ba])).length) Slot.unset).toArray = ls at hl ⊢
  refine bd_q_Checks_changeWrongBytes cI cC co c1 c2 c3 c4 c5 c6 c7 fo fp fl po lo lc vl bt ba hlc hvl hF ⟨B.exec, B.bytes, hml, hown, hts⟩ (Nat.le_refl _) (Nat.le_refl _) ⟨Nat.le_refl _, Nat.le_refl _⟩ hK (fun q h => Or.inr h) (fun pc ls H locs hd hP hD hS => ?_) ls _ _ hl hP hD (va_S.rf)
  exact W.iret B.exec B.bytes B.returns (fun t ht _ => ⟨⟨_, (), rfl, rfl, (by have h9 := hP; rw [← ht] at h9; exact h9)⟩, hS.F ht⟩) hS.2.2 hd
end
