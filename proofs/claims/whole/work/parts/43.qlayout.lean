theorem kw_59 : (Jvm.Cond.methodLink "SquareCodes$Layout" (40 : Nat) ({ cls := "SquareCodes$Layout", name := "isDarkInEye", desc := "(II)Z" } : Jvm.MethodName)) ∈ WS := WS_tbl 59 (by decide +kernel) rfl
theorem kw_60 : (Jvm.Cond.static ({ cls := "SquareCodes$Layout", name := "isDarkInEye", desc := "(II)Z" } : Jvm.MethodName)) ∈ WS := WS_tbl 60 (by decide +kernel) rfl
theorem kw_3 : (Jvm.Cond.initialized "SquareCodes$Layout") ∈ WS := WS_tbl 3 (by decide +kernel) rfl
set_option maxRecDepth 1000000 in
theorem kw_61 : cd_q_Layout_isDarkInEye ∈ WS := WS_tbl 61 rfl rfl
theorem kw_62 : (Jvm.Cond.methodLink "SquareCodes$Layout" (44 : Nat) ({ cls := "SquareCodes$Grid", name := "turnOver", desc := "(II)V" } : Jvm.MethodName)) ∈ WS := WS_tbl 62 (by decide +kernel) rfl
theorem kw_63 : (Jvm.Cond.instanceMethod ({ cls := "SquareCodes$Grid", name := "turnOver", desc := "(II)V" } : Jvm.MethodName)) ∈ WS := WS_tbl 63 (by decide +kernel) rfl
theorem kw_64 : (Jvm.Cond.selects "SquareCodes$Grid" ({ cls := "SquareCodes$Grid", name := "turnOver", desc := "(II)V" } : Jvm.MethodName) ({ cls := "SquareCodes$Grid", name := "turnOver", desc := "(II)V" } : Jvm.MethodName)) ∈ WS := WS_tbl 64 (by decide +kernel) rfl
set_option maxRecDepth 1000000 in
theorem kw_65 : cd_q_Grid_turnOver ∈ WS := WS_tbl 65 rfl rfl
theorem kw_76 : (Jvm.Cond.methodLink "SquareCodes$Layout" (48 : Nat) ({ cls := "SquareCodes$Layout", name := "isData", desc := "(II)Z" } : Jvm.MethodName)) ∈ WS := WS_tbl 76 (by decide +kernel) rfl
theorem kw_77 : (Jvm.Cond.static ({ cls := "SquareCodes$Layout", name := "isData", desc := "(II)Z" } : Jvm.MethodName)) ∈ WS := WS_tbl 77 (by decide +kernel) rfl
set_option maxRecDepth 1000000 in
theorem kw_78 : cd_q_Layout_isData ∈ WS := WS_tbl 78 rfl rfl
theorem kw_80 : (Jvm.Cond.fieldLink "SquareCodes$Layout" (30 : Nat) "SquareCodes$Layout" "dataRows" "[I") ∈ WS := WS_tbl 80 (by decide +kernel) rfl
theorem kw_81 : (Jvm.Cond.fieldLink "SquareCodes$Layout" (33 : Nat) "SquareCodes$Layout" "dataColumns" "[I") ∈ WS := WS_tbl 81 (by decide +kernel) rfl
theorem kw_579 : (Jvm.Cond.methodLink "SquareCodes$Layout" (80 : Nat) ({ cls := "SquareCodes$Layout", name := "isTurned", desc := "(III)Z" } : Jvm.MethodName)) ∈ WS := WS_tbl 579 (by decide +kernel) rfl
theorem kw_580 : (Jvm.Cond.static ({ cls := "SquareCodes$Layout", name := "isTurned", desc := "(III)Z" } : Jvm.MethodName)) ∈ WS := WS_tbl 580 (by decide +kernel) rfl
set_option maxRecDepth 1000000 in
theorem kw_581 : cd_q_Layout_isTurned ∈ WS := WS_tbl 581 rfl rfl
theorem kw_609 : (Jvm.Cond.methodLink "SquareCodes$Layout" (94 : Nat) ({ cls := "SquareCodes$Grid", name := "at", desc := "(II)I" } : Jvm.MethodName)) ∈ WS := WS_tbl 609 (by decide +kernel) rfl
theorem kw_630 : (Jvm.Cond.methodLink "SquareCodes$Layout" (88 : Nat) ({ cls := "java/util/Arrays", name := "fill", desc := "([II)V" } : Jvm.MethodName)) ∈ WS := WS_tbl 630 (by decide +kernel) rfl
section
theorem d_q_Layout_drawEye_0 : decode b_q_Layout_drawEye 0 = .ok (.iconst 0, 1) := by decide +kernel
theorem d_q_Layout_drawEye_1 : decode b_q_Layout_drawEye 1 = .ok (.istore_n 3, 1) := by decide +kernel
theorem d_q_Layout_drawEye_2 : decode b_q_Layout_drawEye 2 = .ok (.iload_n 3, 1) := by decide +kernel
theorem d_q_Layout_drawEye_3 : decode b_q_Layout_drawEye 3 = .ok (.bipush 7, 2) := by decide +kernel
theorem d_q_Layout_drawEye_5 : decode b_q_Layout_drawEye 5 = .ok (.if_icmp .ge 45, 3) := by decide +kernel
theorem d_q_Layout_drawEye_8 : decode b_q_Layout_drawEye 8 = .ok (.iconst 0, 1) := by decide +kernel
theorem d_q_Layout_drawEye_9 : decode b_q_Layout_drawEye 9 = .ok (.istore 4, 2) := by decide +kernel
theorem d_q_Layout_drawEye_11 : decode b_q_Layout_drawEye 11 = .ok (.iload 4, 2) := by decide +kernel
theorem d_q_Layout_drawEye_13 : decode b_q_Layout_drawEye 13 = .ok (.bipush 7, 2) := by decide +kernel
theorem d_q_Layout_drawEye_15 : decode b_q_Layout_drawEye 15 = .ok (.if_icmp .ge 29, 3) := by decide +kernel
theorem d_q_Layout_drawEye_18 : decode b_q_Layout_drawEye 18 = .ok (.iload_n 3, 1) := by decide +kernel
theorem d_q_Layout_drawEye_19 : decode b_q_Layout_drawEye 19 = .ok (.iload 4, 2) := by decide +kernel
theorem d_q_Layout_drawEye_21 : decode b_q_Layout_drawEye 21 = .ok (.invokestatic 40, 3) := by decide +kernel
theorem d_q_Layout_drawEye_24 : decode b_q_Layout_drawEye 24 = .ok (.ifCond .eq 14, 3) := by decide +kernel
theorem d_q_Layout_drawEye_27 : decode b_q_Layout_drawEye 27 = .ok (.aload_n 0, 1) := by decide +kernel
theorem d_q_Layout_drawEye_28 : decode b_q_Layout_drawEye 28 = .ok (.iload_n 1, 1) := by decide +kernel
theorem d_q_Layout_drawEye_29 : decode b_q_Layout_drawEye 29 = .ok (.iload_n 3, 1) := by decide +kernel
theorem d_q_Layout_drawEye_30 : decode b_q_Layout_drawEye 30 = .ok (.iadd, 1) := by decide +kernel
theorem d_q_Layout_drawEye_31 : decode b_q_Layout_drawEye 31 = .ok (.iload_n 2, 1) := by decide +kernel
theorem d_q_Layout_drawEye_32 : decode b_q_Layout_drawEye 32 = .ok (.iload 4, 2) := by decide +kernel
theorem d_q_Layout_drawEye_34 : decode b_q_Layout_drawEye 34 = .ok (.iadd, 1) := by decide +kernel
theorem d_q_Layout_drawEye_35 : decode b_q_Layout_drawEye 35 = .ok (.invokevirtual 44, 3) := by decide +kernel
theorem d_q_Layout_drawEye_38 : decode b_q_Layout_drawEye 38 = .ok (.iinc 4 1, 3) := by decide +kernel
theorem d_q_Layout_drawEye_41 : decode b_q_Layout_drawEye 41 = .ok (.goto (-30), 3) := by decide +kernel
theorem d_q_Layout_drawEye_44 : decode b_q_Layout_drawEye 44 = .ok (.iinc 3 1, 3) := by decide +kernel
theorem d_q_Layout_drawEye_47 : decode b_q_Layout_drawEye 47 = .ok (.goto (-45), 3) := by decide +kernel
theorem d_q_Layout_drawEye_50 : decode b_q_Layout_drawEye 50 = .ok (.return_, 1) := by decide +kernel
end
section
variable {p : Program} {l : Launch} {e : Env} {R : Room} {s : State} {m : MethodId} {args : Array Value} {below : List Frame} {meth : Method} {c : Code} {cells slots : Nat} {Q : State → Prop} {A : Nat → Prop} {H0 : Heap} {D : va_G}
set_option maxHeartbeats 1000000 in
set_option maxRecDepth 100000 in
theorem lp_q_Layout_drawEye_11 (cI cC : ClassId) (go ga : Nat) (ro : Nat → Nat) (tp lf : Nat) (htp : tp ≤ 14) (hlf : lf ≤ 14) (S : CallFix p m c b_q_Layout_drawEye 5 s args (cd_q_Layout_drawEye :: WS) R_Layout) (hRf : 1 ≤ R.frames) (hRl : 23 ≤ R.locals) (hRc : cells ≤ R.cells ∧ slots ≤ R.slots) (hK : va_K D classes [(cI, .int), (cC, .char)] s) (hA : ∀ q, H0.size ≤ q → A q) (i : Nat) (hi : i < 7) (kx : ∀ (ls : Array Slot) (H : Heap) (locs : List Loc), lv_has ls 5 [(0, .ref go), (1, .int (nI tp)), (2, .int (nI lf)), (3, .int (nI i)), (4, .int (nI 7))] → va_P D classes [(go, .inr (2, [.ref ga])), (ga, .inl (cI, 21, .inl (fun j => nI ((deJ (deI ro tp lf i) tp lf i 7) j))))] H → va_D A [(go, .inr (2, [.ref ga])), (ga, .inl (cI, 21, .inl (fun j => nI ((deJ (deI ro tp lf i) tp lf i 7) j))))] → va_S A H0 H locs → W p l e R s m args below meth c H locs cells slots Q (F0 m 44 ls [])) :
    ∀ j, j ≤ 7 → ∀ (ls : Array Slot) (H : Heap) (locs : List Loc), lv_has ls 5 [(0, .ref go), (1, .int (nI tp)), (2, .int (nI lf)), (3, .int (nI i)), (4, .int (nI j))] → va_P D classes [(go, .inr (2, [.ref ga])), (ga, .inl (cI, 21, .inl (fun z9 => nI ((deJ (deI ro tp lf i) tp lf i j) z9))))] H → va_D A [(go, .inr (2, [.ref ga])), (ga, .inl (cI, 21, .inl (fun z9 => nI ((deJ (deI ro tp lf i) tp lf i j) z9))))] → va_S A H0 H locs → W p l e R s m args below meth c H locs cells slots Q (F0 m 11 ls []) := by
  obtain ⟨hx, hb, hml, hown, hts⟩ := id S
  refine up_loop (fun j hkj ih => ?_)
  intro ls H locs hl hP hD hS
  have hfx := fxI_le i j
  refine lv_iload hx hb d_q_Layout_drawEye_11 (lv_at hl 4 rfl) ?_
  refine lv_bipush (v := nI 7) hx hb d_q_Layout_drawEye_13 (by decide) ?_
  refine n_icmp_ge hx hb d_q_Layout_drawEye_15 (tgt := 44) rfl (by omega) (by omega) (fun g15 => ?_) (fun g15 => ?_)
  · skip
    obtain rfl : j = 7 := by omega
    exact kx ls H locs (lv_sub hl [0, 1, 2, 3, 4] rfl) hP hD hS
  · skip
    refine lv_iload_n hx hb d_q_Layout_drawEye_18 rfl (lv_at hl 3 rfl) ?_
    refine lv_iload hx hb d_q_Layout_drawEye_19 (lv_at hl 4 rfl) ?_
    refine q_pureS (n := 2) (As := [.int (nI i), .int (nI j)]) (rest := []) S (c_q_Layout_isDarkInEye l i j (by omega) (by omega)) (q_goodS kw_59 kw_60 kw_3 kw_61) (by decide +kernel) rfl rfl ⟨Nat.le_trans (Nat.le_of_ble_eq_true rfl) hRf, Nat.le_trans (Nat.le_of_ble_eq_true rfl) hRl⟩ rfl hl.1 rfl (Nat.le_of_ble_eq_true rfl) d_q_Layout_drawEye_21 hRc hS (fun H locs hkp hS => ?_)
    replace hP := hP.kept (fun k q hq => hkp q.1 (hP k q hq).lt)
    refine n_if_eq hx hb d_q_Layout_drawEye_24 (tgt := 38) rfl (by omega) (fun g24 => ?_) (fun g24 => ?_)
    · skip
      refine lv_iinc (k := 4) (v := nI (j + 1)) hx hb d_q_Layout_drawEye_38 hl rfl (nx_inc j 1) (Nat.le_of_ble_eq_true rfl) rfl (fun ls hl => ?_)
      have hl : lv_has ls 5 [(4, .int (nI (j + 1))), (0, .ref go), (1, .int (nI tp)), (2, .int (nI lf)), (3, .int (nI i))] := hl
      refine lv_goto hx hb d_q_Layout_drawEye_41 (tgt := 11) rfl ?_
      rw [show deJ (deI ro tp lf i) tp lf i j = deJ (deI ro tp lf i) tp lf i (j + 1) from (by first | exact (deJ_t g24).symm | exact (deJ_f g24).symm)] at hP hD
      exact ih (by omega) ls H locs (lv_sub hl [1, 2, 3, 4, 0] rfl) hP hD hS
    · skip
      refine lv_aload_n hx hb d_q_Layout_drawEye_27 rfl (lv_at hl 0 rfl) ?_
      refine lv_iload_n hx hb d_q_Layout_drawEye_28 rfl (lv_at hl 1 rfl) ?_
      refine lv_iload_n hx hb d_q_Layout_drawEye_29 rfl (lv_at hl 3 rfl) ?_
      refine n_iadd hx hb d_q_Layout_drawEye_30 ?_
      refine lv_iload_n hx hb d_q_Layout_drawEye_31 rfl (lv_at hl 2 rfl) ?_
      refine lv_iload hx hb d_q_Layout_drawEye_32 (lv_at hl 4 rfl) ?_
      refine n_iadd hx hb d_q_Layout_drawEye_34 ?_
      refine q_writeVv (n := 2) (As := [.int (nI (tp + i)), .int (nI (lf + j))]) (rest := []) (wc := [(go, .inr (2, [.ref ga])), (ga, .inl (cI, 21, .inl (fun z9 => nI ((deJ (deI ro tp lf i) tp lf i j) z9))))]) (wr := []) (w1 := [(go, .inr (2, [.ref ga])), (ga, .inl (cI, 21, .inl (fun z9 => nI ((va_up (deJ (deI ro tp lf i) tp lf i j) (tp + i) ((deJ (deI ro tp lf i) tp lf i j) (tp + i) ^^^ 2 ^ (20 - (lf + j)))) z9))))]) S (c_q_Grid_turnOver l D cI cC go ga (deJ (deI ro tp lf i) tp lf i j) (tp + i) (lf + j) (by omega) (by omega) H.size) hK hP hD hA (q0 := 0) rfl rfl [0, 1] [] rfl rfl rfl rfl (by decide) rfl (q_goodV kw_62 kw_63 kw_64 kw_2 kw_65) (by decide +kernel) rfl rfl rfl ⟨Nat.le_trans (Nat.le_of_ble_eq_true rfl) hRf, Nat.le_trans (Nat.le_of_ble_eq_true rfl) hRl⟩ rfl hl.1 rfl (Nat.le_of_ble_eq_true rfl) d_q_Layout_drawEye_35 hRc hS (fun H locs hP hD hS => ?_)
      replace hP : va_P D classes [(go, .inr (2, [.ref ga])), (ga, .inl (cI, 21, .inl (fun z9 => nI ((va_up (deJ (deI ro tp lf i) tp lf i j) (tp + i) ((deJ (deI ro tp lf i) tp lf i j) (tp + i) ^^^ 2 ^ (20 - (lf + j)))) z9))))] H := hP.sub [0, 1] rfl
      replace hD : va_D A [(go, .inr (2, [.ref ga])), (ga, .inl (cI, 21, .inl (fun z9 => nI ((va_up (deJ (deI ro tp lf i) tp lf i j) (tp + i) ((deJ (deI ro tp lf i) tp lf i j) (tp + i) ^^^ 2 ^ (20 - (lf + j)))) z9))))] := hD.sub [0, 1] rfl rfl
      refine lv_iinc (k := 4) (v := nI (j + 1)) hx hb d_q_Layout_drawEye_38 hl rfl (nx_inc j 1) (Nat.le_of_ble_eq_true rfl) rfl (fun ls hl => ?_)
      have hl : lv_has ls 5 [(4, .int (nI (j + 1))), (0, .ref go), (1, .int (nI tp)), (2, .int (nI lf)), (3, .int (nI i))] := hl
      refine lv_goto hx hb d_q_Layout_drawEye_41 (tgt := 11) rfl ?_
      rw [show va_up (deJ (deI ro tp lf i) tp lf i j) (tp + i) ((deJ (deI ro tp lf i) tp lf i j) (tp + i) ^^^ 2 ^ (20 - (lf + j))) = deJ (deI ro tp lf i) tp lf i (j + 1) from (by first | exact (deJ_t g24).symm | exact (deJ_f g24).symm)] at hP hD
      exact ih (by omega) ls H locs (lv_sub hl [1, 2, 3, 4, 0] rfl) hP hD hS
set_option maxHeartbeats 1000000 in
set_option maxRecDepth 100000 in
theorem lp_q_Layout_drawEye_2 (cI cC : ClassId) (go ga : Nat) (ro : Nat → Nat) (tp lf : Nat) (htp : tp ≤ 14) (hlf : lf ≤ 14) (S : CallFix p m c b_q_Layout_drawEye 5 s args (cd_q_Layout_drawEye :: WS) R_Layout) (hRf : 1 ≤ R.frames) (hRl : 23 ≤ R.locals) (hRc : cells ≤ R.cells ∧ slots ≤ R.slots) (hK : va_K D classes [(cI, .int), (cC, .char)] s) (hA : ∀ q, H0.size ≤ q → A q) (kx : ∀ (ls : Array Slot) (H : Heap) (locs : List Loc), lv_has ls 5 [(0, .ref go), (1, .int (nI tp)), (2, .int (nI lf)), (3, .int (nI 7))] → va_P D classes [(go, .inr (2, [.ref ga])), (ga, .inl (cI, 21, .inl (fun j => nI ((deI ro tp lf 7) j))))] H → va_D A [(go, .inr (2, [.ref ga])), (ga, .inl (cI, 21, .inl (fun j => nI ((deI ro tp lf 7) j))))] → va_S A H0 H locs → W p l e R s m args below meth c H locs cells slots Q (F0 m 50 ls [])) :
    ∀ i, i ≤ 7 → ∀ (ls : Array Slot) (H : Heap) (locs : List Loc), lv_has ls 5 [(0, .ref go), (1, .int (nI tp)), (2, .int (nI lf)), (3, .int (nI i))] → va_P D classes [(go, .inr (2, [.ref ga])), (ga, .inl (cI, 21, .inl (fun j => nI ((deI ro tp lf i) j))))] H → va_D A [(go, .inr (2, [.ref ga])), (ga, .inl (cI, 21, .inl (fun j => nI ((deI ro tp lf i) j))))] → va_S A H0 H locs → W p l e R s m args below meth c H locs cells slots Q (F0 m 2 ls []) := by
  obtain ⟨hx, hb, hml, hown, hts⟩ := id S
  refine up_loop (fun i hki ih => ?_)
  intro ls H locs hl hP hD hS
  refine lv_iload_n hx hb d_q_Layout_drawEye_2 rfl (lv_at hl 3 rfl) ?_
  refine lv_bipush (v := nI 7) hx hb d_q_Layout_drawEye_3 (by decide) ?_
  refine n_icmp_ge hx hb d_q_Layout_drawEye_5 (tgt := 50) rfl (by omega) (by omega) (fun g5 => ?_) (fun g5 => ?_)
  · skip
    obtain rfl : i = 7 := by omega
    exact kx ls H locs (lv_sub hl [0, 1, 2, 3] rfl) hP hD hS
  · skip
    refine lv_iconst (v := nI 0) hx hb d_q_Layout_drawEye_8 (by decide) ?_
    refine lv_istore hx hb d_q_Layout_drawEye_9 hl (Nat.le_of_ble_eq_true rfl) rfl (fun ls hl => ?_)
    have hl : lv_has ls 5 [(4, .int (nI 0)), (0, .ref go), (1, .int (nI tp)), (2, .int (nI lf)), (3, .int (nI i))] := hl
    refine lp_q_Layout_drawEye_11 cI cC go ga ro tp lf htp hlf S hRf hRl hRc hK hA i (by omega) (fun ls H locs hl hP hD hS => ?_) 0 (by omega) ls H locs (lv_sub hl [1, 2, 3, 4, 0] rfl) hP hD hS
    refine lv_iinc (k := 3) (v := nI (i + 1)) hx hb d_q_Layout_drawEye_44 hl rfl (nx_inc i 1) (Nat.le_of_ble_eq_true rfl) rfl (fun ls hl => ?_)
    have hl : lv_has ls 5 [(3, .int (nI (i + 1))), (0, .ref go), (1, .int (nI tp)), (2, .int (nI lf)), (4, .int (nI 7))] := hl
    refine lv_goto hx hb d_q_Layout_drawEye_47 (tgt := 2) rfl ?_
    rw [show deJ (deI ro tp lf i) tp lf i 7 = deI ro tp lf (i + 1) from rfl] at hP hD
    exact ih (by omega) ls H locs (lv_sub hl [1, 2, 3, 0] rfl) hP hD hS
set_option maxHeartbeats 1000000 in
set_option maxRecDepth 100000 in
theorem bd_q_Layout_drawEye (cI cC : ClassId) (go ga : Nat) (ro : Nat → Nat) (tp lf : Nat) (htp : tp ≤ 14) (hlf : lf ≤ 14) (S : CallFix p m c b_q_Layout_drawEye 5 s args (cd_q_Layout_drawEye :: WS) R_Layout) (hRf : 1 ≤ R.frames) (hRl : 23 ≤ R.locals) (hRc : cells ≤ R.cells ∧ slots ≤ R.slots) (hK : va_K D classes [(cI, .int), (cC, .char)] s) (hA : ∀ q, H0.size ≤ q → A q) (kr : ∀ (pc : Nat) (ls : Array Slot) (H : Heap) (locs : List Loc), decode b_q_Layout_drawEye pc = .ok (.return_, 1) → va_P D classes [(go, .inr (2, [.ref ga])), (ga, .inl (cI, 21, .inl (fun j => nI ((deI ro tp lf 7) j))))] H → va_D A [(go, .inr (2, [.ref ga])), (ga, .inl (cI, 21, .inl (fun j => nI ((deI ro tp lf 7) j))))] → va_S A H0 H locs → W p l e R s m args below meth c H locs cells slots Q (F0 m pc ls [])) : ∀ (ls : Array Slot) (H : Heap) (locs : List Loc), lv_has ls 5 [(0, .ref go), (1, .int (nI tp)), (2, .int (nI lf))] → va_P D classes [(go, .inr (2, [.ref ga])), (ga, .inl (cI, 21, .inl (fun j => nI (ro j))))] H → va_D A [(go, .inr (2, [.ref ga])), (ga, .inl (cI, 21, .inl (fun j => nI (ro j))))] → va_S A H0 H locs → W p l e R s m args below meth c H locs cells slots Q (F0 m 0 ls []) := by
  obtain ⟨hx, hb, hml, hown, hts⟩ := id S
  intro ls H locs hl hP hD hS
  refine lv_iconst (v := nI 0) hx hb d_q_Layout_drawEye_0 (by decide) ?_
  refine lv_istore_n hx hb d_q_Layout_drawEye_1 rfl hl (Nat.le_of_ble_eq_true rfl) rfl (fun ls hl => ?_)
  have hl : lv_has ls 5 [(3, .int (nI 0)), (0, .ref go), (1, .int (nI tp)), (2, .int (nI lf))] := hl
  refine lp_q_Layout_drawEye_2 cI cC go ga ro tp lf htp hlf S hRf hRl hRc hK hA  (fun ls H locs hl hP hD hS => ?_) 0 (by omega) ls H locs (lv_sub hl [1, 2, 3, 0] rfl) hP hD hS
  exact kr _ ls H locs d_q_Layout_drawEye_50 hP hD hS
set_option maxHeartbeats 1000000 in
set_option maxRecDepth 100000 in
theorem c_q_Layout_drawEye (l : Launch) (D : va_G) (cI cC : ClassId) (go ga : Nat) (ro : Nat → Nat) (tp lf : Nat) (htp : tp ≤ 14) (hlf : lf ≤ 14) (sz : Nat) : Met l y_q_Layout_drawEye (cd_q_Layout_drawEye :: WS) { frames := 1, cells := 0, slots := 0, locals := 23 } (va_Pc [.ref go, .int (nI tp), .int (nI lf)] (wP D [(go, .inr (2, [.ref ga])), (ga, .inl (cI, 21, .inl (fun j => nI (ro j))))] [(cI, .int), (cC, .char)] sz)) (wQv D [(go, .inr (2, [.ref ga])), (ga, .inl (cI, 21, .inl (fun j => nI (ro j))))] [(go, .inr (2, [.ref ga])), (ga, .inl (cI, 21, .inl (fun j => nI ((deI ro tp lf 7) j))))] sz) 0 0 (va_A [(go, .inr (2, [.ref ga])), (ga, .inl (cI, 21, .inl (fun j => nI (ro j))))] sz) := by
  refine Met.ofW (cc := b_q_Layout_drawEye) (maxL := 5) (ret := none) (by decide) rfl ?_
  intro p e s m args below meth c s₁ B hml hv0
  obtain ⟨rfl, hP, hK, hD0, hsz⟩ := hv0
  have hts := atoms_spec (ws := cd_q_Layout_drawEye :: WS) B.pre
  have hown : s.vm.findClass R_Layout = some m.cls := findClass_of_methodNamed B.named
  have hlocks := B.notSynchronized
  subst hsz
  have hD := hD0.self (sz := s.heap.size)
  have hl := lv_entry ([.ref go, .int (nI tp), .int (nI lf)]) (n := 5) (Nat.le_of_ble_eq_true rfl)
  rw [lg_entry_eq]
  generalize (lg_sl ([.ref go, .int (nI tp), .int (nI lf)]) ++ List.replicate (5 - (lg_sl ([.ref go, .int (nI tp), .int (nI lf)])).length) Slot.unset).toArray = ls at hl ⊢
  refine bd_q_Layout_drawEye cI cC go ga ro tp lf htp hlf ⟨B.exec, B.bytes, hml, hown, hts⟩ (Nat.le_refl _) (Nat.le_refl _) ⟨Nat.le_refl _, Nat.le_refl _⟩ hK (fun q h => Or.inr h) (fun pc ls H locs hd hP hD hS => ?_) ls _ _ hl hP hD (va_S.rf)
  exact W.vret B.exec B.bytes B.returns (fun t ht _ => ⟨⟨(), rfl, trivial, (by have h9 := hP; rw [← ht] at h9; exact h9)⟩, hS.F ht⟩) hS.2.2 hd
end
section
theorem d_q_Layout_drawDots_0 : decode b_q_Layout_drawDots 0 = .ok (.bipush 8, 2) := by decide +kernel
theorem d_q_Layout_drawDots_2 : decode b_q_Layout_drawDots 2 = .ok (.istore_n 1, 1) := by decide +kernel
theorem d_q_Layout_drawDots_3 : decode b_q_Layout_drawDots 3 = .ok (.iload_n 1, 1) := by decide +kernel
theorem d_q_Layout_drawDots_4 : decode b_q_Layout_drawDots 4 = .ok (.bipush 12, 2) := by decide +kernel
theorem d_q_Layout_drawDots_6 : decode b_q_Layout_drawDots 6 = .ok (.if_icmp .gt 23, 3) := by decide +kernel
theorem d_q_Layout_drawDots_9 : decode b_q_Layout_drawDots 9 = .ok (.aload_n 0, 1) := by decide +kernel
theorem d_q_Layout_drawDots_10 : decode b_q_Layout_drawDots 10 = .ok (.bipush 6, 2) := by decide +kernel
theorem d_q_Layout_drawDots_12 : decode b_q_Layout_drawDots 12 = .ok (.iload_n 1, 1) := by decide +kernel
theorem d_q_Layout_drawDots_13 : decode b_q_Layout_drawDots 13 = .ok (.invokevirtual 44, 3) := by decide +kernel
theorem d_q_Layout_drawDots_16 : decode b_q_Layout_drawDots 16 = .ok (.aload_n 0, 1) := by decide +kernel
theorem d_q_Layout_drawDots_17 : decode b_q_Layout_drawDots 17 = .ok (.iload_n 1, 1) := by decide +kernel
theorem d_q_Layout_drawDots_18 : decode b_q_Layout_drawDots 18 = .ok (.bipush 6, 2) := by decide +kernel
theorem d_q_Layout_drawDots_20 : decode b_q_Layout_drawDots 20 = .ok (.invokevirtual 44, 3) := by decide +kernel
theorem d_q_Layout_drawDots_23 : decode b_q_Layout_drawDots 23 = .ok (.iinc 1 2, 3) := by decide +kernel
theorem d_q_Layout_drawDots_26 : decode b_q_Layout_drawDots 26 = .ok (.goto (-23), 3) := by decide +kernel
theorem d_q_Layout_drawDots_29 : decode b_q_Layout_drawDots 29 = .ok (.aload_n 0, 1) := by decide +kernel
theorem d_q_Layout_drawDots_30 : decode b_q_Layout_drawDots 30 = .ok (.bipush 13, 2) := by decide +kernel
theorem d_q_Layout_drawDots_32 : decode b_q_Layout_drawDots 32 = .ok (.bipush 8, 2) := by decide +kernel
theorem d_q_Layout_drawDots_34 : decode b_q_Layout_drawDots 34 = .ok (.invokevirtual 44, 3) := by decide +kernel
theorem d_q_Layout_drawDots_37 : decode b_q_Layout_drawDots 37 = .ok (.return_, 1) := by decide +kernel
end
section
variable {p : Program} {l : Launch} {e : Env} {R : Room} {s : State} {m : MethodId} {args : Array Value} {below : List Frame} {meth : Method} {c : Code} {cells slots : Nat} {Q : State → Prop} {A : Nat → Prop} {H0 : Heap} {D : va_G}
set_option maxHeartbeats 1000000 in
set_option maxRecDepth 100000 in
theorem lp_q_Layout_drawDots_3 (cI cC : ClassId) (go ga : Nat) (ro : Nat → Nat) (S : CallFix p m c b_q_Layout_drawDots 2 s args (cd_q_Layout_drawDots :: WS) R_Layout) (hRf : 1 ≤ R.frames) (hRl : 22 ≤ R.locals) (hRc : cells ≤ R.cells ∧ slots ≤ R.slots) (hK : va_K D classes [(cI, .int), (cC, .char)] s) (hA : ∀ q, H0.size ≤ q → A q) (kx : ∀ (ls : Array Slot) (H : Heap) (locs : List Loc), lv_has ls 2 [(0, .ref go), (1, .int (nI (8 + 2 * 3)))] → va_P D classes [(go, .inr (2, [.ref ga])), (ga, .inl (cI, 21, .inl (fun j => nI ((ddL ro 3) j))))] H → va_D A [(go, .inr (2, [.ref ga])), (ga, .inl (cI, 21, .inl (fun j => nI ((ddL ro 3) j))))] → va_S A H0 H locs → W p l e R s m args below meth c H locs cells slots Q (F0 m 29 ls [])) :
    ∀ k, k ≤ 3 → ∀ (ls : Array Slot) (H : Heap) (locs : List Loc), lv_has ls 2 [(0, .ref go), (1, .int (nI (8 + 2 * k)))] → va_P D classes [(go, .inr (2, [.ref ga])), (ga, .inl (cI, 21, .inl (fun j => nI ((ddL ro k) j))))] H → va_D A [(go, .inr (2, [.ref ga])), (ga, .inl (cI, 21, .inl (fun j => nI ((ddL ro k) j))))] → va_S A H0 H locs → W p l e R s m args below meth c H locs cells slots Q (F0 m 3 ls []) := by
  obtain ⟨hx, hb, hml, hown, hts⟩ := id S
  refine up_loop (fun k hkk ih => ?_)
  intro ls H locs hl hP hD hS
  refine lv_iload_n hx hb d_q_Layout_drawDots_3 rfl (lv_at hl 1 rfl) ?_
  refine lv_bipush (v := nI 12) hx hb d_q_Layout_drawDots_4 (by decide) ?_
  refine n_icmp_gt hx hb d_q_Layout_drawDots_6 (tgt := 29) rfl (by omega) (by omega) (fun g6 => ?_) (fun g6 => ?_)
  · skip
    obtain rfl : k = 3 := by omega
    exact kx ls H locs (lv_sub hl [0, 1] rfl) hP hD hS
  · skip
    refine lv_aload_n hx hb d_q_Layout_drawDots_9 rfl (lv_at hl 0 rfl) ?_
    refine lv_bipush (v := nI 6) hx hb d_q_Layout_drawDots_10 (by decide) ?_
    refine lv_iload_n hx hb d_q_Layout_drawDots_12 rfl (lv_at hl 1 rfl) ?_
    refine q_writeVv (n := 2) (As := [.int (nI 6), .int (nI (8 + 2 * k))]) (rest := []) (wc := [(go, .inr (2, [.ref ga])), (ga, .inl (cI, 21, .inl (fun j => nI ((ddL ro k) j))))]) (wr := []) (w1 := [(go, .inr (2, [.ref ga])), (ga, .inl (cI, 21, .inl (fun j => nI ((va_up (ddL ro k) 6 ((ddL ro k) 6 ^^^ 2 ^ (20 - (8 + 2 * k)))) j))))]) S (c_q_Grid_turnOver l D cI cC go ga (ddL ro k) 6 (8 + 2 * k) (by omega) (by omega) H.size) hK hP hD hA (q0 := 0) rfl rfl [0, 1] [] rfl rfl rfl rfl (by decide) rfl (q_goodV kw_62 kw_63 kw_64 kw_2 kw_65) (by decide +kernel) rfl rfl rfl ⟨Nat.le_trans (Nat.le_of_ble_eq_true rfl) hRf, Nat.le_trans (Nat.le_of_ble_eq_true rfl) hRl⟩ rfl hl.1 rfl (Nat.le_of_ble_eq_true rfl) d_q_Layout_drawDots_13 hRc hS (fun H locs hP hD hS => ?_)
    replace hP : va_P D classes [(go, .inr (2, [.ref ga])), (ga, .inl (cI, 21, .inl (fun j => nI ((va_up (ddL ro k) 6 ((ddL ro k) 6 ^^^ 2 ^ (20 - (8 + 2 * k)))) j))))] H := hP.sub [0, 1] rfl
    replace hD : va_D A [(go, .inr (2, [.ref ga])), (ga, .inl (cI, 21, .inl (fun j => nI ((va_up (ddL ro k) 6 ((ddL ro k) 6 ^^^ 2 ^ (20 - (8 + 2 * k)))) j))))] := hD.sub [0, 1] rfl rfl
    refine lv_aload_n hx hb d_q_Layout_drawDots_16 rfl (lv_at hl 0 rfl) ?_
    refine lv_iload_n hx hb d_q_Layout_drawDots_17 rfl (lv_at hl 1 rfl) ?_
    refine lv_bipush (v := nI 6) hx hb d_q_Layout_drawDots_18 (by decide) ?_
    refine q_writeVv (n := 2) (As := [.int (nI (8 + 2 * k)), .int (nI 6)]) (rest := []) (wc := [(go, .inr (2, [.ref ga])), (ga, .inl (cI, 21, .inl (fun j => nI ((va_up (ddL ro k) 6 ((ddL ro k) 6 ^^^ 2 ^ (20 - (8 + 2 * k)))) j))))]) (wr := []) (w1 := [(go, .inr (2, [.ref ga])), (ga, .inl (cI, 21, .inl (fun j => nI ((va_up (va_up (ddL ro k) 6 ((ddL ro k) 6 ^^^ 2 ^ (20 - (8 + 2 * k)))) (8 + 2 * k) ((va_up (ddL ro k) 6 ((ddL ro k) 6 ^^^ 2 ^ (20 - (8 + 2 * k)))) (8 + 2 * k) ^^^ 2 ^ (20 - 6))) j))))]) S (c_q_Grid_turnOver l D cI cC go ga (va_up (ddL ro k) 6 ((ddL ro k) 6 ^^^ 2 ^ (20 - (8 + 2 * k)))) (8 + 2 * k) 6 (by omega) (by omega) H.size) hK hP hD hA (q0 := 0) rfl rfl [0, 1] [] rfl rfl rfl rfl (by decide) rfl (q_goodV kw_62 kw_63 kw_64 kw_2 kw_65) (by decide +kernel) rfl rfl rfl ⟨Nat.le_trans (Nat.le_of_ble_eq_true rfl) hRf, Nat.le_trans (Nat.le_of_ble_eq_true rfl) hRl⟩ rfl hl.1 rfl (Nat.le_of_ble_eq_true rfl) d_q_Layout_drawDots_20 hRc hS (fun H locs hP hD hS => ?_)
    replace hP : va_P D classes [(go, .inr (2, [.ref ga])), (ga, .inl (cI, 21, .inl (fun j => nI ((va_up (va_up (ddL ro k) 6 ((ddL ro k) 6 ^^^ 2 ^ (20 - (8 + 2 * k)))) (8 + 2 * k) ((va_up (ddL ro k) 6 ((ddL ro k) 6 ^^^ 2 ^ (20 - (8 + 2 * k)))) (8 + 2 * k) ^^^ 2 ^ (20 - 6))) j))))] H := hP.sub [0, 1] rfl
    replace hD : va_D A [(go, .inr (2, [.ref ga])), (ga, .inl (cI, 21, .inl (fun j => nI ((va_up (va_up (ddL ro k) 6 ((ddL ro k) 6 ^^^ 2 ^ (20 - (8 + 2 * k)))) (8 + 2 * k) ((va_up (ddL ro k) 6 ((ddL ro k) 6 ^^^ 2 ^ (20 - (8 + 2 * k)))) (8 + 2 * k) ^^^ 2 ^ (20 - 6))) j))))] := hD.sub [0, 1] rfl rfl
    refine lv_iinc (k := 1) (v := nI (8 + 2 * (k + 1))) hx hb d_q_Layout_drawDots_23 hl rfl ((nx_inc (8 + 2 * k) 2).trans (congrArg nI (by omega))) (Nat.le_of_ble_eq_true rfl) rfl (fun ls hl => ?_)
    have hl : lv_has ls 2 [(1, .int (nI (8 + 2 * (k + 1)))), (0, .ref go)] := hl
    refine lv_goto hx hb d_q_Layout_drawDots_26 (tgt := 3) rfl ?_
    rw [show va_up (va_up (ddL ro k) 6 ((ddL ro k) 6 ^^^ 2 ^ (20 - (8 + 2 * k)))) (8 + 2 * k) ((va_up (ddL ro k) 6 ((ddL ro k) 6 ^^^ 2 ^ (20 - (8 + 2 * k)))) (8 + 2 * k) ^^^ 2 ^ (20 - 6)) = ddL ro (k + 1) from rfl] at hP hD
    exact ih (by omega) ls H locs (lv_sub hl [1, 0] rfl) hP hD hS
set_option maxHeartbeats 1000000 in
set_option maxRecDepth 100000 in
theorem bd_q_Layout_drawDots (cI cC : ClassId) (go ga : Nat) (ro : Nat → Nat) (S : CallFix p m c b_q_Layout_drawDots 2 s args (cd_q_Layout_drawDots :: WS) R_Layout) (hRf : 1 ≤ R.frames) (hRl : 22 ≤ R.locals) (hRc : cells ≤ R.cells ∧ slots ≤ R.slots) (hK : va_K D classes [(cI, .int), (cC, .char)] s) (hA : ∀ q, H0.size ≤ q → A q) (kr : ∀ (pc : Nat) (ls : Array Slot) (H : Heap) (locs : List Loc), decode b_q_Layout_drawDots pc = .ok (.return_, 1) → va_P D classes [(go, .inr (2, [.ref ga])), (ga, .inl (cI, 21, .inl (fun j => nI ((va_up (ddL ro 3) 13 (ddL ro 3 13 ^^^ 2 ^ (20 - 8))) j))))] H → va_D A [(go, .inr (2, [.ref ga])), (ga, .inl (cI, 21, .inl (fun j => nI ((va_up (ddL ro 3) 13 (ddL ro 3 13 ^^^ 2 ^ (20 - 8))) j))))] → va_S A H0 H locs → W p l e R s m args below meth c H locs cells slots Q (F0 m pc ls [])) : ∀ (ls : Array Slot) (H : Heap) (locs : List Loc), lv_has ls 2 [(0, .ref go)] → va_P D classes [(go, .inr (2, [.ref ga])), (ga, .inl (cI, 21, .inl (fun j => nI (ro j))))] H → va_D A [(go, .inr (2, [.ref ga])), (ga, .inl (cI, 21, .inl (fun j => nI (ro j))))] → va_S A H0 H locs → W p l e R s m args below meth c H locs cells slots Q (F0 m 0 ls []) := by
  obtain ⟨hx, hb, hml, hown, hts⟩ := id S
  intro ls H locs hl hP hD hS
  refine lv_bipush (v := nI 8) hx hb d_q_Layout_drawDots_0 (by decide) ?_
  refine lv_istore_n hx hb d_q_Layout_drawDots_2 rfl hl (Nat.le_of_ble_eq_true rfl) rfl (fun ls hl => ?_)
  have hl : lv_has ls 2 [(1, .int (nI 8)), (0, .ref go)] := hl
  refine lp_q_Layout_drawDots_3 cI cC go ga ro  S hRf hRl hRc hK hA  (fun ls H locs hl hP hD hS => ?_) 0 (by omega) ls H locs (lv_sub hl [1, 0] rfl) hP hD hS
  refine lv_aload_n hx hb d_q_Layout_drawDots_29 rfl (lv_at hl 0 rfl) ?_
  refine lv_bipush (v := nI 13) hx hb d_q_Layout_drawDots_30 (by decide) ?_
  refine lv_bipush (v := nI 8) hx hb d_q_Layout_drawDots_32 (by decide) ?_
  refine q_writeVv (n := 2) (As := [.int (nI 13), .int (nI 8)]) (rest := []) (wc := [(go, .inr (2, [.ref ga])), (ga, .inl (cI, 21, .inl (fun j => nI ((ddL ro 3) j))))]) (wr := []) (w1 := [(go, .inr (2, [.ref ga])), (ga, .inl (cI, 21, .inl (fun j => nI ((va_up (ddL ro 3) 13 ((ddL ro 3) 13 ^^^ 2 ^ (20 - 8))) j))))]) S (c_q_Grid_turnOver l D cI cC go ga (ddL ro 3) 13 8 (by omega) (by omega) H.size) hK hP hD hA (q0 := 0) rfl rfl [0, 1] [] rfl rfl rfl rfl (by decide) rfl (q_goodV kw_62 kw_63 kw_64 kw_2 kw_65) (by decide +kernel) rfl rfl rfl ⟨Nat.le_trans (Nat.le_of_ble_eq_true rfl) hRf, Nat.le_trans (Nat.le_of_ble_eq_true rfl) hRl⟩ rfl hl.1 rfl (Nat.le_of_ble_eq_true rfl) d_q_Layout_drawDots_34 hRc hS (fun H locs hP hD hS => ?_)
  replace hP : va_P D classes [(go, .inr (2, [.ref ga])), (ga, .inl (cI, 21, .inl (fun j => nI ((va_up (ddL ro 3) 13 ((ddL ro 3) 13 ^^^ 2 ^ (20 - 8))) j))))] H := hP.sub [0, 1] rfl
  replace hD : va_D A [(go, .inr (2, [.ref ga])), (ga, .inl (cI, 21, .inl (fun j => nI ((va_up (ddL ro 3) 13 ((ddL ro 3) 13 ^^^ 2 ^ (20 - 8))) j))))] := hD.sub [0, 1] rfl rfl
  exact kr _ ls H locs d_q_Layout_drawDots_37 hP hD hS
set_option maxHeartbeats 1000000 in
set_option maxRecDepth 100000 in
theorem c_q_Layout_drawDots (l : Launch) (D : va_G) (cI cC : ClassId) (go ga : Nat) (ro : Nat → Nat) (sz : Nat) : Met l y_q_Layout_drawDots (cd_q_Layout_drawDots :: WS) { frames := 1, cells := 0, slots := 0, locals := 22 } (va_Pc [.ref go] (wP D [(go, .inr (2, [.ref ga])), (ga, .inl (cI, 21, .inl (fun j => nI (ro j))))] [(cI, .int), (cC, .char)] sz)) (wQv D [(go, .inr (2, [.ref ga])), (ga, .inl (cI, 21, .inl (fun j => nI (ro j))))] [(go, .inr (2, [.ref ga])), (ga, .inl (cI, 21, .inl (fun j => nI ((va_up (ddL ro 3) 13 (ddL ro 3 13 ^^^ 2 ^ (20 - 8))) j))))] sz) 0 0 (va_A [(go, .inr (2, [.ref ga])), (ga, .inl (cI, 21, .inl (fun j => nI (ro j))))] sz) := by
  refine Met.ofW (cc := b_q_Layout_drawDots) (maxL := 2) (ret := none) (by decide) rfl ?_
  intro p e s m args below meth c s₁ B hml hv0
  obtain ⟨rfl, hP, hK, hD0, hsz⟩ := hv0
  have hts := atoms_spec (ws := cd_q_Layout_drawDots :: WS) B.pre
  have hown : s.vm.findClass R_Layout = some m.cls := findClass_of_methodNamed B.named
  have hlocks := B.notSynchronized
  subst hsz
  have hD := hD0.self (sz := s.heap.size)
  have hl := lv_entry ([.ref go]) (n := 2) (Nat.le_of_ble_eq_true rfl)
  rw [lg_entry_eq]
  generalize (lg_sl ([.ref go]) ++ List.replicate (2 - (lg_sl ([.ref go])).length) Slot.unset).toArray = ls at hl ⊢
  refine bd_q_Layout_drawDots cI cC go ga ro  ⟨B.exec, B.bytes, hml, hown, hts⟩ (Nat.le_refl _) (Nat.le_refl _) ⟨Nat.le_refl _, Nat.le_refl _⟩ hK (fun q h => Or.inr h) (fun pc ls H locs hd hP hD hS => ?_) ls _ _ hl hP hD (va_S.rf)
  exact W.vret B.exec B.bytes B.returns (fun t ht _ => ⟨⟨(), rfl, trivial, (by have h9 := hP; rw [← ht] at h9; exact h9)⟩, hS.F ht⟩) hS.2.2 hd
end
section
theorem d_q_Layout_fillOrder_0 : decode b_q_Layout_fillOrder 0 = .ok (.iconst 0, 1) := by decide +kernel
theorem d_q_Layout_fillOrder_1 : decode b_q_Layout_fillOrder 1 = .ok (.istore_n 2, 1) := by decide +kernel
theorem d_q_Layout_fillOrder_2 : decode b_q_Layout_fillOrder 2 = .ok (.iconst 0, 1) := by decide +kernel
theorem d_q_Layout_fillOrder_3 : decode b_q_Layout_fillOrder 3 = .ok (.istore_n 3, 1) := by decide +kernel
theorem d_q_Layout_fillOrder_4 : decode b_q_Layout_fillOrder 4 = .ok (.iload_n 3, 1) := by decide +kernel
theorem d_q_Layout_fillOrder_5 : decode b_q_Layout_fillOrder 5 = .ok (.bipush 10, 2) := by decide +kernel
theorem d_q_Layout_fillOrder_7 : decode b_q_Layout_fillOrder 7 = .ok (.if_icmp .ge 109, 3) := by decide +kernel
theorem d_q_Layout_fillOrder_10 : decode b_q_Layout_fillOrder 10 = .ok (.iload_n 3, 1) := by decide +kernel
theorem d_q_Layout_fillOrder_11 : decode b_q_Layout_fillOrder 11 = .ok (.bipush 7, 2) := by decide +kernel
theorem d_q_Layout_fillOrder_13 : decode b_q_Layout_fillOrder 13 = .ok (.if_icmp .ge 12, 3) := by decide +kernel
theorem d_q_Layout_fillOrder_16 : decode b_q_Layout_fillOrder 16 = .ok (.bipush 20, 2) := by decide +kernel
theorem d_q_Layout_fillOrder_18 : decode b_q_Layout_fillOrder 18 = .ok (.iconst 2, 1) := by decide +kernel
theorem d_q_Layout_fillOrder_19 : decode b_q_Layout_fillOrder 19 = .ok (.iload_n 3, 1) := by decide +kernel
theorem d_q_Layout_fillOrder_20 : decode b_q_Layout_fillOrder 20 = .ok (.imul, 1) := by decide +kernel
theorem d_q_Layout_fillOrder_21 : decode b_q_Layout_fillOrder 21 = .ok (.isub, 1) := by decide +kernel
theorem d_q_Layout_fillOrder_22 : decode b_q_Layout_fillOrder 22 = .ok (.goto 9, 3) := by decide +kernel
theorem d_q_Layout_fillOrder_25 : decode b_q_Layout_fillOrder 25 = .ok (.bipush 19, 2) := by decide +kernel
theorem d_q_Layout_fillOrder_27 : decode b_q_Layout_fillOrder 27 = .ok (.iconst 2, 1) := by decide +kernel
theorem d_q_Layout_fillOrder_28 : decode b_q_Layout_fillOrder 28 = .ok (.iload_n 3, 1) := by decide +kernel
theorem d_q_Layout_fillOrder_29 : decode b_q_Layout_fillOrder 29 = .ok (.imul, 1) := by decide +kernel
theorem d_q_Layout_fillOrder_30 : decode b_q_Layout_fillOrder 30 = .ok (.isub, 1) := by decide +kernel
theorem d_q_Layout_fillOrder_31 : decode b_q_Layout_fillOrder 31 = .ok (.istore 4, 2) := by decide +kernel
theorem d_q_Layout_fillOrder_33 : decode b_q_Layout_fillOrder 33 = .ok (.iconst 0, 1) := by decide +kernel
theorem d_q_Layout_fillOrder_34 : decode b_q_Layout_fillOrder 34 = .ok (.istore 5, 2) := by decide +kernel
theorem d_q_Layout_fillOrder_36 : decode b_q_Layout_fillOrder 36 = .ok (.iload 5, 2) := by decide +kernel
theorem d_q_Layout_fillOrder_38 : decode b_q_Layout_fillOrder 38 = .ok (.bipush 42, 2) := by decide +kernel
theorem d_q_Layout_fillOrder_40 : decode b_q_Layout_fillOrder 40 = .ok (.if_icmp .ge 70, 3) := by decide +kernel
theorem d_q_Layout_fillOrder_43 : decode b_q_Layout_fillOrder 43 = .ok (.iload_n 3, 1) := by decide +kernel
theorem d_q_Layout_fillOrder_44 : decode b_q_Layout_fillOrder 44 = .ok (.iconst 2, 1) := by decide +kernel
theorem d_q_Layout_fillOrder_45 : decode b_q_Layout_fillOrder 45 = .ok (.irem, 1) := by decide +kernel
theorem d_q_Layout_fillOrder_46 : decode b_q_Layout_fillOrder 46 = .ok (.ifCond .ne 13, 3) := by decide +kernel
theorem d_q_Layout_fillOrder_49 : decode b_q_Layout_fillOrder 49 = .ok (.bipush 20, 2) := by decide +kernel
theorem d_q_Layout_fillOrder_51 : decode b_q_Layout_fillOrder 51 = .ok (.iload 5, 2) := by decide +kernel
theorem d_q_Layout_fillOrder_53 : decode b_q_Layout_fillOrder 53 = .ok (.iconst 2, 1) := by decide +kernel
theorem d_q_Layout_fillOrder_54 : decode b_q_Layout_fillOrder 54 = .ok (.idiv, 1) := by decide +kernel
theorem d_q_Layout_fillOrder_55 : decode b_q_Layout_fillOrder 55 = .ok (.isub, 1) := by decide +kernel
theorem d_q_Layout_fillOrder_56 : decode b_q_Layout_fillOrder 56 = .ok (.goto 7, 3) := by decide +kernel
theorem d_q_Layout_fillOrder_59 : decode b_q_Layout_fillOrder 59 = .ok (.iload 5, 2) := by decide +kernel
theorem d_q_Layout_fillOrder_61 : decode b_q_Layout_fillOrder 61 = .ok (.iconst 2, 1) := by decide +kernel
theorem d_q_Layout_fillOrder_62 : decode b_q_Layout_fillOrder 62 = .ok (.idiv, 1) := by decide +kernel
theorem d_q_Layout_fillOrder_63 : decode b_q_Layout_fillOrder 63 = .ok (.istore 6, 2) := by decide +kernel
theorem d_q_Layout_fillOrder_65 : decode b_q_Layout_fillOrder 65 = .ok (.iload 4, 2) := by decide +kernel
theorem d_q_Layout_fillOrder_67 : decode b_q_Layout_fillOrder 67 = .ok (.iload 5, 2) := by decide +kernel
theorem d_q_Layout_fillOrder_69 : decode b_q_Layout_fillOrder 69 = .ok (.iconst 2, 1) := by decide +kernel
theorem d_q_Layout_fillOrder_70 : decode b_q_Layout_fillOrder 70 = .ok (.irem, 1) := by decide +kernel
theorem d_q_Layout_fillOrder_71 : decode b_q_Layout_fillOrder 71 = .ok (.isub, 1) := by decide +kernel
theorem d_q_Layout_fillOrder_72 : decode b_q_Layout_fillOrder 72 = .ok (.istore 7, 2) := by decide +kernel
theorem d_q_Layout_fillOrder_74 : decode b_q_Layout_fillOrder 74 = .ok (.iload 6, 2) := by decide +kernel
theorem d_q_Layout_fillOrder_76 : decode b_q_Layout_fillOrder 76 = .ok (.iload 7, 2) := by decide +kernel
theorem d_q_Layout_fillOrder_78 : decode b_q_Layout_fillOrder 78 = .ok (.invokestatic 48, 3) := by decide +kernel
theorem d_q_Layout_fillOrder_81 : decode b_q_Layout_fillOrder 81 = .ok (.ifCond .eq 23, 3) := by decide +kernel
theorem d_q_Layout_fillOrder_84 : decode b_q_Layout_fillOrder 84 = .ok (.iload_n 2, 1) := by decide +kernel
theorem d_q_Layout_fillOrder_85 : decode b_q_Layout_fillOrder 85 = .ok (.sipush 208, 3) := by decide +kernel
theorem d_q_Layout_fillOrder_88 : decode b_q_Layout_fillOrder 88 = .ok (.if_icmp .ge 16, 3) := by decide +kernel
theorem d_q_Layout_fillOrder_91 : decode b_q_Layout_fillOrder 91 = .ok (.aload_n 0, 1) := by decide +kernel
theorem d_q_Layout_fillOrder_92 : decode b_q_Layout_fillOrder 92 = .ok (.iload_n 2, 1) := by decide +kernel
theorem d_q_Layout_fillOrder_93 : decode b_q_Layout_fillOrder 93 = .ok (.iload 6, 2) := by decide +kernel
theorem d_q_Layout_fillOrder_95 : decode b_q_Layout_fillOrder 95 = .ok (.iastore, 1) := by decide +kernel
theorem d_q_Layout_fillOrder_96 : decode b_q_Layout_fillOrder 96 = .ok (.aload_n 1, 1) := by decide +kernel
theorem d_q_Layout_fillOrder_97 : decode b_q_Layout_fillOrder 97 = .ok (.iload_n 2, 1) := by decide +kernel
theorem d_q_Layout_fillOrder_98 : decode b_q_Layout_fillOrder 98 = .ok (.iload 7, 2) := by decide +kernel
theorem d_q_Layout_fillOrder_100 : decode b_q_Layout_fillOrder 100 = .ok (.iastore, 1) := by decide +kernel
theorem d_q_Layout_fillOrder_101 : decode b_q_Layout_fillOrder 101 = .ok (.iinc 2 1, 3) := by decide +kernel
theorem d_q_Layout_fillOrder_104 : decode b_q_Layout_fillOrder 104 = .ok (.iinc 5 1, 3) := by decide +kernel
theorem d_q_Layout_fillOrder_107 : decode b_q_Layout_fillOrder 107 = .ok (.goto (-71), 3) := by decide +kernel
theorem d_q_Layout_fillOrder_110 : decode b_q_Layout_fillOrder 110 = .ok (.iinc 3 1, 3) := by decide +kernel
theorem d_q_Layout_fillOrder_113 : decode b_q_Layout_fillOrder 113 = .ok (.goto (-109), 3) := by decide +kernel
theorem d_q_Layout_fillOrder_116 : decode b_q_Layout_fillOrder 116 = .ok (.return_, 1) := by decide +kernel
end
section
variable {p : Program} {l : Launch} {e : Env} {R : Room} {s : State} {m : MethodId} {args : Array Value} {below : List Frame} {meth : Method} {c : Code} {cells slots : Nat} {Q : State → Prop} {A : Nat → Prop} {H0 : Heap} {D : va_G}
set_option maxHeartbeats 1000000 in
set_option maxRecDepth 100000 in
theorem lp_q_Layout_fillOrder_36 (cI cC : ClassId) (ra ca : Nat) (rx cx : Nat → Nat) (S : CallFix p m c b_q_Layout_fillOrder 8 s args (cd_q_Layout_fillOrder :: WS) R_Layout) (hRf : 1 ≤ R.frames) (hRl : 22 ≤ R.locals) (hRc : cells ≤ R.cells ∧ slots ≤ R.slots) (hK : va_K D classes [(cI, .int), (cC, .char)] s) (hA : ∀ q, H0.size ≤ q → A q) (q : Nat) (hq : q < 10) (kx : ∀ (ls : Array Slot) (H : Heap) (locs : List Loc), lv_has ls 8 [(0, .ref ra), (1, .ref ca), (2, .int (nI ((fuJ (fuI rx cx q) q 42).1))), (3, .int (nI q)), (4, .int (nI (fuK q))), (5, .int (nI 42))] → va_P D classes [(ra, .inl (cI, 208, .inl (fun j => nI (((fuJ (fuI rx cx q) q 42).2.1) j)))), (ca, .inl (cI, 208, .inl (fun j => nI (((fuJ (fuI rx cx q) q 42).2.2) j))))] H → va_D A [(ra, .inl (cI, 208, .inl (fun j => nI (((fuJ (fuI rx cx q) q 42).2.1) j)))), (ca, .inl (cI, 208, .inl (fun j => nI (((fuJ (fuI rx cx q) q 42).2.2) j))))] → va_S A H0 H locs → W p l e R s m args below meth c H locs cells slots Q (F0 m 110 ls [])) :
    ∀ i, i ≤ 42 → ∀ (ls : Array Slot) (H : Heap) (locs : List Loc), lv_has ls 8 [(0, .ref ra), (1, .ref ca), (2, .int (nI ((fuJ (fuI rx cx q) q i).1))), (3, .int (nI q)), (4, .int (nI (fuK q))), (5, .int (nI i))] → va_P D classes [(ra, .inl (cI, 208, .inl (fun j => nI (((fuJ (fuI rx cx q) q i).2.1) j)))), (ca, .inl (cI, 208, .inl (fun j => nI (((fuJ (fuI rx cx q) q i).2.2) j))))] H → va_D A [(ra, .inl (cI, 208, .inl (fun j => nI (((fuJ (fuI rx cx q) q i).2.1) j)))), (ca, .inl (cI, 208, .inl (fun j => nI (((fuJ (fuI rx cx q) q i).2.2) j))))] → va_S A H0 H locs → W p l e R s m args below meth c H locs cells slots Q (F0 m 36 ls []) := by
  obtain ⟨hx, hb, hml, hown, hts⟩ := id S
  refine up_loop (fun i hki ih => ?_)
  intro ls H locs hl hP hD hS
  have hfn := fuJ_le (fuI rx cx q) q i (fuI_le rx cx q)
  have hfk := fuK_in hq
  have hbn := bN_le (isDt (fuR q i) (fuK q - i % 2))
  refine lv_iload hx hb d_q_Layout_fillOrder_36 (lv_at hl 5 rfl) ?_
  refine lv_bipush (v := nI 42) hx hb d_q_Layout_fillOrder_38 (by decide) ?_
  refine n_icmp_ge hx hb d_q_Layout_fillOrder_40 (tgt := 110) rfl (by omega) (by omega) (fun g40 => ?_) (fun g40 => ?_)
  · skip
    obtain rfl : i = 42 := by omega
    exact kx ls H locs (lv_sub hl [0, 1, 2, 3, 4, 5] rfl) hP hD hS
  · skip
    refine lv_iload_n hx hb d_q_Layout_fillOrder_43 rfl (lv_at hl 3 rfl) ?_
    refine lv_iconst (v := nI 2) hx hb d_q_Layout_fillOrder_44 (by decide) ?_
    refine n_irem hx hb d_q_Layout_fillOrder_45 (by omega) (by omega) (by omega) ?_
    refine n_if_ne hx hb d_q_Layout_fillOrder_46 (tgt := 59) rfl (by omega) (fun g46 => ?_) (fun g46 => ?_)
    · skip
      refine lv_iload hx hb d_q_Layout_fillOrder_59 (lv_at hl 5 rfl) ?_
      refine lv_iconst (v := nI 2) hx hb d_q_Layout_fillOrder_61 (by decide) ?_
      refine n_idiv hx hb d_q_Layout_fillOrder_62 (by omega) (by omega) (by omega) ?_
      refine n_topn (show i / 2 = fuR q i from (by unfold fuR; split <;> omega)) ?_
      refine lv_istore hx hb d_q_Layout_fillOrder_63 hl (Nat.le_of_ble_eq_true rfl) rfl (fun ls hl => ?_)
      have hl : lv_has ls 8 [(6, .int (nI (fuR q i))), (0, .ref ra), (1, .ref ca), (2, .int (nI ((fuJ (fuI rx cx q) q i).1))), (3, .int (nI q)), (4, .int (nI (fuK q))), (5, .int (nI i))] := hl
      have hfr := fuR_in q (show i < 42 by omega)
      refine lv_iload hx hb d_q_Layout_fillOrder_65 (lv_at hl 5 rfl) ?_
      refine lv_iload hx hb d_q_Layout_fillOrder_67 (lv_at hl 6 rfl) ?_
      refine lv_iconst (v := nI 2) hx hb d_q_Layout_fillOrder_69 (by decide) ?_
      refine n_irem hx hb d_q_Layout_fillOrder_70 (by omega) (by omega) (by omega) ?_
      refine n_isub hx hb d_q_Layout_fillOrder_71 (by omega) ?_
      refine lv_istore hx hb d_q_Layout_fillOrder_72 hl (Nat.le_of_ble_eq_true rfl) rfl (fun ls hl => ?_)
      have hl : lv_has ls 8 [(7, .int (nI ((fuK q) - (i % 2)))), (6, .int (nI (fuR q i))), (0, .ref ra), (1, .ref ca), (2, .int (nI ((fuJ (fuI rx cx q) q i).1))), (3, .int (nI q)), (4, .int (nI (fuK q))), (5, .int (nI i))] := hl
      refine lv_iload hx hb d_q_Layout_fillOrder_74 (lv_at hl 1 rfl) ?_
      refine lv_iload hx hb d_q_Layout_fillOrder_76 (lv_at hl 0 rfl) ?_
      refine q_pureS (n := 2) (As := [.int (nI (fuR q i)), .int (nI ((fuK q) - (i % 2)))]) (rest := []) S (c_q_Layout_isData l (fuR q i) ((fuK q) - (i % 2)) (by omega) (by omega)) (q_goodS kw_76 kw_77 kw_3 kw_78) (by decide +kernel) rfl rfl ⟨Nat.le_trans (Nat.le_of_ble_eq_true rfl) hRf, Nat.le_trans (Nat.le_of_ble_eq_true rfl) hRl⟩ rfl hl.1 rfl (Nat.le_of_ble_eq_true rfl) d_q_Layout_fillOrder_78 hRc hS (fun H locs hkp hS => ?_)
      replace hP := hP.kept (fun k q hq => hkp q.1 (hP k q hq).lt)
      refine n_if_eq hx hb d_q_Layout_fillOrder_81 (tgt := 104) rfl (by omega) (fun g81 => ?_) (fun g81 => ?_)
      · skip
        refine lv_iinc (k := 7) (v := nI (i + 1)) hx hb d_q_Layout_fillOrder_104 hl rfl (nx_inc i 1) (Nat.le_of_ble_eq_true rfl) rfl (fun ls hl => ?_)
        have hl : lv_has ls 8 [(5, .int (nI (i + 1))), (7, .int (nI ((fuK q) - (i % 2)))), (6, .int (nI (fuR q i))), (0, .ref ra), (1, .ref ca), (2, .int (nI ((fuJ (fuI rx cx q) q i).1))), (3, .int (nI q)), (4, .int (nI (fuK q)))] := hl
        refine lv_goto hx hb d_q_Layout_fillOrder_107 (tgt := 36) rfl ?_
        have qb2 : (fuJ (fuI rx cx q) q i).1 = (fuJ (fuI rx cx q) q (i + 1)).1 := (by first | exact (fu_f (Or.inl (bN_e0.mp g81))).1.symm | exact (fu_f (Or.inr g88)).1.symm)
        rw [show (fuJ (fuI rx cx q) q i).2.1 = (fuJ (fuI rx cx q) q (i + 1)).2.1 from (by first | exact (fu_t (bN_ne0.mp g81) g88).2.1.symm | exact (fu_f (Or.inl (bN_e0.mp g81))).2.1.symm | exact (fu_f (Or.inr g88)).2.1.symm)] at hP hD
        rw [show (fuJ (fuI rx cx q) q i).2.2 = (fuJ (fuI rx cx q) q (i + 1)).2.2 from (by first | exact (fu_t (bN_ne0.mp g81) g88).2.2.symm | exact (fu_f (Or.inl (bN_e0.mp g81))).2.2.symm | exact (fu_f (Or.inr g88)).2.2.symm)] at hP hD
        exact ih (by omega) ls H locs (lv_re (l := [(0, .ref ra), (1, .ref ca), (2, .int (nI ((fuJ (fuI rx cx q) q i).1))), (3, .int (nI q)), (4, .int (nI (fuK q))), (5, .int (nI (i + 1)))]) (lv_sub hl [3, 4, 5, 6, 7, 0] rfl) (by rw [qb2])) hP hD hS
      · skip
        refine lv_iload_n hx hb d_q_Layout_fillOrder_84 rfl (lv_at hl 4 rfl) ?_
        refine lv_sipush (v := nI 208) hx hb d_q_Layout_fillOrder_85 (by decide) ?_
        refine n_icmp_ge hx hb d_q_Layout_fillOrder_88 (tgt := 104) rfl (by omega) (by omega) (fun g88 => ?_) (fun g88 => ?_)
        · skip
          refine lv_iinc (k := 7) (v := nI (i + 1)) hx hb d_q_Layout_fillOrder_104 hl rfl (nx_inc i 1) (Nat.le_of_ble_eq_true rfl) rfl (fun ls hl => ?_)
          have hl : lv_has ls 8 [(5, .int (nI (i + 1))), (7, .int (nI ((fuK q) - (i % 2)))), (6, .int (nI (fuR q i))), (0, .ref ra), (1, .ref ca), (2, .int (nI ((fuJ (fuI rx cx q) q i).1))), (3, .int (nI q)), (4, .int (nI (fuK q)))] := hl
          refine lv_goto hx hb d_q_Layout_fillOrder_107 (tgt := 36) rfl ?_
          have qb2 : (fuJ (fuI rx cx q) q i).1 = (fuJ (fuI rx cx q) q (i + 1)).1 := (by first | exact (fu_f (Or.inl (bN_e0.mp g81))).1.symm | exact (fu_f (Or.inr g88)).1.symm)
          rw [show (fuJ (fuI rx cx q) q i).2.1 = (fuJ (fuI rx cx q) q (i + 1)).2.1 from (by first | exact (fu_t (bN_ne0.mp g81) g88).2.1.symm | exact (fu_f (Or.inl (bN_e0.mp g81))).2.1.symm | exact (fu_f (Or.inr g88)).2.1.symm)] at hP hD
          rw [show (fuJ (fuI rx cx q) q i).2.2 = (fuJ (fuI rx cx q) q (i + 1)).2.2 from (by first | exact (fu_t (bN_ne0.mp g81) g88).2.2.symm | exact (fu_f (Or.inl (bN_e0.mp g81))).2.2.symm | exact (fu_f (Or.inr g88)).2.2.symm)] at hP hD
          exact ih (by omega) ls H locs (lv_re (l := [(0, .ref ra), (1, .ref ca), (2, .int (nI ((fuJ (fuI rx cx q) q i).1))), (3, .int (nI q)), (4, .int (nI (fuK q))), (5, .int (nI (i + 1)))]) (lv_sub hl [3, 4, 5, 6, 7, 0] rfl) (by rw [qb2])) hP hD hS
        · skip
          refine lv_aload_n hx hb d_q_Layout_fillOrder_91 rfl (lv_at hl 2 rfl) ?_
          refine lv_iload_n hx hb d_q_Layout_fillOrder_92 rfl (lv_at hl 4 rfl) ?_
          refine lv_iload hx hb d_q_Layout_fillOrder_93 (lv_at hl 1 rfl) ?_
          refine n_iast hx hb hK hP hD hS 0 0 rfl rfl (by omega) (by decide) d_q_Layout_fillOrder_95 (fun H locs hP hD hS => ?_)
          have hP : va_P D classes [(ra, .inl (cI, 208, .inl (fun j => nI ((va_up ((fuJ (fuI rx cx q) q i).2.1) ((fuJ (fuI rx cx q) q i).1) (fuR q i)) j)))), (ca, .inl (cI, 208, .inl (fun j => nI (((fuJ (fuI rx cx q) q i).2.2) j))))] H := hP
          have hD : va_D A [(ra, .inl (cI, 208, .inl (fun j => nI ((va_up ((fuJ (fuI rx cx q) q i).2.1) ((fuJ (fuI rx cx q) q i).1) (fuR q i)) j)))), (ca, .inl (cI, 208, .inl (fun j => nI (((fuJ (fuI rx cx q) q i).2.2) j))))] := hD
          refine lv_aload_n hx hb d_q_Layout_fillOrder_96 rfl (lv_at hl 3 rfl) ?_
          refine lv_iload_n hx hb d_q_Layout_fillOrder_97 rfl (lv_at hl 4 rfl) ?_
          refine lv_iload hx hb d_q_Layout_fillOrder_98 (lv_at hl 0 rfl) ?_
          refine n_iast hx hb hK hP hD hS 1 0 rfl rfl (by omega) (by decide) d_q_Layout_fillOrder_100 (fun H locs hP hD hS => ?_)
          have hP : va_P D classes [(ra, .inl (cI, 208, .inl (fun j => nI ((va_up ((fuJ (fuI rx cx q) q i).2.1) ((fuJ (fuI rx cx q) q i).1) (fuR q i)) j)))), (ca, .inl (cI, 208, .inl (fun j => nI ((va_up ((fuJ (fuI rx cx q) q i).2.2) ((fuJ (fuI rx cx q) q i).1) ((fuK q) - (i % 2))) j))))] H := hP
          have hD : va_D A [(ra, .inl (cI, 208, .inl (fun j => nI ((va_up ((fuJ (fuI rx cx q) q i).2.1) ((fuJ (fuI rx cx q) q i).1) (fuR q i)) j)))), (ca, .inl (cI, 208, .inl (fun j => nI ((va_up ((fuJ (fuI rx cx q) q i).2.2) ((fuJ (fuI rx cx q) q i).1) ((fuK q) - (i % 2))) j))))] := hD
          refine lv_iinc (k := 4) (v := nI ((fuJ (fuI rx cx q) q (i + 1)).1)) hx hb d_q_Layout_fillOrder_101 hl rfl ((nx_inc ((fuJ (fuI rx cx q) q i).1) 1).trans (congrArg nI (fu_t (bN_ne0.mp g81) g88).1.symm)) (Nat.le_of_ble_eq_true rfl) rfl (fun ls hl => ?_)
          have hl : lv_has ls 8 [(2, .int (nI ((fuJ (fuI rx cx q) q (i + 1)).1))), (7, .int (nI ((fuK q) - (i % 2)))), (6, .int (nI (fuR q i))), (0, .ref ra), (1, .ref ca), (3, .int (nI q)), (4, .int (nI (fuK q))), (5, .int (nI i))] := hl
          refine lv_iinc (k := 7) (v := nI (i + 1)) hx hb d_q_Layout_fillOrder_104 hl rfl (nx_inc i 1) (Nat.le_of_ble_eq_true rfl) rfl (fun ls hl => ?_)
          have hl : lv_has ls 8 [(5, .int (nI (i + 1))), (2, .int (nI ((fuJ (fuI rx cx q) q (i + 1)).1))), (7, .int (nI ((fuK q) - (i % 2)))), (6, .int (nI (fuR q i))), (0, .ref ra), (1, .ref ca), (3, .int (nI q)), (4, .int (nI (fuK q)))] := hl
          refine lv_goto hx hb d_q_Layout_fillOrder_107 (tgt := 36) rfl ?_
          rw [show va_up ((fuJ (fuI rx cx q) q i).2.1) ((fuJ (fuI rx cx q) q i).1) (fuR q i) = (fuJ (fuI rx cx q) q (i + 1)).2.1 from (by first | exact (fu_t (bN_ne0.mp g81) g88).2.1.symm | exact (fu_f (Or.inl (bN_e0.mp g81))).2.1.symm | exact (fu_f (Or.inr g88)).2.1.symm)] at hP hD
          rw [show va_up ((fuJ (fuI rx cx q) q i).2.2) ((fuJ (fuI rx cx q) q i).1) ((fuK q) - (i % 2)) = (fuJ (fuI rx cx q) q (i + 1)).2.2 from (by first | exact (fu_t (bN_ne0.mp g81) g88).2.2.symm | exact (fu_f (Or.inl (bN_e0.mp g81))).2.2.symm | exact (fu_f (Or.inr g88)).2.2.symm)] at hP hD
          exact ih (by omega) ls H locs (lv_sub hl [4, 5, 1, 6, 7, 0] rfl) hP hD hS
    · skip
      refine lv_bipush (v := nI 20) hx hb d_q_Layout_fillOrder_49 (by decide) ?_
      refine lv_iload hx hb d_q_Layout_fillOrder_51 (lv_at hl 5 rfl) ?_
      refine lv_iconst (v := nI 2) hx hb d_q_Layout_fillOrder_53 (by decide) ?_
      refine n_idiv hx hb d_q_Layout_fillOrder_54 (by omega) (by omega) (by omega) ?_
      refine n_isub hx hb d_q_Layout_fillOrder_55 (by omega) ?_
      refine lv_goto hx hb d_q_Layout_fillOrder_56 (tgt := 63) rfl ?_
      refine n_topn (show 20 - (i / 2) = fuR q i from (by unfold fuR; split <;> omega)) ?_
      refine lv_istore hx hb d_q_Layout_fillOrder_63 hl (Nat.le_of_ble_eq_true rfl) rfl (fun ls hl => ?_)
      have hl : lv_has ls 8 [(6, .int (nI (fuR q i))), (0, .ref ra), (1, .ref ca), (2, .int (nI ((fuJ (fuI rx cx q) q i).1))), (3, .int (nI q)), (4, .int (nI (fuK q))), (5, .int (nI i))] := hl
      have hfr := fuR_in q (show i < 42 by omega)
      refine lv_iload hx hb d_q_Layout_fillOrder_65 (lv_at hl 5 rfl) ?_
      refine lv_iload hx hb d_q_Layout_fillOrder_67 (lv_at hl 6 rfl) ?_
      refine lv_iconst (v := nI 2) hx hb d_q_Layout_fillOrder_69 (by decide) ?_
      refine n_irem hx hb d_q_Layout_fillOrder_70 (by omega) (by omega) (by omega) ?_
      refine n_isub hx hb d_q_Layout_fillOrder_71 (by omega) ?_
      refine lv_istore hx hb d_q_Layout_fillOrder_72 hl (Nat.le_of_ble_eq_true rfl) rfl (fun ls hl => ?_)
      have hl : lv_has ls 8 [(7, .int (nI ((fuK q) - (i % 2)))), (6, .int (nI (fuR q i))), (0, .ref ra), (1, .ref ca), (2, .int (nI ((fuJ (fuI rx cx q) q i).1))), (3, .int (nI q)), (4, .int (nI (fuK q))), (5, .int (nI i))] := hl
      refine lv_iload hx hb d_q_Layout_fillOrder_74 (lv_at hl 1 rfl) ?_
      refine lv_iload hx hb d_q_Layout_fillOrder_76 (lv_at hl 0 rfl) ?_
      refine q_pureS (n := 2) (As := [.int (nI (fuR q i)), .int (nI ((fuK q) - (i % 2)))]) (rest := []) S (c_q_Layout_isData l (fuR q i) ((fuK q) - (i % 2)) (by omega) (by omega)) (q_goodS kw_76 kw_77 kw_3 kw_78) (by decide +kernel) rfl rfl ⟨Nat.le_trans (Nat.le_of_ble_eq_true rfl) hRf, Nat.le_trans (Nat.le_of_ble_eq_true rfl) hRl⟩ rfl hl.1 rfl (Nat.le_of_ble_eq_true rfl) d_q_Layout_fillOrder_78 hRc hS (fun H locs hkp hS => ?_)
      replace hP := hP.kept (fun k q hq => hkp q.1 (hP k q hq).lt)
      refine n_if_eq hx hb d_q_Layout_fillOrder_81 (tgt := 104) rfl (by omega) (fun g81 => ?_) (fun g81 => ?_)
      · skip
        refine lv_iinc (k := 7) (v := nI (i + 1)) hx hb d_q_Layout_fillOrder_104 hl rfl (nx_inc i 1) (Nat.le_of_ble_eq_true rfl) rfl (fun ls hl => ?_)
        have hl : lv_has ls 8 [(5, .int (nI (i + 1))), (7, .int (nI ((fuK q) - (i % 2)))), (6, .int (nI (fuR q i))), (0, .ref ra), (1, .ref ca), (2, .int (nI ((fuJ (fuI rx cx q) q i).1))), (3, .int (nI q)), (4, .int (nI (fuK q)))] := hl
        refine lv_goto hx hb d_q_Layout_fillOrder_107 (tgt := 36) rfl ?_
        have qb2 : (fuJ (fuI rx cx q) q i).1 = (fuJ (fuI rx cx q) q (i + 1)).1 := (by first | exact (fu_f (Or.inl (bN_e0.mp g81))).1.symm | exact (fu_f (Or.inr g88)).1.symm)
        rw [show (fuJ (fuI rx cx q) q i).2.1 = (fuJ (fuI rx cx q) q (i + 1)).2.1 from (by first | exact (fu_t (bN_ne0.mp g81) g88).2.1.symm | exact (fu_f (Or.inl (bN_e0.mp g81))).2.1.symm | exact (fu_f (Or.inr g88)).2.1.symm)] at hP hD
        rw [show (fuJ (fuI rx cx q) q i).2.2 = (fuJ (fuI rx cx q) q (i + 1)).2.2 from (by first | exact (fu_t (bN_ne0.mp g81) g88).2.2.symm | exact (fu_f (Or.inl (bN_e0.mp g81))).2.2.symm | exact (fu_f (Or.inr g88)).2.2.symm)] at hP hD
        exact ih (by omega) ls H locs (lv_re (l := [(0, .ref ra), (1, .ref ca), (2, .int (nI ((fuJ (fuI rx cx q) q i).1))), (3, .int (nI q)), (4, .int (nI (fuK q))), (5, .int (nI (i + 1)))]) (lv_sub hl [3, 4, 5, 6, 7, 0] rfl) (by rw [qb2])) hP hD hS
      · skip
        refine lv_iload_n hx hb d_q_Layout_fillOrder_84 rfl (lv_at hl 4 rfl) ?_
        refine lv_sipush (v := nI 208) hx hb d_q_Layout_fillOrder_85 (by decide) ?_
        refine n_icmp_ge hx hb d_q_Layout_fillOrder_88 (tgt := 104) rfl (by omega) (by omega) (fun g88 => ?_) (fun g88 => ?_)
        · skip
          refine lv_iinc (k := 7) (v := nI (i + 1)) hx hb d_q_Layout_fillOrder_104 hl rfl (nx_inc i 1) (Nat.le_of_ble_eq_true rfl) rfl (fun ls hl => ?_)
          have hl : lv_has ls 8 [(5, .int (nI (i + 1))), (7, .int (nI ((fuK q) - (i % 2)))), (6, .int (nI (fuR q i))), (0, .ref ra), (1, .ref ca), (2, .int (nI ((fuJ (fuI rx cx q) q i).1))), (3, .int (nI q)), (4, .int (nI (fuK q)))] := hl
          refine lv_goto hx hb d_q_Layout_fillOrder_107 (tgt := 36) rfl ?_
          have qb2 : (fuJ (fuI rx cx q) q i).1 = (fuJ (fuI rx cx q) q (i + 1)).1 := (by first | exact (fu_f (Or.inl (bN_e0.mp g81))).1.symm | exact (fu_f (Or.inr g88)).1.symm)
          rw [show (fuJ (fuI rx cx q) q i).2.1 = (fuJ (fuI rx cx q) q (i + 1)).2.1 from (by first | exact (fu_t (bN_ne0.mp g81) g88).2.1.symm | exact (fu_f (Or.inl (bN_e0.mp g81))).2.1.symm | exact (fu_f (Or.inr g88)).2.1.symm)] at hP hD
          rw [show (fuJ (fuI rx cx q) q i).2.2 = (fuJ (fuI rx cx q) q (i + 1)).2.2 from (by first | exact (fu_t (bN_ne0.mp g81) g88).2.2.symm | exact (fu_f (Or.inl (bN_e0.mp g81))).2.2.symm | exact (fu_f (Or.inr g88)).2.2.symm)] at hP hD
          exact ih (by omega) ls H locs (lv_re (l := [(0, .ref ra), (1, .ref ca), (2, .int (nI ((fuJ (fuI rx cx q) q i).1))), (3, .int (nI q)), (4, .int (nI (fuK q))), (5, .int (nI (i + 1)))]) (lv_sub hl [3, 4, 5, 6, 7, 0] rfl) (by rw [qb2])) hP hD hS
        · skip
          refine lv_aload_n hx hb d_q_Layout_fillOrder_91 rfl (lv_at hl 2 rfl) ?_
          refine lv_iload_n hx hb d_q_Layout_fillOrder_92 rfl (lv_at hl 4 rfl) ?_
          refine lv_iload hx hb d_q_Layout_fillOrder_93 (lv_at hl 1 rfl) ?_
          refine n_iast hx hb hK hP hD hS 0 0 rfl rfl (by omega) (by decide) d_q_Layout_fillOrder_95 (fun H locs hP hD hS => ?_)
          have hP : va_P D classes [(ra, .inl (cI, 208, .inl (fun j => nI ((va_up ((fuJ (fuI rx cx q) q i).2.1) ((fuJ (fuI rx cx q) q i).1) (fuR q i)) j)))), (ca, .inl (cI, 208, .inl (fun j => nI (((fuJ (fuI rx cx q) q i).2.2) j))))] H := hP
          have hD : va_D A [(ra, .inl (cI, 208, .inl (fun j => nI ((va_up ((fuJ (fuI rx cx q) q i).2.1) ((fuJ (fuI rx cx q) q i).1) (fuR q i)) j)))), (ca, .inl (cI, 208, .inl (fun j => nI (((fuJ (fuI rx cx q) q i).2.2) j))))] := hD
          refine lv_aload_n hx hb d_q_Layout_fillOrder_96 rfl (lv_at hl 3 rfl) ?_
          refine lv_iload_n hx hb d_q_Layout_fillOrder_97 rfl (lv_at hl 4 rfl) ?_
          refine lv_iload hx hb d_q_Layout_fillOrder_98 (lv_at hl 0 rfl) ?_
          refine n_iast hx hb hK hP hD hS 1 0 rfl rfl (by omega) (by decide) d_q_Layout_fillOrder_100 (fun H locs hP hD hS => ?_)
          have hP : va_P D classes [(ra, .inl (cI, 208, .inl (fun j => nI ((va_up ((fuJ (fuI rx cx q) q i).2.1) ((fuJ (fuI rx cx q) q i).1) (fuR q i)) j)))), (ca, .inl (cI, 208, .inl (fun j => nI ((va_up ((fuJ (fuI rx cx q) q i).2.2) ((fuJ (fuI rx cx q) q i).1) ((fuK q) - (i % 2))) j))))] H := hP
          have hD : va_D A [(ra, .inl (cI, 208, .inl (fun j => nI ((va_up ((fuJ (fuI rx cx q) q i).2.1) ((fuJ (fuI rx cx q) q i).1) (fuR q i)) j)))), (ca, .inl (cI, 208, .inl (fun j => nI ((va_up ((fuJ (fuI rx cx q) q i).2.2) ((fuJ (fuI rx cx q) q i).1) ((fuK q) - (i % 2))) j))))] := hD
          refine lv_iinc (k := 4) (v := nI ((fuJ (fuI rx cx q) q (i + 1)).1)) hx hb d_q_Layout_fillOrder_101 hl rfl ((nx_inc ((fuJ (fuI rx cx q) q i).1) 1).trans (congrArg nI (fu_t (bN_ne0.mp g81) g88).1.symm)) (Nat.le_of_ble_eq_true rfl) rfl (fun ls hl => ?_)
          have hl : lv_has ls 8 [(2, .int (nI ((fuJ (fuI rx cx q) q (i + 1)).1))), (7, .int (nI ((fuK q) - (i % 2)))), (6, .int (nI (fuR q i))), (0, .ref ra), (1, .ref ca), (3, .int (nI q)), (4, .int (nI (fuK q))), (5, .int (nI i))] := hl
          refine lv_iinc (k := 7) (v := nI (i + 1)) hx hb d_q_Layout_fillOrder_104 hl rfl (nx_inc i 1) (Nat.le_of_ble_eq_true rfl) rfl (fun ls hl => ?_)
          have hl : lv_has ls 8 [(5, .int (nI (i + 1))), (2, .int (nI ((fuJ (fuI rx cx q) q (i + 1)).1))), (7, .int (nI ((fuK q) - (i % 2)))), (6, .int (nI (fuR q i))), (0, .ref ra), (1, .ref ca), (3, .int (nI q)), (4, .int (nI (fuK q)))] := hl
          refine lv_goto hx hb d_q_Layout_fillOrder_107 (tgt := 36) rfl ?_
          rw [show va_up ((fuJ (fuI rx cx q) q i).2.1) ((fuJ (fuI rx cx q) q i).1) (fuR q i) = (fuJ (fuI rx cx q) q (i + 1)).2.1 from (by first | exact (fu_t (bN_ne0.mp g81) g88).2.1.symm | exact (fu_f (Or.inl (bN_e0.mp g81))).2.1.symm | exact (fu_f (Or.inr g88)).2.1.symm)] at hP hD
          rw [show va_up ((fuJ (fuI rx cx q) q i).2.2) ((fuJ (fuI rx cx q) q i).1) ((fuK q) - (i % 2)) = (fuJ (fuI rx cx q) q (i + 1)).2.2 from (by first | exact (fu_t (bN_ne0.mp g81) g88).2.2.symm | exact (fu_f (Or.inl (bN_e0.mp g81))).2.2.symm | exact (fu_f (Or.inr g88)).2.2.symm)] at hP hD
          exact ih (by omega) ls H locs (lv_sub hl [4, 5, 1, 6, 7, 0] rfl) hP hD hS
set_option maxHeartbeats 1000000 in
set_option maxRecDepth 100000 in
theorem lp_q_Layout_fillOrder_4 (cI cC : ClassId) (ra ca : Nat) (rx cx : Nat → Nat) (S : CallFix p m c b_q_Layout_fillOrder 8 s args (cd_q_Layout_fillOrder :: WS) R_Layout) (hRf : 1 ≤ R.frames) (hRl : 22 ≤ R.locals) (hRc : cells ≤ R.cells ∧ slots ≤ R.slots) (hK : va_K D classes [(cI, .int), (cC, .char)] s) (hA : ∀ q, H0.size ≤ q → A q) (kx : ∀ (ls : Array Slot) (H : Heap) (locs : List Loc), lv_has ls 8 [(0, .ref ra), (1, .ref ca), (2, .int (nI ((fuI rx cx 10).1))), (3, .int (nI 10))] → va_P D classes [(ra, .inl (cI, 208, .inl (fun j => nI (((fuI rx cx 10).2.1) j)))), (ca, .inl (cI, 208, .inl (fun j => nI (((fuI rx cx 10).2.2) j))))] H → va_D A [(ra, .inl (cI, 208, .inl (fun j => nI (((fuI rx cx 10).2.1) j)))), (ca, .inl (cI, 208, .inl (fun j => nI (((fuI rx cx 10).2.2) j))))] → va_S A H0 H locs → W p l e R s m args below meth c H locs cells slots Q (F0 m 116 ls [])) :
    ∀ q, q ≤ 10 → ∀ (ls : Array Slot) (H : Heap) (locs : List Loc), lv_has ls 8 [(0, .ref ra), (1, .ref ca), (2, .int (nI ((fuI rx cx q).1))), (3, .int (nI q))] → va_P D classes [(ra, .inl (cI, 208, .inl (fun j => nI (((fuI rx cx q).2.1) j)))), (ca, .inl (cI, 208, .inl (fun j => nI (((fuI rx cx q).2.2) j))))] H → va_D A [(ra, .inl (cI, 208, .inl (fun j => nI (((fuI rx cx q).2.1) j)))), (ca, .inl (cI, 208, .inl (fun j => nI (((fuI rx cx q).2.2) j))))] → va_S A H0 H locs → W p l e R s m args below meth c H locs cells slots Q (F0 m 4 ls []) := by
  obtain ⟨hx, hb, hml, hown, hts⟩ := id S
  refine up_loop (fun q hkq ih => ?_)
  intro ls H locs hl hP hD hS
  refine lv_iload_n hx hb d_q_Layout_fillOrder_4 rfl (lv_at hl 3 rfl) ?_
  refine lv_bipush (v := nI 10) hx hb d_q_Layout_fillOrder_5 (by decide) ?_
  refine n_icmp_ge hx hb d_q_Layout_fillOrder_7 (tgt := 116) rfl (by omega) (by omega) (fun g7 => ?_) (fun g7 => ?_)
  · skip
    obtain rfl : q = 10 := by omega
    exact kx ls H locs (lv_sub hl [0, 1, 2, 3] rfl) hP hD hS
  · skip
    refine lv_iload_n hx hb d_q_Layout_fillOrder_10 rfl (lv_at hl 3 rfl) ?_
    refine lv_bipush (v := nI 7) hx hb d_q_Layout_fillOrder_11 (by decide) ?_
    refine n_icmp_ge hx hb d_q_Layout_fillOrder_13 (tgt := 25) rfl (by omega) (by omega) (fun g13 => ?_) (fun g13 => ?_)
    · skip
      refine lv_bipush (v := nI 19) hx hb d_q_Layout_fillOrder_25 (by decide) ?_
      refine lv_iconst (v := nI 2) hx hb d_q_Layout_fillOrder_27 (by decide) ?_
      refine lv_iload_n hx hb d_q_Layout_fillOrder_28 rfl (lv_at hl 3 rfl) ?_
      refine n_imul hx hb d_q_Layout_fillOrder_29 ?_
      refine n_isub hx hb d_q_Layout_fillOrder_30 (by omega) ?_
      refine n_topn (show 19 - (2 * q) = fuK q from (by unfold fuK; split <;> omega)) ?_
      refine lv_istore hx hb d_q_Layout_fillOrder_31 hl (Nat.le_of_ble_eq_true rfl) rfl (fun ls hl => ?_)
      have hl : lv_has ls 8 [(4, .int (nI (fuK q))), (0, .ref ra), (1, .ref ca), (2, .int (nI ((fuI rx cx q).1))), (3, .int (nI q))] := hl
      refine lv_iconst (v := nI 0) hx hb d_q_Layout_fillOrder_33 (by decide) ?_
      refine lv_istore hx hb d_q_Layout_fillOrder_34 hl (Nat.le_of_ble_eq_true rfl) rfl (fun ls hl => ?_)
      have hl : lv_has ls 8 [(5, .int (nI 0)), (4, .int (nI (fuK q))), (0, .ref ra), (1, .ref ca), (2, .int (nI ((fuI rx cx q).1))), (3, .int (nI q))] := hl
      refine lp_q_Layout_fillOrder_36 cI cC ra ca rx cx  S hRf hRl hRc hK hA q (by omega) (fun ls H locs hl hP hD hS => ?_) 0 (by omega) ls H locs (lv_sub hl [2, 3, 4, 5, 1, 0] rfl) hP hD hS
      refine lv_iinc (k := 3) (v := nI (q + 1)) hx hb d_q_Layout_fillOrder_110 hl rfl (nx_inc q 1) (Nat.le_of_ble_eq_true rfl) rfl (fun ls hl => ?_)
      have hl : lv_has ls 8 [(3, .int (nI (q + 1))), (0, .ref ra), (1, .ref ca), (2, .int (nI ((fuJ (fuI rx cx q) q 42).1))), (4, .int (nI (fuK q))), (5, .int (nI 42))] := hl
      refine lv_goto hx hb d_q_Layout_fillOrder_113 (tgt := 4) rfl ?_
      have qb2 : (fuJ (fuI rx cx q) q 42).1 = (fuI rx cx (q + 1)).1 := rfl
      rw [show (fuJ (fuI rx cx q) q 42).2.1 = (fuI rx cx (q + 1)).2.1 from rfl] at hP hD
      rw [show (fuJ (fuI rx cx q) q 42).2.2 = (fuI rx cx (q + 1)).2.2 from rfl] at hP hD
      exact ih (by omega) ls H locs (lv_re (l := [(0, .ref ra), (1, .ref ca), (2, .int (nI ((fuJ (fuI rx cx q) q 42).1))), (3, .int (nI (q + 1)))]) (lv_sub hl [1, 2, 3, 0] rfl) (by rw [qb2])) hP hD hS
    · skip
      refine lv_bipush (v := nI 20) hx hb d_q_Layout_fillOrder_16 (by decide) ?_
      refine lv_iconst (v := nI 2) hx hb d_q_Layout_fillOrder_18 (by decide) ?_
      refine lv_iload_n hx hb d_q_Layout_fillOrder_19 rfl (lv_at hl 3 rfl) ?_
      refine n_imul hx hb d_q_Layout_fillOrder_20 ?_
      refine n_isub hx hb d_q_Layout_fillOrder_21 (by omega) ?_
      refine lv_goto hx hb d_q_Layout_fillOrder_22 (tgt := 31) rfl ?_
      refine n_topn (show 20 - (2 * q) = fuK q from (by unfold fuK; split <;> omega)) ?_
      refine lv_istore hx hb d_q_Layout_fillOrder_31 hl (Nat.le_of_ble_eq_true rfl) rfl (fun ls hl => ?_)
      have hl : lv_has ls 8 [(4, .int (nI (fuK q))), (0, .ref ra), (1, .ref ca), (2, .int (nI ((fuI rx cx q).1))), (3, .int (nI q))] := hl
      refine lv_iconst (v := nI 0) hx hb d_q_Layout_fillOrder_33 (by decide) ?_
      refine lv_istore hx hb d_q_Layout_fillOrder_34 hl (Nat.le_of_ble_eq_true rfl) rfl (fun ls hl => ?_)
      have hl : lv_has ls 8 [(5, .int (nI 0)), (4, .int (nI (fuK q))), (0, .ref ra), (1, .ref ca), (2, .int (nI ((fuI rx cx q).1))), (3, .int (nI q))] := hl
      refine lp_q_Layout_fillOrder_36 cI cC ra ca rx cx  S hRf hRl hRc hK hA q (by omega) (fun ls H locs hl hP hD hS => ?_) 0 (by omega) ls H locs (lv_sub hl [2, 3, 4, 5, 1, 0] rfl) hP hD hS
      refine lv_iinc (k := 3) (v := nI (q + 1)) hx hb d_q_Layout_fillOrder_110 hl rfl (nx_inc q 1) (Nat.le_of_ble_eq_true rfl) rfl (fun ls hl => ?_)
      have hl : lv_has ls 8 [(3, .int (nI (q + 1))), (0, .ref ra), (1, .ref ca), (2, .int (nI ((fuJ (fuI rx cx q) q 42).1))), (4, .int (nI (fuK q))), (5, .int (nI 42))] := hl
      refine lv_goto hx hb d_q_Layout_fillOrder_113 (tgt := 4) rfl ?_
      have qb2 : (fuJ (fuI rx cx q) q 42).1 = (fuI rx cx (q + 1)).1 := rfl
      rw [show (fuJ (fuI rx cx q) q 42).2.1 = (fuI rx cx (q + 1)).2.1 from rfl] at hP hD
      rw [show (fuJ (fuI rx cx q) q 42).2.2 = (fuI rx cx (q + 1)).2.2 from rfl] at hP hD
      exact ih (by omega) ls H locs (lv_re (l := [(0, .ref ra), (1, .ref ca), (2, .int (nI ((fuJ (fuI rx cx q) q 42).1))), (3, .int (nI (q + 1)))]) (lv_sub hl [1, 2, 3, 0] rfl) (by rw [qb2])) hP hD hS
set_option maxHeartbeats 1000000 in
set_option maxRecDepth 100000 in
theorem bd_q_Layout_fillOrder (cI cC : ClassId) (ra ca : Nat) (rx cx : Nat → Nat) (S : CallFix p m c b_q_Layout_fillOrder 8 s args (cd_q_Layout_fillOrder :: WS) R_Layout) (hRf : 1 ≤ R.frames) (hRl : 22 ≤ R.locals) (hRc : cells ≤ R.cells ∧ slots ≤ R.slots) (hK : va_K D classes [(cI, .int), (cC, .char)] s) (hA : ∀ q, H0.size ≤ q → A q) (kr : ∀ (pc : Nat) (ls : Array Slot) (H : Heap) (locs : List Loc), decode b_q_Layout_fillOrder pc = .ok (.return_, 1) → va_P D classes [(ra, .inl (cI, 208, .inl (fun j => nI (((fuI rx cx 10).2.1) j)))), (ca, .inl (cI, 208, .inl (fun j => nI (((fuI rx cx 10).2.2) j))))] H → va_D A [(ra, .inl (cI, 208, .inl (fun j => nI (((fuI rx cx 10).2.1) j)))), (ca, .inl (cI, 208, .inl (fun j => nI (((fuI rx cx 10).2.2) j))))] → va_S A H0 H locs → W p l e R s m args below meth c H locs cells slots Q (F0 m pc ls [])) : ∀ (ls : Array Slot) (H : Heap) (locs : List Loc), lv_has ls 8 [(0, .ref ra), (1, .ref ca)] → va_P D classes [(ra, .inl (cI, 208, .inl (fun j => nI (rx j)))), (ca, .inl (cI, 208, .inl (fun j => nI (cx j))))] H → va_D A [(ra, .inl (cI, 208, .inl (fun j => nI (rx j)))), (ca, .inl (cI, 208, .inl (fun j => nI (cx j))))] → va_S A H0 H locs → W p l e R s m args below meth c H locs cells slots Q (F0 m 0 ls []) := by
  obtain ⟨hx, hb, hml, hown, hts⟩ := id S
  intro ls H locs hl hP hD hS
  refine lv_iconst (v := nI 0) hx hb d_q_Layout_fillOrder_0 (by decide) ?_
  refine lv_istore_n hx hb d_q_Layout_fillOrder_1 rfl hl (Nat.le_of_ble_eq_true rfl) rfl (fun ls hl => ?_)
  have hl : lv_has ls 8 [(2, .int (nI 0)), (0, .ref ra), (1, .ref ca)] := hl
  refine lv_iconst (v := nI 0) hx hb d_q_Layout_fillOrder_2 (by decide) ?_
  refine lv_istore_n hx hb d_q_Layout_fillOrder_3 rfl hl (Nat.le_of_ble_eq_true rfl) rfl (fun ls hl => ?_)
  have hl : lv_has ls 8 [(3, .int (nI 0)), (2, .int (nI 0)), (0, .ref ra), (1, .ref ca)] := hl
  refine lp_q_Layout_fillOrder_4 cI cC ra ca rx cx  S hRf hRl hRc hK hA  (fun ls H locs hl hP hD hS => ?_) 0 (by omega) ls H locs (lv_sub hl [2, 3, 1, 0] rfl) hP hD hS
  exact kr _ ls H locs d_q_Layout_fillOrder_116 hP hD hS
set_option maxHeartbeats 1000000 in
set_option maxRecDepth 100000 in
theorem c_q_Layout_fillOrder (l : Launch) (D : va_G) (cI cC : ClassId) (ra ca : Nat) (rx cx : Nat → Nat) (sz : Nat) : Met l y_q_Layout_fillOrder (cd_q_Layout_fillOrder :: WS) { frames := 1, cells := 0, slots := 0, locals := 22 } (va_Pc [.ref ra, .ref ca] (wP D [(ra, .inl (cI, 208, .inl (fun j => nI (rx j)))), (ca, .inl (cI, 208, .inl (fun j => nI (cx j))))] [(cI, .int), (cC, .char)] sz)) (wQv D [(ra, .inl (cI, 208, .inl (fun j => nI (rx j)))), (ca, .inl (cI, 208, .inl (fun j => nI (cx j))))] [(ra, .inl (cI, 208, .inl (fun j => nI (((fuI rx cx 10).2.1) j)))), (ca, .inl (cI, 208, .inl (fun j => nI (((fuI rx cx 10).2.2) j))))] sz) 0 0 (va_A [(ra, .inl (cI, 208, .inl (fun j => nI (rx j)))), (ca, .inl (cI, 208, .inl (fun j => nI (cx j))))] sz) := by
  refine Met.ofW (cc := b_q_Layout_fillOrder) (maxL := 8) (ret := none) (by decide) rfl ?_
  intro p e s m args below meth c s₁ B hml hv0
  obtain ⟨rfl, hP, hK, hD0, hsz⟩ := hv0
  have hts := atoms_spec (ws := cd_q_Layout_fillOrder :: WS) B.pre
  have hown : s.vm.findClass R_Layout = some m.cls := findClass_of_methodNamed B.named
  have hlocks := B.notSynchronized
  subst hsz
  have hD := hD0.self (sz := s.heap.size)
  have hl := lv_entry ([.ref ra, .ref ca]) (n := 8) (Nat.le_of_ble_eq_true rfl)
  rw [lg_entry_eq]
  generalize (lg_sl ([.ref ra, .ref ca]) ++ List.replicate (8 - (lg_sl ([.ref ra, .ref ca])).length) Slot.unset).toArray = ls at hl ⊢
  refine bd_q_Layout_fillOrder cI cC ra ca rx cx  ⟨B.exec, B.bytes, hml, hown, hts⟩ (Nat.le_refl _) (Nat.le_refl _) ⟨Nat.le_refl _, Nat.le_refl _⟩ hK (fun q h => Or.inr h) (fun pc ls H locs hd hP hD hS => ?_) ls _ _ hl hP hD (va_S.rf)
  exact W.vret B.exec B.bytes B.returns (fun t ht _ => ⟨⟨(), rfl, trivial, (by have h9 := hP; rw [← ht] at h9; exact h9)⟩, hS.F ht⟩) hS.2.2 hd
end
section
theorem d_q_Layout_pickUp_0 : decode b_q_Layout_pickUp 0 = .ok (.aload_n 2, 1) := by decide +kernel
theorem d_q_Layout_pickUp_1 : decode b_q_Layout_pickUp 1 = .ok (.iconst 0, 1) := by decide +kernel
theorem d_q_Layout_pickUp_2 : decode b_q_Layout_pickUp 2 = .ok (.invokestatic 88, 3) := by decide +kernel
theorem d_q_Layout_pickUp_5 : decode b_q_Layout_pickUp 5 = .ok (.iconst 0, 1) := by decide +kernel
theorem d_q_Layout_pickUp_6 : decode b_q_Layout_pickUp 6 = .ok (.istore 4, 2) := by decide +kernel
theorem d_q_Layout_pickUp_8 : decode b_q_Layout_pickUp 8 = .ok (.iload 4, 2) := by decide +kernel
theorem d_q_Layout_pickUp_10 : decode b_q_Layout_pickUp 10 = .ok (.sipush 208, 3) := by decide +kernel
theorem d_q_Layout_pickUp_13 : decode b_q_Layout_pickUp 13 = .ok (.if_icmp .ge 73, 3) := by decide +kernel
theorem d_q_Layout_pickUp_16 : decode b_q_Layout_pickUp 16 = .ok (.iload_n 3, 1) := by decide +kernel
theorem d_q_Layout_pickUp_17 : decode b_q_Layout_pickUp 17 = .ok (.aload_n 0, 1) := by decide +kernel
theorem d_q_Layout_pickUp_18 : decode b_q_Layout_pickUp 18 = .ok (.getfield 30, 3) := by decide +kernel
theorem d_q_Layout_pickUp_21 : decode b_q_Layout_pickUp 21 = .ok (.iload 4, 2) := by decide +kernel
theorem d_q_Layout_pickUp_23 : decode b_q_Layout_pickUp 23 = .ok (.iaload, 1) := by decide +kernel
theorem d_q_Layout_pickUp_24 : decode b_q_Layout_pickUp 24 = .ok (.aload_n 0, 1) := by decide +kernel
theorem d_q_Layout_pickUp_25 : decode b_q_Layout_pickUp 25 = .ok (.getfield 33, 3) := by decide +kernel
theorem d_q_Layout_pickUp_28 : decode b_q_Layout_pickUp 28 = .ok (.iload 4, 2) := by decide +kernel
theorem d_q_Layout_pickUp_30 : decode b_q_Layout_pickUp 30 = .ok (.iaload, 1) := by decide +kernel
theorem d_q_Layout_pickUp_31 : decode b_q_Layout_pickUp 31 = .ok (.invokestatic 80, 3) := by decide +kernel
theorem d_q_Layout_pickUp_34 : decode b_q_Layout_pickUp 34 = .ok (.ifCond .eq 7, 3) := by decide +kernel
theorem d_q_Layout_pickUp_37 : decode b_q_Layout_pickUp 37 = .ok (.iconst 1, 1) := by decide +kernel
theorem d_q_Layout_pickUp_38 : decode b_q_Layout_pickUp 38 = .ok (.goto 4, 3) := by decide +kernel
theorem d_q_Layout_pickUp_41 : decode b_q_Layout_pickUp 41 = .ok (.iconst 0, 1) := by decide +kernel
theorem d_q_Layout_pickUp_42 : decode b_q_Layout_pickUp 42 = .ok (.istore 5, 2) := by decide +kernel
theorem d_q_Layout_pickUp_44 : decode b_q_Layout_pickUp 44 = .ok (.aload_n 2, 1) := by decide +kernel
theorem d_q_Layout_pickUp_45 : decode b_q_Layout_pickUp 45 = .ok (.iload 4, 2) := by decide +kernel
theorem d_q_Layout_pickUp_47 : decode b_q_Layout_pickUp 47 = .ok (.iconst 3, 1) := by decide +kernel
theorem d_q_Layout_pickUp_48 : decode b_q_Layout_pickUp 48 = .ok (.ishr, 1) := by decide +kernel
theorem d_q_Layout_pickUp_49 : decode b_q_Layout_pickUp 49 = .ok (.aload_n 2, 1) := by decide +kernel
theorem d_q_Layout_pickUp_50 : decode b_q_Layout_pickUp 50 = .ok (.iload 4, 2) := by decide +kernel
theorem d_q_Layout_pickUp_52 : decode b_q_Layout_pickUp 52 = .ok (.iconst 3, 1) := by decide +kernel
theorem d_q_Layout_pickUp_53 : decode b_q_Layout_pickUp 53 = .ok (.ishr, 1) := by decide +kernel
theorem d_q_Layout_pickUp_54 : decode b_q_Layout_pickUp 54 = .ok (.iaload, 1) := by decide +kernel
theorem d_q_Layout_pickUp_55 : decode b_q_Layout_pickUp 55 = .ok (.iconst 1, 1) := by decide +kernel
theorem d_q_Layout_pickUp_56 : decode b_q_Layout_pickUp 56 = .ok (.ishl, 1) := by decide +kernel
theorem d_q_Layout_pickUp_57 : decode b_q_Layout_pickUp 57 = .ok (.aload_n 1, 1) := by decide +kernel
theorem d_q_Layout_pickUp_58 : decode b_q_Layout_pickUp 58 = .ok (.aload_n 0, 1) := by decide +kernel
theorem d_q_Layout_pickUp_59 : decode b_q_Layout_pickUp 59 = .ok (.getfield 30, 3) := by decide +kernel
theorem d_q_Layout_pickUp_62 : decode b_q_Layout_pickUp 62 = .ok (.iload 4, 2) := by decide +kernel
theorem d_q_Layout_pickUp_64 : decode b_q_Layout_pickUp 64 = .ok (.iaload, 1) := by decide +kernel
theorem d_q_Layout_pickUp_65 : decode b_q_Layout_pickUp 65 = .ok (.aload_n 0, 1) := by decide +kernel
theorem d_q_Layout_pickUp_66 : decode b_q_Layout_pickUp 66 = .ok (.getfield 33, 3) := by decide +kernel
theorem d_q_Layout_pickUp_69 : decode b_q_Layout_pickUp 69 = .ok (.iload 4, 2) := by decide +kernel
theorem d_q_Layout_pickUp_71 : decode b_q_Layout_pickUp 71 = .ok (.iaload, 1) := by decide +kernel
theorem d_q_Layout_pickUp_72 : decode b_q_Layout_pickUp 72 = .ok (.invokevirtual 94, 3) := by decide +kernel
theorem d_q_Layout_pickUp_75 : decode b_q_Layout_pickUp 75 = .ok (.iload 5, 2) := by decide +kernel
theorem d_q_Layout_pickUp_77 : decode b_q_Layout_pickUp 77 = .ok (.ixor, 1) := by decide +kernel
theorem d_q_Layout_pickUp_78 : decode b_q_Layout_pickUp 78 = .ok (.ior, 1) := by decide +kernel
theorem d_q_Layout_pickUp_79 : decode b_q_Layout_pickUp 79 = .ok (.iastore, 1) := by decide +kernel
theorem d_q_Layout_pickUp_80 : decode b_q_Layout_pickUp 80 = .ok (.iinc 4 1, 3) := by decide +kernel
theorem d_q_Layout_pickUp_83 : decode b_q_Layout_pickUp 83 = .ok (.goto (-75), 3) := by decide +kernel
theorem d_q_Layout_pickUp_86 : decode b_q_Layout_pickUp 86 = .ok (.return_, 1) := by decide +kernel
end
section
variable {p : Program} {l : Launch} {e : Env} {R : Room} {s : State} {m : MethodId} {args : Array Value} {below : List Frame} {meth : Method} {c : Code} {cells slots : Nat} {Q : State → Prop} {A : Nat → Prop} {H0 : Heap} {D : va_G}
set_option maxHeartbeats 1000000 in
set_option maxRecDepth 100000 in
theorem lp_q_Layout_pickUp_8 (cI cC : ClassId) (ly l1 l2 l3 go ga ba mk : Nat) (dx dy ro bt : Nat → Nat) (hmk : mk < 8) (hdx : ∀ j, j < 208 → dx j < 21) (hdy : ∀ j, j < 208 → dy j < 21) (hro : ∀ j, j < 21 → ro j < 2097152) (S : CallFix p m c b_q_Layout_pickUp 6 s args (cd_q_Layout_pickUp :: WS) R_Layout) (hRf : 1 ≤ R.frames) (hRl : 23 ≤ R.locals) (hRc : cells ≤ R.cells ∧ slots ≤ R.slots) (hK : va_K D classes [(cI, .int), (cC, .char)] s) (hA : ∀ q, H0.size ≤ q → A q) (kx : ∀ (ls : Array Slot) (H : Heap) (locs : List Loc), lv_has ls 6 [(0, .ref ly), (1, .ref go), (2, .ref ba), (3, .int (nI mk)), (4, .int (nI 208))] → va_P D classes [(ly, .inr (3, [.ref l1, .ref l2, .ref l3])), (l2, .inl (cI, 208, .inl (fun j => nI (dx j)))), (l3, .inl (cI, 208, .inl (fun j => nI (dy j)))), (go, .inr (2, [.ref ga])), (ga, .inl (cI, 21, .inl (fun j => nI (ro j)))), (ba, .inl (cI, 26, .inl (fun j => nI ((pkL (flL bt 0 26) dx dy ro mk 208) j))))] H → va_D A [(ly, .inr (3, [.ref l1, .ref l2, .ref l3])), (l2, .inl (cI, 208, .inl (fun j => nI (dx j)))), (l3, .inl (cI, 208, .inl (fun j => nI (dy j)))), (go, .inr (2, [.ref ga])), (ga, .inl (cI, 21, .inl (fun j => nI (ro j)))), (ba, .inl (cI, 26, .inl (fun j => nI ((pkL (flL bt 0 26) dx dy ro mk 208) j))))] → va_S A H0 H locs → W p l e R s m args below meth c H locs cells slots Q (F0 m 86 ls [])) :
    ∀ k, k ≤ 208 → ∀ (ls : Array Slot) (H : Heap) (locs : List Loc), lv_has ls 6 [(0, .ref ly), (1, .ref go), (2, .ref ba), (3, .int (nI mk)), (4, .int (nI k))] → va_P D classes [(ly, .inr (3, [.ref l1, .ref l2, .ref l3])), (l2, .inl (cI, 208, .inl (fun j => nI (dx j)))), (l3, .inl (cI, 208, .inl (fun j => nI (dy j)))), (go, .inr (2, [.ref ga])), (ga, .inl (cI, 21, .inl (fun j => nI (ro j)))), (ba, .inl (cI, 26, .inl (fun j => nI ((pkL (flL bt 0 26) dx dy ro mk k) j))))] H → va_D A [(ly, .inr (3, [.ref l1, .ref l2, .ref l3])), (l2, .inl (cI, 208, .inl (fun j => nI (dx j)))), (l3, .inl (cI, 208, .inl (fun j => nI (dy j)))), (go, .inr (2, [.ref ga])), (ga, .inl (cI, 21, .inl (fun j => nI (ro j)))), (ba, .inl (cI, 26, .inl (fun j => nI ((pkL (flL bt 0 26) dx dy ro mk k) j))))] → va_S A H0 H locs → W p l e R s m args below meth c H locs cells slots Q (F0 m 8 ls []) := by
  obtain ⟨hx, hb, hml, hown, hts⟩ := id S
  refine up_loop (fun k hkk ih => ?_)
  intro ls H locs hl hP hD hS
  refine lv_iload hx hb d_q_Layout_pickUp_8 (lv_at hl 4 rfl) ?_
  refine lv_sipush (v := nI 208) hx hb d_q_Layout_pickUp_10 (by decide) ?_
  refine n_icmp_ge hx hb d_q_Layout_pickUp_13 (tgt := 86) rfl (by omega) (by omega) (fun g13 => ?_) (fun g13 => ?_)
  · skip
    obtain rfl : k = 208 := by omega
    exact kx ls H locs (lv_sub hl [0, 1, 2, 3, 4] rfl) hP hD hS
  · skip
    have h1 := hdx k (by omega)
    have h2 := hdy k (by omega)
    have ht1 := tnN_le mk (dx k) (dy k)
    refine lv_iload_n hx hb d_q_Layout_pickUp_16 rfl (lv_at hl 3 rfl) ?_
    refine lv_aload_n hx hb d_q_Layout_pickUp_17 rfl (lv_at hl 0 rfl) ?_
    refine n_get (C := R_Layout) (T := F_Layout) (N := 3) (v := .ref l2) hx hb hts u_Layout_in hown hK hP 0 rfl rfl 1 (by decide) kw_80 rfl d_q_Layout_pickUp_18 ?_
    refine lv_iload hx hb d_q_Layout_pickUp_21 (lv_at hl 4 rfl) ?_
    refine n_iald hx hb hK hP 1 0 rfl rfl (by omega) (by decide) d_q_Layout_pickUp_23 ?_
    refine lv_aload_n hx hb d_q_Layout_pickUp_24 rfl (lv_at hl 0 rfl) ?_
    refine n_get (C := R_Layout) (T := F_Layout) (N := 3) (v := .ref l3) hx hb hts u_Layout_in hown hK hP 0 rfl rfl 2 (by decide) kw_81 rfl d_q_Layout_pickUp_25 ?_
    refine lv_iload hx hb d_q_Layout_pickUp_28 (lv_at hl 4 rfl) ?_
    refine n_iald hx hb hK hP 2 0 rfl rfl (by omega) (by decide) d_q_Layout_pickUp_30 ?_
    refine q_pureS (n := 3) (As := [.int (nI mk), .int (nI (dx k)), .int (nI (dy k))]) (rest := []) S (c_q_Layout_isTurned l mk (dx k) (dy k) (by omega) (by omega) (by omega)) (q_goodS kw_579 kw_580 kw_3 kw_581) (by decide +kernel) rfl rfl ⟨Nat.le_trans (Nat.le_of_ble_eq_true rfl) hRf, Nat.le_trans (Nat.le_of_ble_eq_true rfl) hRl⟩ rfl hl.1 rfl (Nat.le_of_ble_eq_true rfl) d_q_Layout_pickUp_31 hRc hS (fun H locs hkp hS => ?_)
    replace hP := hP.kept (fun k q hq => hkp q.1 (hP k q hq).lt)
    refine n_if_eq hx hb d_q_Layout_pickUp_34 (tgt := 41) rfl (by omega) (fun g34 => ?_) (fun g34 => ?_)
    · skip
      refine lv_iconst (v := nI 0) hx hb d_q_Layout_pickUp_41 (by decide) ?_
      refine n_topn (show 0 = tnN mk (dx k) (dy k) from (by omega)) ?_
      refine lv_istore hx hb d_q_Layout_pickUp_42 hl (Nat.le_of_ble_eq_true rfl) rfl (fun ls hl => ?_)
      have hl : lv_has ls 6 [(5, .int (nI (tnN mk (dx k) (dy k)))), (0, .ref ly), (1, .ref go), (2, .ref ba), (3, .int (nI mk)), (4, .int (nI k))] := hl
      refine lv_aload_n hx hb d_q_Layout_pickUp_44 rfl (lv_at hl 3 rfl) ?_
      refine lv_iload hx hb d_q_Layout_pickUp_45 (lv_at hl 5 rfl) ?_
      refine lv_iconst (v := nI 3) hx hb d_q_Layout_pickUp_47 (by decide) ?_
      refine n_ishr hx hb d_q_Layout_pickUp_48 (by omega) (by omega) ?_
      refine lv_aload_n hx hb d_q_Layout_pickUp_49 rfl (lv_at hl 3 rfl) ?_
      refine lv_iload hx hb d_q_Layout_pickUp_50 (lv_at hl 5 rfl) ?_
      refine lv_iconst (v := nI 3) hx hb d_q_Layout_pickUp_52 (by decide) ?_
      refine n_ishr hx hb d_q_Layout_pickUp_53 (by omega) (by omega) ?_
      refine n_iald hx hb hK hP 5 0 rfl rfl (by omega) (by decide) d_q_Layout_pickUp_54 ?_
      refine lv_iconst (v := nI 1) hx hb d_q_Layout_pickUp_55 (by decide) ?_
      refine n_ishl hx hb d_q_Layout_pickUp_56 (by omega) ?_
      refine lv_aload_n hx hb d_q_Layout_pickUp_57 rfl (lv_at hl 2 rfl) ?_
      refine lv_aload_n hx hb d_q_Layout_pickUp_58 rfl (lv_at hl 1 rfl) ?_
      refine n_get (C := R_Layout) (T := F_Layout) (N := 3) (v := .ref l2) hx hb hts u_Layout_in hown hK hP 0 rfl rfl 1 (by decide) kw_80 rfl d_q_Layout_pickUp_59 ?_
      refine lv_iload hx hb d_q_Layout_pickUp_62 (lv_at hl 5 rfl) ?_
      refine n_iald hx hb hK hP 1 0 rfl rfl (by omega) (by decide) d_q_Layout_pickUp_64 ?_
      refine lv_aload_n hx hb d_q_Layout_pickUp_65 rfl (lv_at hl 1 rfl) ?_
      refine n_get (C := R_Layout) (T := F_Layout) (N := 3) (v := .ref l3) hx hb hts u_Layout_in hown hK hP 0 rfl rfl 2 (by decide) kw_81 rfl d_q_Layout_pickUp_66 ?_
      refine lv_iload hx hb d_q_Layout_pickUp_69 (lv_at hl 5 rfl) ?_
      refine n_iald hx hb hK hP 2 0 rfl rfl (by omega) (by decide) d_q_Layout_pickUp_71 ?_
      refine q_readV (n := 2) (As := [.int (nI (dx k)), .int (nI (dy k))]) (rest := [.int (nI (((pkL (flL bt 0 26) dx dy ro mk k) (k / 2 ^ 3)) * 2 ^ 1)), .int (nI (k / 2 ^ 3)), .ref ba]) (wc := [(go, .inr (2, [.ref ga])), (ga, .inl (cI, 21, .inl (fun j => nI (ro j))))]) S (c_q_Grid_at l D cI cC go ga ro (dx k) (dy k) (by omega) (by omega) hro) hK hP (q0 := 3) rfl rfl [3, 4] rfl (q_goodV kw_609 kw_227 kw_228 kw_2 kw_229) (by decide +kernel) rfl rfl rfl ⟨Nat.le_trans (Nat.le_of_ble_eq_true rfl) hRf, Nat.le_trans (Nat.le_of_ble_eq_true rfl) hRl⟩ rfl hl.1 rfl (Nat.le_of_ble_eq_true rfl) d_q_Layout_pickUp_72 hRc hS (fun H locs hP hS => ?_)
      refine lv_iload hx hb d_q_Layout_pickUp_75 (lv_at hl 0 rfl) ?_
      refine n_ixor hx hb d_q_Layout_pickUp_77 ?_
      refine n_ior hx hb d_q_Layout_pickUp_78 ?_
      refine n_iast hx hb hK hP hD hS 5 0 rfl rfl (by omega) (by decide) d_q_Layout_pickUp_79 (fun H locs hP hD hS => ?_)
      have hP : va_P D classes [(ly, .inr (3, [.ref l1, .ref l2, .ref l3])), (l2, .inl (cI, 208, .inl (fun j => nI (dx j)))), (l3, .inl (cI, 208, .inl (fun j => nI (dy j)))), (go, .inr (2, [.ref ga])), (ga, .inl (cI, 21, .inl (fun j => nI (ro j)))), (ba, .inl (cI, 26, .inl (fun j => nI ((va_up (pkL (flL bt 0 26) dx dy ro mk k) (k / 2 ^ 3) ((((pkL (flL bt 0 26) dx dy ro mk k) (k / 2 ^ 3)) * 2 ^ 1) ||| ((ro (dx k) / 2 ^ (20 - (dy k)) % 2) ^^^ (tnN mk (dx k) (dy k))))) j))))] H := hP
      have hD : va_D A [(ly, .inr (3, [.ref l1, .ref l2, .ref l3])), (l2, .inl (cI, 208, .inl (fun j => nI (dx j)))), (l3, .inl (cI, 208, .inl (fun j => nI (dy j)))), (go, .inr (2, [.ref ga])), (ga, .inl (cI, 21, .inl (fun j => nI (ro j)))), (ba, .inl (cI, 26, .inl (fun j => nI ((va_up (pkL (flL bt 0 26) dx dy ro mk k) (k / 2 ^ 3) ((((pkL (flL bt 0 26) dx dy ro mk k) (k / 2 ^ 3)) * 2 ^ 1) ||| ((ro (dx k) / 2 ^ (20 - (dy k)) % 2) ^^^ (tnN mk (dx k) (dy k))))) j))))] := hD
      rw [show va_up (pkL (flL bt 0 26) dx dy ro mk k) (k / 2 ^ 3) ((((pkL (flL bt 0 26) dx dy ro mk k) (k / 2 ^ 3)) * 2 ^ 1) ||| ((ro (dx k) / 2 ^ (20 - (dy k)) % 2) ^^^ (tnN mk (dx k) (dy k)))) = pkL (flL bt 0 26) dx dy ro mk (k + 1) from rfl] at hP hD
      refine lv_iinc (k := 5) (v := nI (k + 1)) hx hb d_q_Layout_pickUp_80 hl rfl (nx_inc k 1) (Nat.le_of_ble_eq_true rfl) rfl (fun ls hl => ?_)
      have hl : lv_has ls 6 [(4, .int (nI (k + 1))), (5, .int (nI (tnN mk (dx k) (dy k)))), (0, .ref ly), (1, .ref go), (2, .ref ba), (3, .int (nI mk))] := hl
      refine lv_goto hx hb d_q_Layout_pickUp_83 (tgt := 8) rfl ?_
      exact ih (by omega) ls H locs (lv_sub hl [2, 3, 4, 5, 0] rfl) hP hD hS
    · skip
      refine lv_iconst (v := nI 1) hx hb d_q_Layout_pickUp_37 (by decide) ?_
      refine lv_goto hx hb d_q_Layout_pickUp_38 (tgt := 42) rfl ?_
      refine n_topn (show 1 = tnN mk (dx k) (dy k) from (by omega)) ?_
      refine lv_istore hx hb d_q_Layout_pickUp_42 hl (Nat.le_of_ble_eq_true rfl) rfl (fun ls hl => ?_)
      have hl : lv_has ls 6 [(5, .int (nI (tnN mk (dx k) (dy k)))), (0, .ref ly), (1, .ref go), (2, .ref ba), (3, .int (nI mk)), (4, .int (nI k))] := hl
      refine lv_aload_n hx hb d_q_Layout_pickUp_44 rfl (lv_at hl 3 rfl) ?_
      refine lv_iload hx hb d_q_Layout_pickUp_45 (lv_at hl 5 rfl) ?_
      refine lv_iconst (v := nI 3) hx hb d_q_Layout_pickUp_47 (by decide) ?_
      refine n_ishr hx hb d_q_Layout_pickUp_48 (by omega) (by omega) ?_
      refine lv_aload_n hx hb d_q_Layout_pickUp_49 rfl (lv_at hl 3 rfl) ?_
      refine lv_iload hx hb d_q_Layout_pickUp_50 (lv_at hl 5 rfl) ?_
      refine lv_iconst (v := nI 3) hx hb d_q_Layout_pickUp_52 (by decide) ?_
      refine n_ishr hx hb d_q_Layout_pickUp_53 (by omega) (by omega) ?_
      refine n_iald hx hb hK hP 5 0 rfl rfl (by omega) (by decide) d_q_Layout_pickUp_54 ?_
      refine lv_iconst (v := nI 1) hx hb d_q_Layout_pickUp_55 (by decide) ?_
      refine n_ishl hx hb d_q_Layout_pickUp_56 (by omega) ?_
      refine lv_aload_n hx hb d_q_Layout_pickUp_57 rfl (lv_at hl 2 rfl) ?_
      refine lv_aload_n hx hb d_q_Layout_pickUp_58 rfl (lv_at hl 1 rfl) ?_
      refine n_get (C := R_Layout) (T := F_Layout) (N := 3) (v := .ref l2) hx hb hts u_Layout_in hown hK hP 0 rfl rfl 1 (by decide) kw_80 rfl d_q_Layout_pickUp_59 ?_
      refine lv_iload hx hb d_q_Layout_pickUp_62 (lv_at hl 5 rfl) ?_
      refine n_iald hx hb hK hP 1 0 rfl rfl (by omega) (by decide) d_q_Layout_pickUp_64 ?_
      refine lv_aload_n hx hb d_q_Layout_pickUp_65 rfl (lv_at hl 1 rfl) ?_
      refine n_get (C := R_Layout) (T := F_Layout) (N := 3) (v := .ref l3) hx hb hts u_Layout_in hown hK hP 0 rfl rfl 2 (by decide) kw_81 rfl d_q_Layout_pickUp_66 ?_
      refine lv_iload hx hb d_q_Layout_pickUp_69 (lv_at hl 5 rfl) ?_
      refine n_iald hx hb hK hP 2 0 rfl rfl (by omega) (by decide) d_q_Layout_pickUp_71 ?_
      refine q_readV (n := 2) (As := [.int (nI (dx k)), .int (nI (dy k))]) (rest := [.int (nI (((pkL (flL bt 0 26) dx dy ro mk k) (k / 2 ^ 3)) * 2 ^ 1)), .int (nI (k / 2 ^ 3)), .ref ba]) (wc := [(go, .inr (2, [.ref ga])), (ga, .inl (cI, 21, .inl (fun j => nI (ro j))))]) S (c_q_Grid_at l D cI cC go ga ro (dx k) (dy k) (by omega) (by omega) hro) hK hP (q0 := 3) rfl rfl [3, 4] rfl (q_goodV kw_609 kw_227 kw_228 kw_2 kw_229) (by decide +kernel) rfl rfl rfl ⟨Nat.le_trans (Nat.le_of_ble_eq_true rfl) hRf, Nat.le_trans (Nat.le_of_ble_eq_true rfl) hRl⟩ rfl hl.1 rfl (Nat.le_of_ble_eq_true rfl) d_q_Layout_pickUp_72 hRc hS (fun H locs hP hS => ?_)
      refine lv_iload hx hb d_q_Layout_pickUp_75 (lv_at hl 0 rfl) ?_
      refine n_ixor hx hb d_q_Layout_pickUp_77 ?_
      refine n_ior hx hb d_q_Layout_pickUp_78 ?_
      refine n_iast hx hb hK hP hD hS 5 0 rfl rfl (by omega) (by decide) d_q_Layout_pickUp_79 (fun H locs hP hD hS => ?_)
      have hP : va_P D classes [(ly, .inr (3, [.ref l1, .ref l2, .ref l3])), (l2, .inl (cI, 208, .inl (fun j => nI (dx j)))), (l3, .inl (cI, 208, .inl (fun j => nI (dy j)))), (go, .inr (2, [.ref ga])), (ga, .inl (cI, 21, .inl (fun j => nI (ro j)))), (ba, .inl (cI, 26, .inl (fun j => nI ((va_up (pkL (flL bt 0 26) dx dy ro mk k) (k / 2 ^ 3) ((((pkL (flL bt 0 26) dx dy ro mk k) (k / 2 ^ 3)) * 2 ^ 1) ||| ((ro (dx k) / 2 ^ (20 - (dy k)) % 2) ^^^ (tnN mk (dx k) (dy k))))) j))))] H := hP
      have hD : va_D A [(ly, .inr (3, [.ref l1, .ref l2, .ref l3])), (l2, .inl (cI, 208, .inl (fun j => nI (dx j)))), (l3, .inl (cI, 208, .inl (fun j => nI (dy j)))), (go, .inr (2, [.ref ga])), (ga, .inl (cI, 21, .inl (fun j => nI (ro j)))), (ba, .inl (cI, 26, .inl (fun j => nI ((va_up (pkL (flL bt 0 26) dx dy ro mk k) (k / 2 ^ 3) ((((pkL (flL bt 0 26) dx dy ro mk k) (k / 2 ^ 3)) * 2 ^ 1) ||| ((ro (dx k) / 2 ^ (20 - (dy k)) % 2) ^^^ (tnN mk (dx k) (dy k))))) j))))] := hD
      rw [show va_up (pkL (flL bt 0 26) dx dy ro mk k) (k / 2 ^ 3) ((((pkL (flL bt 0 26) dx dy ro mk k) (k / 2 ^ 3)) * 2 ^ 1) ||| ((ro (dx k) / 2 ^ (20 - (dy k)) % 2) ^^^ (tnN mk (dx k) (dy k)))) = pkL (flL bt 0 26) dx dy ro mk (k + 1) from rfl] at hP hD
      refine lv_iinc (k := 5) (v := nI (k + 1)) hx hb d_q_Layout_pickUp_80 hl rfl (nx_inc k 1) (Nat.le_of_ble_eq_true rfl) rfl (fun ls hl => ?_)
      have hl : lv_has ls 6 [(4, .int (nI (k + 1))), (5, .int (nI (tnN mk (dx k) (dy k)))), (0, .ref ly), (1, .ref go), (2, .ref ba), (3, .int (nI mk))] := hl
      refine lv_goto hx hb d_q_Layout_pickUp_83 (tgt := 8) rfl ?_
      exact ih (by omega) ls H locs (lv_sub hl [2, 3, 4, 5, 0] rfl) hP hD hS
set_option maxHeartbeats 1000000 in
set_option maxRecDepth 100000 in
theorem bd_q_Layout_pickUp (cI cC : ClassId) (ly l1 l2 l3 go ga ba mk : Nat) (dx dy ro bt : Nat → Nat) (hmk : mk < 8) (hdx : ∀ j, j < 208 → dx j < 21) (hdy : ∀ j, j < 208 → dy j < 21) (hro : ∀ j, j < 21 → ro j < 2097152) (S : CallFix p m c b_q_Layout_pickUp 6 s args (cd_q_Layout_pickUp :: WS) R_Layout) (hRf : 1 ≤ R.frames) (hRl : 23 ≤ R.locals) (hRc : cells ≤ R.cells ∧ slots ≤ R.slots) (hK : va_K D classes [(cI, .int), (cC, .char)] s) (hA : ∀ q, H0.size ≤ q → A q) (kr : ∀ (pc : Nat) (ls : Array Slot) (H : Heap) (locs : List Loc), decode b_q_Layout_pickUp pc = .ok (.return_, 1) → va_P D classes [(ly, .inr (3, [.ref l1, .ref l2, .ref l3])), (l2, .inl (cI, 208, .inl (fun j => nI (dx j)))), (l3, .inl (cI, 208, .inl (fun j => nI (dy j)))), (go, .inr (2, [.ref ga])), (ga, .inl (cI, 21, .inl (fun j => nI (ro j)))), (ba, .inl (cI, 26, .inl (fun j => nI ((pkL (flL bt 0 26) dx dy ro mk 208) j))))] H → va_D A [(ly, .inr (3, [.ref l1, .ref l2, .ref l3])), (l2, .inl (cI, 208, .inl (fun j => nI (dx j)))), (l3, .inl (cI, 208, .inl (fun j => nI (dy j)))), (go, .inr (2, [.ref ga])), (ga, .inl (cI, 21, .inl (fun j => nI (ro j)))), (ba, .inl (cI, 26, .inl (fun j => nI ((pkL (flL bt 0 26) dx dy ro mk 208) j))))] → va_S A H0 H locs → W p l e R s m args below meth c H locs cells slots Q (F0 m pc ls [])) : ∀ (ls : Array Slot) (H : Heap) (locs : List Loc), lv_has ls 6 [(0, .ref ly), (1, .ref go), (2, .ref ba), (3, .int (nI mk))] → va_P D classes [(ly, .inr (3, [.ref l1, .ref l2, .ref l3])), (l2, .inl (cI, 208, .inl (fun j => nI (dx j)))), (l3, .inl (cI, 208, .inl (fun j => nI (dy j)))), (go, .inr (2, [.ref ga])), (ga, .inl (cI, 21, .inl (fun j => nI (ro j)))), (ba, .inl (cI, 26, .inl (fun j => nI (bt j))))] H → va_D A [(ly, .inr (3, [.ref l1, .ref l2, .ref l3])), (l2, .inl (cI, 208, .inl (fun j => nI (dx j)))), (l3, .inl (cI, 208, .inl (fun j => nI (dy j)))), (go, .inr (2, [.ref ga])), (ga, .inl (cI, 21, .inl (fun j => nI (ro j)))), (ba, .inl (cI, 26, .inl (fun j => nI (bt j))))] → va_S A H0 H locs → W p l e R s m args below meth c H locs cells slots Q (F0 m 0 ls []) := by
  obtain ⟨hx, hb, hml, hown, hts⟩ := id S
  intro ls H locs hl hP hD hS
  refine lv_aload_n hx hb d_q_Layout_pickUp_0 rfl (lv_at hl 2 rfl) ?_
  refine lv_iconst (v := nI 0) hx hb d_q_Layout_pickUp_1 (by decide) ?_
  refine q_writeSv (n := 2) (As := [.ref ba, .int (nI 0)]) (rest := []) (wc := [(ba, .inl (cI, 26, .inl (fun j => nI (bt j))))]) (wr := [(ly, .inr (3, [.ref l1, .ref l2, .ref l3])), (l2, .inl (cI, 208, .inl (fun j => nI (dx j)))), (l3, .inl (cI, 208, .inl (fun j => nI (dy j)))), (go, .inr (2, [.ref ga])), (ga, .inl (cI, 21, .inl (fun j => nI (ro j))))]) (w1 := [(ba, .inl (cI, 26, .inl (fun j => nI ((flL bt 0 26) j))))]) S (c_j_Arrays_fill l D cI cC ba 26 bt 0 (by decide) H.size) hK hP hD hA [5] [0, 1, 2, 3, 4] rfl rfl rfl rfl (by decide) rfl (q_goodS kw_630 kw_169 kw_9 kw_170) (by decide +kernel) rfl rfl ⟨Nat.le_trans (Nat.le_of_ble_eq_true rfl) hRf, Nat.le_trans (Nat.le_of_ble_eq_true rfl) hRl⟩ rfl hl.1 rfl (Nat.le_of_ble_eq_true rfl) d_q_Layout_pickUp_2 hRc hS (fun H locs hP hD hS => ?_)
  replace hP : va_P D classes [(ly, .inr (3, [.ref l1, .ref l2, .ref l3])), (l2, .inl (cI, 208, .inl (fun j => nI (dx j)))), (l3, .inl (cI, 208, .inl (fun j => nI (dy j)))), (go, .inr (2, [.ref ga])), (ga, .inl (cI, 21, .inl (fun j => nI (ro j)))), (ba, .inl (cI, 26, .inl (fun j => nI ((flL bt 0 26) j))))] H := hP.sub [0, 1, 2, 3, 4, 5] rfl
  replace hD : va_D A [(ly, .inr (3, [.ref l1, .ref l2, .ref l3])), (l2, .inl (cI, 208, .inl (fun j => nI (dx j)))), (l3, .inl (cI, 208, .inl (fun j => nI (dy j)))), (go, .inr (2, [.ref ga])), (ga, .inl (cI, 21, .inl (fun j => nI (ro j)))), (ba, .inl (cI, 26, .inl (fun j => nI ((flL bt 0 26) j))))] := hD.sub [0, 1, 2, 3, 4, 5] rfl rfl
  refine lv_iconst (v := nI 0) hx hb d_q_Layout_pickUp_5 (by decide) ?_
  refine lv_istore hx hb d_q_Layout_pickUp_6 hl (Nat.le_of_ble_eq_true rfl) rfl (fun ls hl => ?_)
  have hl : lv_has ls 6 [(4, .int (nI 0)), (0, .ref ly), (1, .ref go), (2, .ref ba), (3, .int (nI mk))] := hl
  refine lp_q_Layout_pickUp_8 cI cC ly l1 l2 l3 go ga ba mk dx dy ro bt hmk hdx hdy hro S hRf hRl hRc hK hA  (fun ls H locs hl hP hD hS => ?_) 0 (by omega) ls H locs (lv_sub hl [1, 2, 3, 4, 0] rfl) hP hD hS
  exact kr _ ls H locs d_q_Layout_pickUp_86 hP hD hS
set_option maxHeartbeats 1000000 in
set_option maxRecDepth 100000 in
theorem c_q_Layout_pickUp (l : Launch) (D : va_G) (cI cC : ClassId) (ly l1 l2 l3 go ga ba mk : Nat) (dx dy ro bt : Nat → Nat) (hmk : mk < 8) (hdx : ∀ j, j < 208 → dx j < 21) (hdy : ∀ j, j < 208 → dy j < 21) (hro : ∀ j, j < 21 → ro j < 2097152) (sz : Nat) : Met l y_q_Layout_pickUp (cd_q_Layout_pickUp :: WS) { frames := 1, cells := 0, slots := 0, locals := 23 } (va_Pc [.ref ly, .ref go, .ref ba, .int (nI mk)] (wP D [(ly, .inr (3, [.ref l1, .ref l2, .ref l3])), (l2, .inl (cI, 208, .inl (fun j => nI (dx j)))), (l3, .inl (cI, 208, .inl (fun j => nI (dy j)))), (go, .inr (2, [.ref ga])), (ga, .inl (cI, 21, .inl (fun j => nI (ro j)))), (ba, .inl (cI, 26, .inl (fun j => nI (bt j))))] [(cI, .int), (cC, .char)] sz)) (wQv D [(ly, .inr (3, [.ref l1, .ref l2, .ref l3])), (l2, .inl (cI, 208, .inl (fun j => nI (dx j)))), (l3, .inl (cI, 208, .inl (fun j => nI (dy j)))), (go, .inr (2, [.ref ga])), (ga, .inl (cI, 21, .inl (fun j => nI (ro j)))), (ba, .inl (cI, 26, .inl (fun j => nI (bt j))))] [(ly, .inr (3, [.ref l1, .ref l2, .ref l3])), (l2, .inl (cI, 208, .inl (fun j => nI (dx j)))), (l3, .inl (cI, 208, .inl (fun j => nI (dy j)))), (go, .inr (2, [.ref ga])), (ga, .inl (cI, 21, .inl (fun j => nI (ro j)))), (ba, .inl (cI, 26, .inl (fun j => nI ((pkL (flL bt 0 26) dx dy ro mk 208) j))))] sz) 0 0 (va_A [(ly, .inr (3, [.ref l1, .ref l2, .ref l3])), (l2, .inl (cI, 208, .inl (fun j => nI (dx j)))), (l3, .inl (cI, 208, .inl (fun j => nI (dy j)))), (go, .inr (2, [.ref ga])), (ga, .inl (cI, 21, .inl (fun j => nI (ro j)))), (ba, .inl (cI, 26, .inl (fun j => nI (bt j))))] sz) := by
  refine Met.ofW (cc := b_q_Layout_pickUp) (maxL := 6) (ret := none) (by decide) rfl ?_
  intro p e s m args below meth c s₁ B hml hv0
  obtain ⟨rfl, hP, hK, hD0, hsz⟩ := hv0
  have hts := atoms_spec (ws := cd_q_Layout_pickUp :: WS) B.pre
  have hown : s.vm.findClass R_Layout = some m.cls := findClass_of_methodNamed B.named
  have hlocks := B.notSynchronized
  subst hsz
  have hD := hD0.self (sz := s.heap.size)
  have hl := lv_entry ([.ref ly, .ref go, .ref ba, .int (nI mk)]) (n := 6) (Nat.le_of_ble_eq_true rfl)
  rw [lg_entry_eq]
  generalize (lg_sl ([.ref ly, .ref go, .ref ba, .int (nI mk)]) ++ List.replicate (6 - (lg_sl ([.ref ly, .ref go, .ref ba, .int (nI mk)])).length) Slot.unset).toArray = ls at hl ⊢
  refine bd_q_Layout_pickUp cI cC ly l1 l2 l3 go ga ba mk dx dy ro bt hmk hdx hdy hro ⟨B.exec, B.bytes, hml, hown, hts⟩ (Nat.le_refl _) (Nat.le_refl _) ⟨Nat.le_refl _, Nat.le_refl _⟩ hK (fun q h => Or.inr h) (fun pc ls H locs hd hP hD hS => ?_) ls _ _ hl hP hD (va_S.rf)
  exact W.vret B.exec B.bytes B.returns (fun t ht _ => ⟨⟨(), rfl, trivial, (by have h9 := hP; rw [← ht] at h9; exact h9)⟩, hS.F ht⟩) hS.2.2 hd
end
