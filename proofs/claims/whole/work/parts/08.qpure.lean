theorem kw_223 : (Jvm.Cond.methodLink "SquareCodes" (108 : Nat) ({ cls := "SquareCodes", name := "isLine", desc := "(I)Z" } : Jvm.MethodName)) ∈ WS := WS_tbl 223 (by decide +kernel) rfl
theorem kw_224 : (Jvm.Cond.static ({ cls := "SquareCodes", name := "isLine", desc := "(I)Z" } : Jvm.MethodName)) ∈ WS := WS_tbl 224 (by decide +kernel) rfl
theorem kw_1 : (Jvm.Cond.initialized "SquareCodes") ∈ WS := WS_tbl 1 (by decide +kernel) rfl
set_option maxRecDepth 1000000 in
theorem kw_225 : cd_q_isLine ∈ WS := WS_tbl 225 rfl rfl
theorem kw_264 : (Jvm.Cond.methodLink "SquareCodes$Grid" (39 : Nat) ({ cls := "SquareCodes$Grid", name := "penaltyOfRuns", desc := "(I)I" } : Jvm.MethodName)) ∈ WS := WS_tbl 264 (by decide +kernel) rfl
theorem kw_265 : (Jvm.Cond.static ({ cls := "SquareCodes$Grid", name := "penaltyOfRuns", desc := "(I)I" } : Jvm.MethodName)) ∈ WS := WS_tbl 265 (by decide +kernel) rfl
theorem kw_2 : (Jvm.Cond.initialized "SquareCodes$Grid") ∈ WS := WS_tbl 2 (by decide +kernel) rfl
set_option maxRecDepth 1000000 in
theorem kw_266 : cd_q_Grid_penaltyOfRuns ∈ WS := WS_tbl 266 rfl rfl
theorem kw_267 : (Jvm.Cond.methodLink "SquareCodes$Grid" (42 : Nat) ({ cls := "SquareCodes$Grid", name := "penaltyOfEyes", desc := "(I)I" } : Jvm.MethodName)) ∈ WS := WS_tbl 267 (by decide +kernel) rfl
theorem kw_268 : (Jvm.Cond.static ({ cls := "SquareCodes$Grid", name := "penaltyOfEyes", desc := "(I)I" } : Jvm.MethodName)) ∈ WS := WS_tbl 268 (by decide +kernel) rfl
set_option maxRecDepth 1000000 in
theorem kw_269 : cd_q_Grid_penaltyOfEyes ∈ WS := WS_tbl 269 rfl rfl
section
theorem d_q_isLine_0 : decode b_q_isLine 0 = .ok (.iload_n 0, 1) := by decide +kernel
theorem d_q_isLine_1 : decode b_q_isLine 1 = .ok (.ifCond .lt 13, 3) := by decide +kernel
theorem d_q_isLine_4 : decode b_q_isLine 4 = .ok (.iload_n 0, 1) := by decide +kernel
theorem d_q_isLine_5 : decode b_q_isLine 5 = .ok (.bipush 21, 2) := by decide +kernel
theorem d_q_isLine_7 : decode b_q_isLine 7 = .ok (.if_icmp .ge 7, 3) := by decide +kernel
theorem d_q_isLine_10 : decode b_q_isLine 10 = .ok (.iconst 1, 1) := by decide +kernel
theorem d_q_isLine_11 : decode b_q_isLine 11 = .ok (.goto 4, 3) := by decide +kernel
theorem d_q_isLine_14 : decode b_q_isLine 14 = .ok (.iconst 0, 1) := by decide +kernel
theorem d_q_isLine_15 : decode b_q_isLine 15 = .ok (.ireturn, 1) := by decide +kernel
end
section
variable {p : Program} {l : Launch} {e : Env} {R : Room} {s : State} {m : MethodId} {args : Array Value} {below : List Frame} {meth : Method} {c : Code} {cells slots : Nat} {Q : State → Prop} {A : Nat → Prop} {H0 : Heap} {D : va_G}
set_option maxHeartbeats 1000000 in
set_option maxRecDepth 100000 in
theorem bd_q_isLine (i : Int32) (S : CallFix p m c b_q_isLine 1 s args (cd_q_isLine :: WS) R_SquareCodes) (hRf : 0 ≤ R.frames) (hRl : 0 ≤ R.locals) (hRc : cells ≤ R.cells ∧ slots ≤ R.slots) (kr : ∀ (pc : Nat) (ls : Array Slot) (H : Heap) (locs : List Loc), decode b_q_isLine pc = .ok (.ireturn, 1) → va_S A H0 H locs → W p l e R s m args below meth c H locs cells slots Q (F0 m pc ls [.int (nI (bN (isL i)))])) : ∀ (ls : Array Slot) (H : Heap) (locs : List Loc), lv_has ls 1 [(0, .int i)] → va_S A H0 H locs → W p l e R s m args below meth c H locs cells slots Q (F0 m 0 ls []) := by
  obtain ⟨hx, hb, hml, hown, hts⟩ := id S
  intro ls H locs hl hS
  refine lv_iload_n hx hb d_q_isLine_0 rfl (lv_at hl 0 rfl) ?_
  refine lv_if_lt hx hb d_q_isLine_1 (tgt := 14) rfl (fun g1 => ?_) (fun g1 => ?_)
  · skip
    refine lv_iconst (v := nI 0) hx hb d_q_isLine_14 (by decide) ?_
    refine n_topn (show 0 = bN (isL i) from (by unfold bN; (repeat' split) <;> first | rfl | (exfalso; simp_all))) ?_
    exact kr _ ls H locs d_q_isLine_15 hS
  · skip
    refine lv_iload_n hx hb d_q_isLine_4 rfl (lv_at hl 0 rfl) ?_
    refine lv_bipush (v := nI 21) hx hb d_q_isLine_5 (by decide) ?_
    refine lv_icmp_ge hx hb d_q_isLine_7 (tgt := 14) rfl (fun g7 => ?_) (fun g7 => ?_)
    · skip
      refine lv_iconst (v := nI 0) hx hb d_q_isLine_14 (by decide) ?_
      refine n_topn (show 0 = bN (isL i) from (by unfold bN; (repeat' split) <;> first | rfl | (exfalso; simp_all))) ?_
      exact kr _ ls H locs d_q_isLine_15 hS
    · skip
      refine lv_iconst (v := nI 1) hx hb d_q_isLine_10 (by decide) ?_
      refine lv_goto hx hb d_q_isLine_11 (tgt := 15) rfl ?_
      refine n_topn (show 1 = bN (isL i) from (by unfold bN; (repeat' split) <;> first | rfl | (exfalso; simp_all))) ?_
      exact kr _ ls H locs d_q_isLine_15 hS
set_option maxHeartbeats 1000000 in
set_option maxRecDepth 100000 in
theorem c_q_isLine (l : Launch) (i : Int32) : Met l y_q_isLine (cd_q_isLine :: WS) { frames := 0, cells := 0, slots := 0, locals := 0 } (va_Pc [.int i] (fun _ => True)) (pQ ((nI (bN (isL i))))) 0 0 noA := by
  refine Met.ofW (cc := b_q_isLine) (maxL := 1) (ret := (some .boolean)) (by decide) rfl ?_
  intro p e s m args below meth c s₁ B hml hv0
  obtain ⟨rfl, -⟩ := hv0
  have hts := atoms_spec (ws := cd_q_isLine :: WS) B.pre
  have hown : s.vm.findClass R_SquareCodes = some m.cls := findClass_of_methodNamed B.named
  have hlocks := B.notSynchronized
  have hl := lv_entry ([.int i]) (n := 1) (Nat.le_of_ble_eq_true rfl)
  rw [lg_entry_eq]
  generalize (lg_sl ([.int i]) ++ List.replicate (1 - (lg_sl ([.int i])).length) Slot.unset).toArray = ls at hl ⊢
  refine bd_q_isLine i ⟨B.exec, B.bytes, hml, hown, hts⟩ (Nat.le_refl _) (Nat.le_refl _) ⟨Nat.le_refl _, Nat.le_refl _⟩ (fun pc ls H locs hd hS => ?_) ls _ _ hl (va_S.rf (A := noA))
  exact W.zret B.exec B.bytes B.returns (bN_fit _) (fun t ht _ => ⟨⟨_, (), rfl, rfl, trivial⟩, hS.F ht⟩) hS.2.2 hd
end
section
theorem d_q_isInside_0 : decode b_q_isInside 0 = .ok (.iload_n 0, 1) := by decide +kernel
theorem d_q_isInside_1 : decode b_q_isInside 1 = .ok (.invokestatic 108, 3) := by decide +kernel
theorem d_q_isInside_4 : decode b_q_isInside 4 = .ok (.ifCond .eq 14, 3) := by decide +kernel
theorem d_q_isInside_7 : decode b_q_isInside 7 = .ok (.iload_n 1, 1) := by decide +kernel
theorem d_q_isInside_8 : decode b_q_isInside 8 = .ok (.invokestatic 108, 3) := by decide +kernel
theorem d_q_isInside_11 : decode b_q_isInside 11 = .ok (.ifCond .eq 7, 3) := by decide +kernel
theorem d_q_isInside_14 : decode b_q_isInside 14 = .ok (.iconst 1, 1) := by decide +kernel
theorem d_q_isInside_15 : decode b_q_isInside 15 = .ok (.goto 4, 3) := by decide +kernel
theorem d_q_isInside_18 : decode b_q_isInside 18 = .ok (.iconst 0, 1) := by decide +kernel
theorem d_q_isInside_19 : decode b_q_isInside 19 = .ok (.ireturn, 1) := by decide +kernel
end
section
variable {p : Program} {l : Launch} {e : Env} {R : Room} {s : State} {m : MethodId} {args : Array Value} {below : List Frame} {meth : Method} {c : Code} {cells slots : Nat} {Q : State → Prop} {A : Nat → Prop} {H0 : Heap} {D : va_G}
set_option maxHeartbeats 1000000 in
set_option maxRecDepth 100000 in
theorem bd_q_isInside (r d : Int32) (S : CallFix p m c b_q_isInside 2 s args (cd_q_isInside :: WS) R_SquareCodes) (hRf : 1 ≤ R.frames) (hRl : 20 ≤ R.locals) (hRc : cells ≤ R.cells ∧ slots ≤ R.slots) (kr : ∀ (pc : Nat) (ls : Array Slot) (H : Heap) (locs : List Loc), decode b_q_isInside pc = .ok (.ireturn, 1) → va_S A H0 H locs → W p l e R s m args below meth c H locs cells slots Q (F0 m pc ls [.int (nI (bN (isL r ∧ isL d)))])) : ∀ (ls : Array Slot) (H : Heap) (locs : List Loc), lv_has ls 2 [(0, .int r), (1, .int d)] → va_S A H0 H locs → W p l e R s m args below meth c H locs cells slots Q (F0 m 0 ls []) := by
  obtain ⟨hx, hb, hml, hown, hts⟩ := id S
  intro ls H locs hl hS
  have hb1 := bN_le (isL r)
  have hb2 := bN_le (isL d)
  refine lv_iload_n hx hb d_q_isInside_0 rfl (lv_at hl 0 rfl) ?_
  refine q_pureS (n := 1) (As := [.int r]) (rest := []) S (c_q_isLine l r) (q_goodS kw_223 kw_224 kw_1 kw_225) (by decide +kernel) rfl rfl ⟨Nat.le_trans (Nat.le_of_ble_eq_true rfl) hRf, Nat.le_trans (Nat.le_of_ble_eq_true rfl) hRl⟩ rfl hl.1 rfl (Nat.le_of_ble_eq_true rfl) d_q_isInside_1 hRc hS (fun H locs hkp hS => ?_)
  refine n_if_eq hx hb d_q_isInside_4 (tgt := 18) rfl (by omega) (fun g4 => ?_) (fun g4 => ?_)
  · skip
    refine lv_iconst (v := nI 0) hx hb d_q_isInside_18 (by decide) ?_
    refine n_topn (show 0 = bN (isL r ∧ isL d) from (by (try simp only [bN_e0, bN_ne0] at g4); (try simp only [bN_e0, bN_ne0] at g11); unfold bN; (repeat' split) <;> first | rfl | (exfalso; simp_all))) ?_
    exact kr _ ls H locs d_q_isInside_19 hS
  · skip
    refine lv_iload_n hx hb d_q_isInside_7 rfl (lv_at hl 1 rfl) ?_
    refine q_pureS (n := 1) (As := [.int d]) (rest := []) S (c_q_isLine l d) (q_goodS kw_223 kw_224 kw_1 kw_225) (by decide +kernel) rfl rfl ⟨Nat.le_trans (Nat.le_of_ble_eq_true rfl) hRf, Nat.le_trans (Nat.le_of_ble_eq_true rfl) hRl⟩ rfl hl.1 rfl (Nat.le_of_ble_eq_true rfl) d_q_isInside_8 hRc hS (fun H locs hkp hS => ?_)
    refine n_if_eq hx hb d_q_isInside_11 (tgt := 18) rfl (by omega) (fun g11 => ?_) (fun g11 => ?_)
    · skip
      refine lv_iconst (v := nI 0) hx hb d_q_isInside_18 (by decide) ?_
      refine n_topn (show 0 = bN (isL r ∧ isL d) from (by (try simp only [bN_e0, bN_ne0] at g4); (try simp only [bN_e0, bN_ne0] at g11); unfold bN; (repeat' split) <;> first | rfl | (exfalso; simp_all))) ?_
      exact kr _ ls H locs d_q_isInside_19 hS
    · skip
      refine lv_iconst (v := nI 1) hx hb d_q_isInside_14 (by decide) ?_
      refine lv_goto hx hb d_q_isInside_15 (tgt := 19) rfl ?_
      refine n_topn (show 1 = bN (isL r ∧ isL d) from (by (try simp only [bN_e0, bN_ne0] at g4); (try simp only [bN_e0, bN_ne0] at g11); unfold bN; (repeat' split) <;> first | rfl | (exfalso; simp_all))) ?_
      exact kr _ ls H locs d_q_isInside_19 hS
set_option maxHeartbeats 1000000 in
set_option maxRecDepth 100000 in
theorem c_q_isInside (l : Launch) (r d : Int32) : Met l y_q_isInside (cd_q_isInside :: WS) { frames := 1, cells := 0, slots := 0, locals := 20 } (va_Pc [.int r, .int d] (fun _ => True)) (pQ ((nI (bN (isL r ∧ isL d))))) 0 0 noA := by
  refine Met.ofW (cc := b_q_isInside) (maxL := 2) (ret := (some .boolean)) (by decide) rfl ?_
  intro p e s m args below meth c s₁ B hml hv0
  obtain ⟨rfl, -⟩ := hv0
  have hts := atoms_spec (ws := cd_q_isInside :: WS) B.pre
  have hown : s.vm.findClass R_SquareCodes = some m.cls := findClass_of_methodNamed B.named
  have hlocks := B.notSynchronized
  have hl := lv_entry ([.int r, .int d]) (n := 2) (Nat.le_of_ble_eq_true rfl)
  rw [lg_entry_eq]
  generalize (lg_sl ([.int r, .int d]) ++ List.replicate (2 - (lg_sl ([.int r, .int d])).length) Slot.unset).toArray = ls at hl ⊢
  refine bd_q_isInside r d ⟨B.exec, B.bytes, hml, hown, hts⟩ (Nat.le_refl _) (Nat.le_refl _) ⟨Nat.le_refl _, Nat.le_refl _⟩ (fun pc ls H locs hd hS => ?_) ls _ _ hl (va_S.rf (A := noA))
  exact W.zret B.exec B.bytes B.returns (bN_fit _) (fun t ht _ => ⟨⟨_, (), rfl, rfl, trivial⟩, hS.F ht⟩) hS.2.2 hd
end
section
theorem d_q_Grid_penaltyOfRuns_0 : decode b_q_Grid_penaltyOfRuns 0 = .ok (.iconst 0, 1) := by decide +kernel
theorem d_q_Grid_penaltyOfRuns_1 : decode b_q_Grid_penaltyOfRuns 1 = .ok (.istore_n 1, 1) := by decide +kernel
theorem d_q_Grid_penaltyOfRuns_2 : decode b_q_Grid_penaltyOfRuns 2 = .ok (.iconst 1, 1) := by decide +kernel
theorem d_q_Grid_penaltyOfRuns_3 : decode b_q_Grid_penaltyOfRuns 3 = .ok (.istore_n 2, 1) := by decide +kernel
theorem d_q_Grid_penaltyOfRuns_4 : decode b_q_Grid_penaltyOfRuns 4 = .ok (.iconst 1, 1) := by decide +kernel
theorem d_q_Grid_penaltyOfRuns_5 : decode b_q_Grid_penaltyOfRuns 5 = .ok (.istore_n 3, 1) := by decide +kernel
theorem d_q_Grid_penaltyOfRuns_6 : decode b_q_Grid_penaltyOfRuns 6 = .ok (.iload_n 3, 1) := by decide +kernel
theorem d_q_Grid_penaltyOfRuns_7 : decode b_q_Grid_penaltyOfRuns 7 = .ok (.bipush 21, 2) := by decide +kernel
theorem d_q_Grid_penaltyOfRuns_9 : decode b_q_Grid_penaltyOfRuns 9 = .ok (.if_icmp .gt 53, 3) := by decide +kernel
theorem d_q_Grid_penaltyOfRuns_12 : decode b_q_Grid_penaltyOfRuns 12 = .ok (.iload_n 3, 1) := by decide +kernel
theorem d_q_Grid_penaltyOfRuns_13 : decode b_q_Grid_penaltyOfRuns 13 = .ok (.bipush 21, 2) := by decide +kernel
theorem d_q_Grid_penaltyOfRuns_15 : decode b_q_Grid_penaltyOfRuns 15 = .ok (.if_icmp .ge 24, 3) := by decide +kernel
theorem d_q_Grid_penaltyOfRuns_18 : decode b_q_Grid_penaltyOfRuns 18 = .ok (.iload_n 0, 1) := by decide +kernel
theorem d_q_Grid_penaltyOfRuns_19 : decode b_q_Grid_penaltyOfRuns 19 = .ok (.iload_n 3, 1) := by decide +kernel
theorem d_q_Grid_penaltyOfRuns_20 : decode b_q_Grid_penaltyOfRuns 20 = .ok (.ishr, 1) := by decide +kernel
theorem d_q_Grid_penaltyOfRuns_21 : decode b_q_Grid_penaltyOfRuns 21 = .ok (.iconst 1, 1) := by decide +kernel
theorem d_q_Grid_penaltyOfRuns_22 : decode b_q_Grid_penaltyOfRuns 22 = .ok (.iand, 1) := by decide +kernel
theorem d_q_Grid_penaltyOfRuns_23 : decode b_q_Grid_penaltyOfRuns 23 = .ok (.iload_n 0, 1) := by decide +kernel
theorem d_q_Grid_penaltyOfRuns_24 : decode b_q_Grid_penaltyOfRuns 24 = .ok (.iload_n 3, 1) := by decide +kernel
theorem d_q_Grid_penaltyOfRuns_25 : decode b_q_Grid_penaltyOfRuns 25 = .ok (.iconst 1, 1) := by decide +kernel
theorem d_q_Grid_penaltyOfRuns_26 : decode b_q_Grid_penaltyOfRuns 26 = .ok (.isub, 1) := by decide +kernel
theorem d_q_Grid_penaltyOfRuns_27 : decode b_q_Grid_penaltyOfRuns 27 = .ok (.ishr, 1) := by decide +kernel
theorem d_q_Grid_penaltyOfRuns_28 : decode b_q_Grid_penaltyOfRuns 28 = .ok (.iconst 1, 1) := by decide +kernel
theorem d_q_Grid_penaltyOfRuns_29 : decode b_q_Grid_penaltyOfRuns 29 = .ok (.iand, 1) := by decide +kernel
theorem d_q_Grid_penaltyOfRuns_30 : decode b_q_Grid_penaltyOfRuns 30 = .ok (.if_icmp .ne 9, 3) := by decide +kernel
theorem d_q_Grid_penaltyOfRuns_33 : decode b_q_Grid_penaltyOfRuns 33 = .ok (.iinc 2 1, 3) := by decide +kernel
theorem d_q_Grid_penaltyOfRuns_36 : decode b_q_Grid_penaltyOfRuns 36 = .ok (.goto 20, 3) := by decide +kernel
theorem d_q_Grid_penaltyOfRuns_39 : decode b_q_Grid_penaltyOfRuns 39 = .ok (.iload_n 1, 1) := by decide +kernel
theorem d_q_Grid_penaltyOfRuns_40 : decode b_q_Grid_penaltyOfRuns 40 = .ok (.iload_n 2, 1) := by decide +kernel
theorem d_q_Grid_penaltyOfRuns_41 : decode b_q_Grid_penaltyOfRuns 41 = .ok (.iconst 5, 1) := by decide +kernel
theorem d_q_Grid_penaltyOfRuns_42 : decode b_q_Grid_penaltyOfRuns 42 = .ok (.if_icmp .lt 9, 3) := by decide +kernel
theorem d_q_Grid_penaltyOfRuns_45 : decode b_q_Grid_penaltyOfRuns 45 = .ok (.iload_n 2, 1) := by decide +kernel
theorem d_q_Grid_penaltyOfRuns_46 : decode b_q_Grid_penaltyOfRuns 46 = .ok (.iconst 2, 1) := by decide +kernel
theorem d_q_Grid_penaltyOfRuns_47 : decode b_q_Grid_penaltyOfRuns 47 = .ok (.isub, 1) := by decide +kernel
theorem d_q_Grid_penaltyOfRuns_48 : decode b_q_Grid_penaltyOfRuns 48 = .ok (.goto 4, 3) := by decide +kernel
theorem d_q_Grid_penaltyOfRuns_51 : decode b_q_Grid_penaltyOfRuns 51 = .ok (.iconst 0, 1) := by decide +kernel
theorem d_q_Grid_penaltyOfRuns_52 : decode b_q_Grid_penaltyOfRuns 52 = .ok (.iadd, 1) := by decide +kernel
theorem d_q_Grid_penaltyOfRuns_53 : decode b_q_Grid_penaltyOfRuns 53 = .ok (.istore_n 1, 1) := by decide +kernel
theorem d_q_Grid_penaltyOfRuns_54 : decode b_q_Grid_penaltyOfRuns 54 = .ok (.iconst 1, 1) := by decide +kernel
theorem d_q_Grid_penaltyOfRuns_55 : decode b_q_Grid_penaltyOfRuns 55 = .ok (.istore_n 2, 1) := by decide +kernel
theorem d_q_Grid_penaltyOfRuns_56 : decode b_q_Grid_penaltyOfRuns 56 = .ok (.iinc 3 1, 3) := by decide +kernel
theorem d_q_Grid_penaltyOfRuns_59 : decode b_q_Grid_penaltyOfRuns 59 = .ok (.goto (-53), 3) := by decide +kernel
theorem d_q_Grid_penaltyOfRuns_62 : decode b_q_Grid_penaltyOfRuns 62 = .ok (.iload_n 1, 1) := by decide +kernel
theorem d_q_Grid_penaltyOfRuns_63 : decode b_q_Grid_penaltyOfRuns 63 = .ok (.ireturn, 1) := by decide +kernel
end
section
variable {p : Program} {l : Launch} {e : Env} {R : Room} {s : State} {m : MethodId} {args : Array Value} {below : List Frame} {meth : Method} {c : Code} {cells slots : Nat} {Q : State → Prop} {A : Nat → Prop} {H0 : Heap} {D : va_G}
set_option maxHeartbeats 1000000 in
set_option maxRecDepth 100000 in
theorem lp_q_Grid_penaltyOfRuns_6 (x : Nat) (hx0 : x < 2097152) (S : CallFix p m c b_q_Grid_penaltyOfRuns 4 s args (cd_q_Grid_penaltyOfRuns :: WS) R_Grid) (hRf : 0 ≤ R.frames) (hRl : 0 ≤ R.locals) (hRc : cells ≤ R.cells ∧ slots ≤ R.slots) (kx : ∀ (ls : Array Slot) (H : Heap) (locs : List Loc), lv_has ls 4 [(0, .int (nI x)), (1, .int (nI ((prL x 21).1))), (2, .int (nI ((prL x 21).2))), (3, .int (nI (21 + 1)))] → va_S A H0 H locs → W p l e R s m args below meth c H locs cells slots Q (F0 m 62 ls [])) :
    ∀ k, k ≤ 21 → ∀ (ls : Array Slot) (H : Heap) (locs : List Loc), lv_has ls 4 [(0, .int (nI x)), (1, .int (nI ((prL x k).1))), (2, .int (nI ((prL x k).2))), (3, .int (nI (k + 1)))] → va_S A H0 H locs → W p l e R s m args below meth c H locs cells slots Q (F0 m 6 ls []) := by
  obtain ⟨hx, hb, hml, hown, hts⟩ := id S
  refine up_loop (fun k hkk ih => ?_)
  intro ls H locs hl hS
  have hq := prL_le x k
  refine lv_iload_n hx hb d_q_Grid_penaltyOfRuns_6 rfl (lv_at hl 3 rfl) ?_
  refine lv_bipush (v := nI 21) hx hb d_q_Grid_penaltyOfRuns_7 (by decide) ?_
  refine n_icmp_gt hx hb d_q_Grid_penaltyOfRuns_9 (tgt := 62) rfl (by omega) (by omega) (fun g9 => ?_) (fun g9 => ?_)
  · skip
    obtain rfl : k = 21 := by omega
    exact kx ls H locs (lv_sub hl [0, 1, 2, 3] rfl) hS
  · skip
    refine lv_iload_n hx hb d_q_Grid_penaltyOfRuns_12 rfl (lv_at hl 3 rfl) ?_
    refine lv_bipush (v := nI 21) hx hb d_q_Grid_penaltyOfRuns_13 (by decide) ?_
    refine n_icmp_ge hx hb d_q_Grid_penaltyOfRuns_15 (tgt := 39) rfl (by omega) (by omega) (fun g15 => ?_) (fun g15 => ?_)
    · skip
      refine lv_iload_n hx hb d_q_Grid_penaltyOfRuns_39 rfl (lv_at hl 1 rfl) ?_
      refine lv_iload_n hx hb d_q_Grid_penaltyOfRuns_40 rfl (lv_at hl 2 rfl) ?_
      refine lv_iconst (v := nI 5) hx hb d_q_Grid_penaltyOfRuns_41 (by decide) ?_
      refine n_icmp_lt hx hb d_q_Grid_penaltyOfRuns_42 (tgt := 51) rfl (by omega) (by omega) (fun g42 => ?_) (fun g42 => ?_)
      · skip
        refine lv_iconst (v := nI 0) hx hb d_q_Grid_penaltyOfRuns_51 (by decide) ?_
        refine n_iadd hx hb d_q_Grid_penaltyOfRuns_52 ?_
        refine n_topn (show ((prL x k).1) + 0 = (prL x (k + 1)).1 from (by first | exact (prL_1f (by omega) g42).symm | exact (prL_1g (by omega) g42).symm | exact (prL_1h g30 g42).symm | exact (prL_1i g30 g42).symm)) ?_
        refine lv_istore_n hx hb d_q_Grid_penaltyOfRuns_53 rfl hl (Nat.le_of_ble_eq_true rfl) rfl (fun ls hl => ?_)
        have hl : lv_has ls 4 [(1, .int (nI ((prL x (k + 1)).1))), (0, .int (nI x)), (2, .int (nI ((prL x k).2))), (3, .int (nI (k + 1)))] := hl
        refine lv_iconst (v := nI 1) hx hb d_q_Grid_penaltyOfRuns_54 (by decide) ?_
        refine n_topn (show 1 = (prL x (k + 1)).2 from (by first | exact (prL_2f (by omega)).symm | exact (prL_2g g30).symm)) ?_
        refine lv_istore_n hx hb d_q_Grid_penaltyOfRuns_55 rfl hl (Nat.le_of_ble_eq_true rfl) rfl (fun ls hl => ?_)
        have hl : lv_has ls 4 [(2, .int (nI ((prL x (k + 1)).2))), (1, .int (nI ((prL x (k + 1)).1))), (0, .int (nI x)), (3, .int (nI (k + 1)))] := hl
        refine lv_iinc (k := 3) (v := nI (k + 1 + 1)) hx hb d_q_Grid_penaltyOfRuns_56 hl rfl ((nx_inc (k + 1) 1).trans (congrArg nI rfl)) (Nat.le_of_ble_eq_true rfl) rfl (fun ls hl => ?_)
        have hl : lv_has ls 4 [(3, .int (nI (k + 1 + 1))), (2, .int (nI ((prL x (k + 1)).2))), (1, .int (nI ((prL x (k + 1)).1))), (0, .int (nI x))] := hl
        refine lv_goto hx hb d_q_Grid_penaltyOfRuns_59 (tgt := 6) rfl ?_
        exact ih (by omega) ls H locs (lv_sub hl [3, 2, 1, 0] rfl) hS
      · skip
        refine lv_iload_n hx hb d_q_Grid_penaltyOfRuns_45 rfl (lv_at hl 2 rfl) ?_
        refine lv_iconst (v := nI 2) hx hb d_q_Grid_penaltyOfRuns_46 (by decide) ?_
        refine n_isub hx hb d_q_Grid_penaltyOfRuns_47 (by omega) ?_
        refine lv_goto hx hb d_q_Grid_penaltyOfRuns_48 (tgt := 52) rfl ?_
        refine n_iadd hx hb d_q_Grid_penaltyOfRuns_52 ?_
        refine n_topn (show ((prL x k).1) + (((prL x k).2) - 2) = (prL x (k + 1)).1 from (by first | exact (prL_1f (by omega) g42).symm | exact (prL_1g (by omega) g42).symm | exact (prL_1h g30 g42).symm | exact (prL_1i g30 g42).symm)) ?_
        refine lv_istore_n hx hb d_q_Grid_penaltyOfRuns_53 rfl hl (Nat.le_of_ble_eq_true rfl) rfl (fun ls hl => ?_)
        have hl : lv_has ls 4 [(1, .int (nI ((prL x (k + 1)).1))), (0, .int (nI x)), (2, .int (nI ((prL x k).2))), (3, .int (nI (k + 1)))] := hl
        refine lv_iconst (v := nI 1) hx hb d_q_Grid_penaltyOfRuns_54 (by decide) ?_
        refine n_topn (show 1 = (prL x (k + 1)).2 from (by first | exact (prL_2f (by omega)).symm | exact (prL_2g g30).symm)) ?_
        refine lv_istore_n hx hb d_q_Grid_penaltyOfRuns_55 rfl hl (Nat.le_of_ble_eq_true rfl) rfl (fun ls hl => ?_)
        have hl : lv_has ls 4 [(2, .int (nI ((prL x (k + 1)).2))), (1, .int (nI ((prL x (k + 1)).1))), (0, .int (nI x)), (3, .int (nI (k + 1)))] := hl
        refine lv_iinc (k := 3) (v := nI (k + 1 + 1)) hx hb d_q_Grid_penaltyOfRuns_56 hl rfl ((nx_inc (k + 1) 1).trans (congrArg nI rfl)) (Nat.le_of_ble_eq_true rfl) rfl (fun ls hl => ?_)
        have hl : lv_has ls 4 [(3, .int (nI (k + 1 + 1))), (2, .int (nI ((prL x (k + 1)).2))), (1, .int (nI ((prL x (k + 1)).1))), (0, .int (nI x))] := hl
        refine lv_goto hx hb d_q_Grid_penaltyOfRuns_59 (tgt := 6) rfl ?_
        exact ih (by omega) ls H locs (lv_sub hl [3, 2, 1, 0] rfl) hS
    · skip
      refine lv_iload_n hx hb d_q_Grid_penaltyOfRuns_18 rfl (lv_at hl 0 rfl) ?_
      refine lv_iload_n hx hb d_q_Grid_penaltyOfRuns_19 rfl (lv_at hl 3 rfl) ?_
      refine n_ishr hx hb d_q_Grid_penaltyOfRuns_20 (by omega) (by omega) ?_
      refine lv_iconst (v := nI 1) hx hb d_q_Grid_penaltyOfRuns_21 (by decide) ?_
      refine n_and1 hx hb d_q_Grid_penaltyOfRuns_22 ?_
      refine lv_iload_n hx hb d_q_Grid_penaltyOfRuns_23 rfl (lv_at hl 0 rfl) ?_
      refine lv_iload_n hx hb d_q_Grid_penaltyOfRuns_24 rfl (lv_at hl 3 rfl) ?_
      refine lv_iconst (v := nI 1) hx hb d_q_Grid_penaltyOfRuns_25 (by decide) ?_
      refine n_isub hx hb d_q_Grid_penaltyOfRuns_26 (by omega) ?_
      refine n_topn (show (k + 1) - 1 = k from (by omega)) ?_
      refine n_ishr hx hb d_q_Grid_penaltyOfRuns_27 (by omega) (by omega) ?_
      refine lv_iconst (v := nI 1) hx hb d_q_Grid_penaltyOfRuns_28 (by decide) ?_
      refine n_and1 hx hb d_q_Grid_penaltyOfRuns_29 ?_
      refine n_icmp_ne hx hb d_q_Grid_penaltyOfRuns_30 (tgt := 39) rfl (by omega) (by omega) (fun g30 => ?_) (fun g30 => ?_)
      · skip
        refine lv_iload_n hx hb d_q_Grid_penaltyOfRuns_39 rfl (lv_at hl 1 rfl) ?_
        refine lv_iload_n hx hb d_q_Grid_penaltyOfRuns_40 rfl (lv_at hl 2 rfl) ?_
        refine lv_iconst (v := nI 5) hx hb d_q_Grid_penaltyOfRuns_41 (by decide) ?_
        refine n_icmp_lt hx hb d_q_Grid_penaltyOfRuns_42 (tgt := 51) rfl (by omega) (by omega) (fun g42 => ?_) (fun g42 => ?_)
        · skip
          refine lv_iconst (v := nI 0) hx hb d_q_Grid_penaltyOfRuns_51 (by decide) ?_
          refine n_iadd hx hb d_q_Grid_penaltyOfRuns_52 ?_
          refine n_topn (show ((prL x k).1) + 0 = (prL x (k + 1)).1 from (by first | exact (prL_1f (by omega) g42).symm | exact (prL_1g (by omega) g42).symm | exact (prL_1h g30 g42).symm | exact (prL_1i g30 g42).symm)) ?_
          refine lv_istore_n hx hb d_q_Grid_penaltyOfRuns_53 rfl hl (Nat.le_of_ble_eq_true rfl) rfl (fun ls hl => ?_)
          have hl : lv_has ls 4 [(1, .int (nI ((prL x (k + 1)).1))), (0, .int (nI x)), (2, .int (nI ((prL x k).2))), (3, .int (nI (k + 1)))] := hl
          refine lv_iconst (v := nI 1) hx hb d_q_Grid_penaltyOfRuns_54 (by decide) ?_
          refine n_topn (show 1 = (prL x (k + 1)).2 from (by first | exact (prL_2f (by omega)).symm | exact (prL_2g g30).symm)) ?_
          refine lv_istore_n hx hb d_q_Grid_penaltyOfRuns_55 rfl hl (Nat.le_of_ble_eq_true rfl) rfl (fun ls hl => ?_)
          have hl : lv_has ls 4 [(2, .int (nI ((prL x (k + 1)).2))), (1, .int (nI ((prL x (k + 1)).1))), (0, .int (nI x)), (3, .int (nI (k + 1)))] := hl
          refine lv_iinc (k := 3) (v := nI (k + 1 + 1)) hx hb d_q_Grid_penaltyOfRuns_56 hl rfl ((nx_inc (k + 1) 1).trans (congrArg nI rfl)) (Nat.le_of_ble_eq_true rfl) rfl (fun ls hl => ?_)
          have hl : lv_has ls 4 [(3, .int (nI (k + 1 + 1))), (2, .int (nI ((prL x (k + 1)).2))), (1, .int (nI ((prL x (k + 1)).1))), (0, .int (nI x))] := hl
          refine lv_goto hx hb d_q_Grid_penaltyOfRuns_59 (tgt := 6) rfl ?_
          exact ih (by omega) ls H locs (lv_sub hl [3, 2, 1, 0] rfl) hS
        · skip
          refine lv_iload_n hx hb d_q_Grid_penaltyOfRuns_45 rfl (lv_at hl 2 rfl) ?_
          refine lv_iconst (v := nI 2) hx hb d_q_Grid_penaltyOfRuns_46 (by decide) ?_
          refine n_isub hx hb d_q_Grid_penaltyOfRuns_47 (by omega) ?_
          refine lv_goto hx hb d_q_Grid_penaltyOfRuns_48 (tgt := 52) rfl ?_
          refine n_iadd hx hb d_q_Grid_penaltyOfRuns_52 ?_
          refine n_topn (show ((prL x k).1) + (((prL x k).2) - 2) = (prL x (k + 1)).1 from (by first | exact (prL_1f (by omega) g42).symm | exact (prL_1g (by omega) g42).symm | exact (prL_1h g30 g42).symm | exact (prL_1i g30 g42).symm)) ?_
          refine lv_istore_n hx hb d_q_Grid_penaltyOfRuns_53 rfl hl (Nat.le_of_ble_eq_true rfl) rfl (fun ls hl => ?_)
          have hl : lv_has ls 4 [(1, .int (nI ((prL x (k + 1)).1))), (0, .int (nI x)), (2, .int (nI ((prL x k).2))), (3, .int (nI (k + 1)))] := hl
          refine lv_iconst (v := nI 1) hx hb d_q_Grid_penaltyOfRuns_54 (by decide) ?_
          refine n_topn (show 1 = (prL x (k + 1)).2 from (by first | exact (prL_2f (by omega)).symm | exact (prL_2g g30).symm)) ?_
          refine lv_istore_n hx hb d_q_Grid_penaltyOfRuns_55 rfl hl (Nat.le_of_ble_eq_true rfl) rfl (fun ls hl => ?_)
          have hl : lv_has ls 4 [(2, .int (nI ((prL x (k + 1)).2))), (1, .int (nI ((prL x (k + 1)).1))), (0, .int (nI x)), (3, .int (nI (k + 1)))] := hl
          refine lv_iinc (k := 3) (v := nI (k + 1 + 1)) hx hb d_q_Grid_penaltyOfRuns_56 hl rfl ((nx_inc (k + 1) 1).trans (congrArg nI rfl)) (Nat.le_of_ble_eq_true rfl) rfl (fun ls hl => ?_)
          have hl : lv_has ls 4 [(3, .int (nI (k + 1 + 1))), (2, .int (nI ((prL x (k + 1)).2))), (1, .int (nI ((prL x (k + 1)).1))), (0, .int (nI x))] := hl
          refine lv_goto hx hb d_q_Grid_penaltyOfRuns_59 (tgt := 6) rfl ?_
          exact ih (by omega) ls H locs (lv_sub hl [3, 2, 1, 0] rfl) hS
      · skip
        refine lv_iinc (k := 2) (v := nI ((prL x (k + 1)).2)) hx hb d_q_Grid_penaltyOfRuns_33 hl rfl ((nx_inc ((prL x k).2) 1).trans (congrArg nI (prL_2t (by omega) g30).symm)) (Nat.le_of_ble_eq_true rfl) rfl (fun ls hl => ?_)
        have hl : lv_has ls 4 [(2, .int (nI ((prL x (k + 1)).2))), (0, .int (nI x)), (1, .int (nI ((prL x k).1))), (3, .int (nI (k + 1)))] := hl
        refine lv_goto hx hb d_q_Grid_penaltyOfRuns_36 (tgt := 56) rfl ?_
        refine lv_iinc (k := 3) (v := nI (k + 1 + 1)) hx hb d_q_Grid_penaltyOfRuns_56 hl rfl ((nx_inc (k + 1) 1).trans (congrArg nI rfl)) (Nat.le_of_ble_eq_true rfl) rfl (fun ls hl => ?_)
        have hl : lv_has ls 4 [(3, .int (nI (k + 1 + 1))), (2, .int (nI ((prL x (k + 1)).2))), (0, .int (nI x)), (1, .int (nI ((prL x k).1)))] := hl
        refine lv_goto hx hb d_q_Grid_penaltyOfRuns_59 (tgt := 6) rfl ?_
        have qb1 : (prL x k).1 = (prL x (k + 1)).1 := (prL_1t (by omega) g30).symm
        exact ih (by omega) ls H locs (lv_re (l := [(0, .int (nI x)), (1, .int (nI ((prL x k).1))), (2, .int (nI ((prL x (k + 1)).2))), (3, .int (nI (k + 1 + 1)))]) (lv_sub hl [2, 3, 1, 0] rfl) (by rw [qb1])) hS
set_option maxHeartbeats 1000000 in
set_option maxRecDepth 100000 in
theorem bd_q_Grid_penaltyOfRuns (x : Nat) (hx0 : x < 2097152) (S : CallFix p m c b_q_Grid_penaltyOfRuns 4 s args (cd_q_Grid_penaltyOfRuns :: WS) R_Grid) (hRf : 0 ≤ R.frames) (hRl : 0 ≤ R.locals) (hRc : cells ≤ R.cells ∧ slots ≤ R.slots) (kr : ∀ (pc : Nat) (ls : Array Slot) (H : Heap) (locs : List Loc), decode b_q_Grid_penaltyOfRuns pc = .ok (.ireturn, 1) → va_S A H0 H locs → W p l e R s m args below meth c H locs cells slots Q (F0 m pc ls [.int (nI ((prL x 21).1))])) : ∀ (ls : Array Slot) (H : Heap) (locs : List Loc), lv_has ls 4 [(0, .int (nI x))] → va_S A H0 H locs → W p l e R s m args below meth c H locs cells slots Q (F0 m 0 ls []) := by
  obtain ⟨hx, hb, hml, hown, hts⟩ := id S
  intro ls H locs hl hS
  refine lv_iconst (v := nI 0) hx hb d_q_Grid_penaltyOfRuns_0 (by decide) ?_
  refine lv_istore_n hx hb d_q_Grid_penaltyOfRuns_1 rfl hl (Nat.le_of_ble_eq_true rfl) rfl (fun ls hl => ?_)
  have hl : lv_has ls 4 [(1, .int (nI 0)), (0, .int (nI x))] := hl
  refine lv_iconst (v := nI 1) hx hb d_q_Grid_penaltyOfRuns_2 (by decide) ?_
  refine lv_istore_n hx hb d_q_Grid_penaltyOfRuns_3 rfl hl (Nat.le_of_ble_eq_true rfl) rfl (fun ls hl => ?_)
  have hl : lv_has ls 4 [(2, .int (nI 1)), (1, .int (nI 0)), (0, .int (nI x))] := hl
  refine lv_iconst (v := nI 1) hx hb d_q_Grid_penaltyOfRuns_4 (by decide) ?_
  refine lv_istore_n hx hb d_q_Grid_penaltyOfRuns_5 rfl hl (Nat.le_of_ble_eq_true rfl) rfl (fun ls hl => ?_)
  have hl : lv_has ls 4 [(3, .int (nI 1)), (2, .int (nI 1)), (1, .int (nI 0)), (0, .int (nI x))] := hl
  refine lp_q_Grid_penaltyOfRuns_6 x hx0 S hRf hRl hRc  (fun ls H locs hl hS => ?_) 0 (by omega) ls H locs (lv_sub hl [3, 2, 1, 0] rfl) hS
  refine lv_iload_n hx hb d_q_Grid_penaltyOfRuns_62 rfl (lv_at hl 1 rfl) ?_
  exact kr _ ls H locs d_q_Grid_penaltyOfRuns_63 hS
set_option maxHeartbeats 1000000 in
set_option maxRecDepth 100000 in
theorem c_q_Grid_penaltyOfRuns (l : Launch) (x : Nat) (hx0 : x < 2097152) : Met l y_q_Grid_penaltyOfRuns (cd_q_Grid_penaltyOfRuns :: WS) { frames := 0, cells := 0, slots := 0, locals := 0 } (va_Pc [.int (nI x)] (fun _ => True)) (pQ ((nI ((prL x 21).1)))) 0 0 noA := by
  refine Met.ofW (cc := b_q_Grid_penaltyOfRuns) (maxL := 4) (ret := (some .int)) (by decide) rfl ?_
  intro p e s m args below meth c s₁ B hml hv0
  obtain ⟨rfl, -⟩ := hv0
  have hts := atoms_spec (ws := cd_q_Grid_penaltyOfRuns :: WS) B.pre
  have hown : s.vm.findClass R_Grid = some m.cls := findClass_of_methodNamed B.named
  have hlocks := B.notSynchronized
  have hl := lv_entry ([.int (nI x)]) (n := 4) (Nat.le_of_ble_eq_true rfl)
  rw [lg_entry_eq]
  generalize (lg_sl ([.int (nI x)]) ++ List.replicate (4 - (lg_sl ([.int (nI x)])).length) Slot.unset).toArray = ls at hl ⊢
  refine bd_q_Grid_penaltyOfRuns x hx0 ⟨B.exec, B.bytes, hml, hown, hts⟩ (Nat.le_refl _) (Nat.le_refl _) ⟨Nat.le_refl _, Nat.le_refl _⟩ (fun pc ls H locs hd hS => ?_) ls _ _ hl (va_S.rf (A := noA))
  exact W.iret B.exec B.bytes B.returns (fun t ht _ => ⟨⟨_, (), rfl, rfl, trivial⟩, hS.F ht⟩) hS.2.2 hd
end
section
theorem d_q_Grid_penaltyOfEyes_0 : decode b_q_Grid_penaltyOfEyes 0 = .ok (.iconst 0, 1) := by decide +kernel
theorem d_q_Grid_penaltyOfEyes_1 : decode b_q_Grid_penaltyOfEyes 1 = .ok (.istore_n 1, 1) := by decide +kernel
theorem d_q_Grid_penaltyOfEyes_2 : decode b_q_Grid_penaltyOfEyes 2 = .ok (.iconst 0, 1) := by decide +kernel
theorem d_q_Grid_penaltyOfEyes_3 : decode b_q_Grid_penaltyOfEyes 3 = .ok (.istore_n 2, 1) := by decide +kernel
theorem d_q_Grid_penaltyOfEyes_4 : decode b_q_Grid_penaltyOfEyes 4 = .ok (.iload_n 2, 1) := by decide +kernel
theorem d_q_Grid_penaltyOfEyes_5 : decode b_q_Grid_penaltyOfEyes 5 = .ok (.bipush 11, 2) := by decide +kernel
theorem d_q_Grid_penaltyOfEyes_7 : decode b_q_Grid_penaltyOfEyes 7 = .ok (.iadd, 1) := by decide +kernel
theorem d_q_Grid_penaltyOfEyes_8 : decode b_q_Grid_penaltyOfEyes 8 = .ok (.bipush 21, 2) := by decide +kernel
theorem d_q_Grid_penaltyOfEyes_10 : decode b_q_Grid_penaltyOfEyes 10 = .ok (.if_icmp .gt 33, 3) := by decide +kernel
theorem d_q_Grid_penaltyOfEyes_13 : decode b_q_Grid_penaltyOfEyes 13 = .ok (.iload_n 0, 1) := by decide +kernel
theorem d_q_Grid_penaltyOfEyes_14 : decode b_q_Grid_penaltyOfEyes 14 = .ok (.iload_n 2, 1) := by decide +kernel
theorem d_q_Grid_penaltyOfEyes_15 : decode b_q_Grid_penaltyOfEyes 15 = .ok (.ishr, 1) := by decide +kernel
theorem d_q_Grid_penaltyOfEyes_16 : decode b_q_Grid_penaltyOfEyes 16 = .ok (.sipush 2047, 3) := by decide +kernel
theorem d_q_Grid_penaltyOfEyes_19 : decode b_q_Grid_penaltyOfEyes 19 = .ok (.iand, 1) := by decide +kernel
theorem d_q_Grid_penaltyOfEyes_20 : decode b_q_Grid_penaltyOfEyes 20 = .ok (.istore_n 3, 1) := by decide +kernel
theorem d_q_Grid_penaltyOfEyes_21 : decode b_q_Grid_penaltyOfEyes 21 = .ok (.iload_n 3, 1) := by decide +kernel
theorem d_q_Grid_penaltyOfEyes_22 : decode b_q_Grid_penaltyOfEyes 22 = .ok (.sipush 1488, 3) := by decide +kernel
theorem d_q_Grid_penaltyOfEyes_25 : decode b_q_Grid_penaltyOfEyes 25 = .ok (.if_icmp .eq 9, 3) := by decide +kernel
theorem d_q_Grid_penaltyOfEyes_28 : decode b_q_Grid_penaltyOfEyes 28 = .ok (.iload_n 3, 1) := by decide +kernel
theorem d_q_Grid_penaltyOfEyes_29 : decode b_q_Grid_penaltyOfEyes 29 = .ok (.bipush 93, 2) := by decide +kernel
theorem d_q_Grid_penaltyOfEyes_31 : decode b_q_Grid_penaltyOfEyes 31 = .ok (.if_icmp .ne 6, 3) := by decide +kernel
theorem d_q_Grid_penaltyOfEyes_34 : decode b_q_Grid_penaltyOfEyes 34 = .ok (.iinc 1 40, 3) := by decide +kernel
theorem d_q_Grid_penaltyOfEyes_37 : decode b_q_Grid_penaltyOfEyes 37 = .ok (.iinc 2 1, 3) := by decide +kernel
theorem d_q_Grid_penaltyOfEyes_40 : decode b_q_Grid_penaltyOfEyes 40 = .ok (.goto (-36), 3) := by decide +kernel
theorem d_q_Grid_penaltyOfEyes_43 : decode b_q_Grid_penaltyOfEyes 43 = .ok (.iload_n 1, 1) := by decide +kernel
theorem d_q_Grid_penaltyOfEyes_44 : decode b_q_Grid_penaltyOfEyes 44 = .ok (.ireturn, 1) := by decide +kernel
end
section
variable {p : Program} {l : Launch} {e : Env} {R : Room} {s : State} {m : MethodId} {args : Array Value} {below : List Frame} {meth : Method} {c : Code} {cells slots : Nat} {Q : State → Prop} {A : Nat → Prop} {H0 : Heap} {D : va_G}
set_option maxHeartbeats 1000000 in
set_option maxRecDepth 100000 in
theorem lp_q_Grid_penaltyOfEyes_4 (x : Nat) (hx0 : x < 2097152) (S : CallFix p m c b_q_Grid_penaltyOfEyes 4 s args (cd_q_Grid_penaltyOfEyes :: WS) R_Grid) (hRf : 0 ≤ R.frames) (hRl : 0 ≤ R.locals) (hRc : cells ≤ R.cells ∧ slots ≤ R.slots) (kx : ∀ (ls : Array Slot) (H : Heap) (locs : List Loc), lv_has ls 4 [(0, .int (nI x)), (1, .int (nI (peL x 11))), (2, .int (nI 11))] → va_S A H0 H locs → W p l e R s m args below meth c H locs cells slots Q (F0 m 43 ls [])) :
    ∀ k, k ≤ 11 → ∀ (ls : Array Slot) (H : Heap) (locs : List Loc), lv_has ls 4 [(0, .int (nI x)), (1, .int (nI (peL x k))), (2, .int (nI k))] → va_S A H0 H locs → W p l e R s m args below meth c H locs cells slots Q (F0 m 4 ls []) := by
  obtain ⟨hx, hb, hml, hown, hts⟩ := id S
  refine up_loop (fun k hkk ih => ?_)
  intro ls H locs hl hS
  have hq : x / 2 ^ k < 2097152 := Nat.lt_of_le_of_lt (Nat.div_le_self _ _) hx0
  refine lv_iload_n hx hb d_q_Grid_penaltyOfEyes_4 rfl (lv_at hl 2 rfl) ?_
  refine lv_bipush (v := nI 11) hx hb d_q_Grid_penaltyOfEyes_5 (by decide) ?_
  refine n_iadd hx hb d_q_Grid_penaltyOfEyes_7 ?_
  refine lv_bipush (v := nI 21) hx hb d_q_Grid_penaltyOfEyes_8 (by decide) ?_
  refine n_icmp_gt hx hb d_q_Grid_penaltyOfEyes_10 (tgt := 43) rfl (by omega) (by omega) (fun g10 => ?_) (fun g10 => ?_)
  · skip
    obtain rfl : k = 11 := by omega
    exact kx ls H locs (lv_sub hl [0, 1, 2] rfl) hS
  · skip
    refine lv_iload_n hx hb d_q_Grid_penaltyOfEyes_13 rfl (lv_at hl 0 rfl) ?_
    refine lv_iload_n hx hb d_q_Grid_penaltyOfEyes_14 rfl (lv_at hl 2 rfl) ?_
    refine n_ishr hx hb d_q_Grid_penaltyOfEyes_15 (by omega) (by omega) ?_
    refine lv_sipush (v := nI 2047) hx hb d_q_Grid_penaltyOfEyes_16 (by decide) ?_
    refine n_iand hx hb d_q_Grid_penaltyOfEyes_19 ?_
    refine n_topn (show (x / 2 ^ k) &&& 2047 = x / 2 ^ k % 2048 from (Nat.and_two_pow_sub_one_eq_mod _ 11)) ?_
    refine lv_istore_n hx hb d_q_Grid_penaltyOfEyes_20 rfl hl (Nat.le_of_ble_eq_true rfl) rfl (fun ls hl => ?_)
    have hl : lv_has ls 4 [(3, .int (nI (x / 2 ^ k % 2048))), (0, .int (nI x)), (1, .int (nI (peL x k))), (2, .int (nI k))] := hl
    refine lv_iload_n hx hb d_q_Grid_penaltyOfEyes_21 rfl (lv_at hl 0 rfl) ?_
    refine lv_sipush (v := nI 1488) hx hb d_q_Grid_penaltyOfEyes_22 (by decide) ?_
    refine n_icmp_eq hx hb d_q_Grid_penaltyOfEyes_25 (tgt := 34) rfl (by omega) (by omega) (fun g25 => ?_) (fun g25 => ?_)
    · skip
      refine lv_iinc (k := 2) (v := nI (peL x (k + 1))) hx hb d_q_Grid_penaltyOfEyes_34 hl rfl ((nx_inc (peL x k) 40).trans (congrArg nI (by first | exact (peL_t g25).symm | exact (peL_u g31).symm))) (Nat.le_of_ble_eq_true rfl) rfl (fun ls hl => ?_)
      have hl : lv_has ls 4 [(1, .int (nI (peL x (k + 1)))), (3, .int (nI (x / 2 ^ k % 2048))), (0, .int (nI x)), (2, .int (nI k))] := hl
      refine lv_iinc (k := 3) (v := nI (k + 1)) hx hb d_q_Grid_penaltyOfEyes_37 hl rfl (nx_inc k 1) (Nat.le_of_ble_eq_true rfl) rfl (fun ls hl => ?_)
      have hl : lv_has ls 4 [(2, .int (nI (k + 1))), (1, .int (nI (peL x (k + 1)))), (3, .int (nI (x / 2 ^ k % 2048))), (0, .int (nI x))] := hl
      refine lv_goto hx hb d_q_Grid_penaltyOfEyes_40 (tgt := 4) rfl ?_
      exact ih (by omega) ls H locs (lv_sub hl [3, 1, 0] rfl) hS
    · skip
      refine lv_iload_n hx hb d_q_Grid_penaltyOfEyes_28 rfl (lv_at hl 0 rfl) ?_
      refine lv_bipush (v := nI 93) hx hb d_q_Grid_penaltyOfEyes_29 (by decide) ?_
      refine n_icmp_ne hx hb d_q_Grid_penaltyOfEyes_31 (tgt := 37) rfl (by omega) (by omega) (fun g31 => ?_) (fun g31 => ?_)
      · skip
        refine lv_iinc (k := 3) (v := nI (k + 1)) hx hb d_q_Grid_penaltyOfEyes_37 hl rfl (nx_inc k 1) (Nat.le_of_ble_eq_true rfl) rfl (fun ls hl => ?_)
        have hl : lv_has ls 4 [(2, .int (nI (k + 1))), (3, .int (nI (x / 2 ^ k % 2048))), (0, .int (nI x)), (1, .int (nI (peL x k)))] := hl
        refine lv_goto hx hb d_q_Grid_penaltyOfEyes_40 (tgt := 4) rfl ?_
        have qb1 : peL x k = peL x (k + 1) := (by first | exact (peL_f g25 g31).symm)
        exact ih (by omega) ls H locs (lv_re (l := [(0, .int (nI x)), (1, .int (nI (peL x k))), (2, .int (nI (k + 1)))]) (lv_sub hl [2, 3, 0] rfl) (by rw [qb1])) hS
      · skip
        refine lv_iinc (k := 2) (v := nI (peL x (k + 1))) hx hb d_q_Grid_penaltyOfEyes_34 hl rfl ((nx_inc (peL x k) 40).trans (congrArg nI (by first | exact (peL_t g25).symm | exact (peL_u g31).symm))) (Nat.le_of_ble_eq_true rfl) rfl (fun ls hl => ?_)
        have hl : lv_has ls 4 [(1, .int (nI (peL x (k + 1)))), (3, .int (nI (x / 2 ^ k % 2048))), (0, .int (nI x)), (2, .int (nI k))] := hl
        refine lv_iinc (k := 3) (v := nI (k + 1)) hx hb d_q_Grid_penaltyOfEyes_37 hl rfl (nx_inc k 1) (Nat.le_of_ble_eq_true rfl) rfl (fun ls hl => ?_)
        have hl : lv_has ls 4 [(2, .int (nI (k + 1))), (1, .int (nI (peL x (k + 1)))), (3, .int (nI (x / 2 ^ k % 2048))), (0, .int (nI x))] := hl
        refine lv_goto hx hb d_q_Grid_penaltyOfEyes_40 (tgt := 4) rfl ?_
        exact ih (by omega) ls H locs (lv_sub hl [3, 1, 0] rfl) hS
set_option maxHeartbeats 1000000 in
set_option maxRecDepth 100000 in
theorem bd_q_Grid_penaltyOfEyes (x : Nat) (hx0 : x < 2097152) (S : CallFix p m c b_q_Grid_penaltyOfEyes 4 s args (cd_q_Grid_penaltyOfEyes :: WS) R_Grid) (hRf : 0 ≤ R.frames) (hRl : 0 ≤ R.locals) (hRc : cells ≤ R.cells ∧ slots ≤ R.slots) (kr : ∀ (pc : Nat) (ls : Array Slot) (H : Heap) (locs : List Loc), decode b_q_Grid_penaltyOfEyes pc = .ok (.ireturn, 1) → va_S A H0 H locs → W p l e R s m args below meth c H locs cells slots Q (F0 m pc ls [.int (nI (peL x 11))])) : ∀ (ls : Array Slot) (H : Heap) (locs : List Loc), lv_has ls 4 [(0, .int (nI x))] → va_S A H0 H locs → W p l e R s m args below meth c H locs cells slots Q (F0 m 0 ls []) := by
  obtain ⟨hx, hb, hml, hown, hts⟩ := id S
  intro ls H locs hl hS
  refine lv_iconst (v := nI 0) hx hb d_q_Grid_penaltyOfEyes_0 (by decide) ?_
  refine lv_istore_n hx hb d_q_Grid_penaltyOfEyes_1 rfl hl (Nat.le_of_ble_eq_true rfl) rfl (fun ls hl => ?_)
  have hl : lv_has ls 4 [(1, .int (nI 0)), (0, .int (nI x))] := hl
  refine lv_iconst (v := nI 0) hx hb d_q_Grid_penaltyOfEyes_2 (by decide) ?_
  refine lv_istore_n hx hb d_q_Grid_penaltyOfEyes_3 rfl hl (Nat.le_of_ble_eq_true rfl) rfl (fun ls hl => ?_)
  have hl : lv_has ls 4 [(2, .int (nI 0)), (1, .int (nI 0)), (0, .int (nI x))] := hl
  refine lp_q_Grid_penaltyOfEyes_4 x hx0 S hRf hRl hRc  (fun ls H locs hl hS => ?_) 0 (by omega) ls H locs (lv_sub hl [2, 1, 0] rfl) hS
  refine lv_iload_n hx hb d_q_Grid_penaltyOfEyes_43 rfl (lv_at hl 1 rfl) ?_
  exact kr _ ls H locs d_q_Grid_penaltyOfEyes_44 hS
set_option maxHeartbeats 1000000 in
set_option maxRecDepth 100000 in
theorem c_q_Grid_penaltyOfEyes (l : Launch) (x : Nat) (hx0 : x < 2097152) : Met l y_q_Grid_penaltyOfEyes (cd_q_Grid_penaltyOfEyes :: WS) { frames := 0, cells := 0, slots := 0, locals := 0 } (va_Pc [.int (nI x)] (fun _ => True)) (pQ ((nI (peL x 11)))) 0 0 noA := by
  refine Met.ofW (cc := b_q_Grid_penaltyOfEyes) (maxL := 4) (ret := (some .int)) (by decide) rfl ?_
  intro p e s m args below meth c s₁ B hml hv0
  obtain ⟨rfl, -⟩ := hv0
  have hts := atoms_spec (ws := cd_q_Grid_penaltyOfEyes :: WS) B.pre
  have hown : s.vm.findClass R_Grid = some m.cls := findClass_of_methodNamed B.named
  have hlocks := B.notSynchronized
  have hl := lv_entry ([.int (nI x)]) (n := 4) (Nat.le_of_ble_eq_true rfl)
  rw [lg_entry_eq]
  generalize (lg_sl ([.int (nI x)]) ++ List.replicate (4 - (lg_sl ([.int (nI x)])).length) Slot.unset).toArray = ls at hl ⊢
  refine bd_q_Grid_penaltyOfEyes x hx0 ⟨B.exec, B.bytes, hml, hown, hts⟩ (Nat.le_refl _) (Nat.le_refl _) ⟨Nat.le_refl _, Nat.le_refl _⟩ (fun pc ls H locs hd hS => ?_) ls _ _ hl (va_S.rf (A := noA))
  exact W.iret B.exec B.bytes B.returns (fun t ht _ => ⟨⟨_, (), rfl, rfl, trivial⟩, hS.F ht⟩) hS.2.2 hd
end
section
theorem d_q_Grid_penaltyOfLine_0 : decode b_q_Grid_penaltyOfLine 0 = .ok (.iload_n 0, 1) := by decide +kernel
theorem d_q_Grid_penaltyOfLine_1 : decode b_q_Grid_penaltyOfLine 1 = .ok (.invokestatic 39, 3) := by decide +kernel
theorem d_q_Grid_penaltyOfLine_4 : decode b_q_Grid_penaltyOfLine 4 = .ok (.iload_n 0, 1) := by decide +kernel
theorem d_q_Grid_penaltyOfLine_5 : decode b_q_Grid_penaltyOfLine 5 = .ok (.invokestatic 42, 3) := by decide +kernel
theorem d_q_Grid_penaltyOfLine_8 : decode b_q_Grid_penaltyOfLine 8 = .ok (.iadd, 1) := by decide +kernel
theorem d_q_Grid_penaltyOfLine_9 : decode b_q_Grid_penaltyOfLine 9 = .ok (.ireturn, 1) := by decide +kernel
end
section
variable {p : Program} {l : Launch} {e : Env} {R : Room} {s : State} {m : MethodId} {args : Array Value} {below : List Frame} {meth : Method} {c : Code} {cells slots : Nat} {Q : State → Prop} {A : Nat → Prop} {H0 : Heap} {D : va_G}
set_option maxHeartbeats 1000000 in
set_option maxRecDepth 100000 in
theorem bd_q_Grid_penaltyOfLine (x : Nat) (hx0 : x < 2097152) (S : CallFix p m c b_q_Grid_penaltyOfLine 1 s args (cd_q_Grid_penaltyOfLine :: WS) R_Grid) (hRf : 1 ≤ R.frames) (hRl : 23 ≤ R.locals) (hRc : cells ≤ R.cells ∧ slots ≤ R.slots) (kr : ∀ (pc : Nat) (ls : Array Slot) (H : Heap) (locs : List Loc), decode b_q_Grid_penaltyOfLine pc = .ok (.ireturn, 1) → va_S A H0 H locs → W p l e R s m args below meth c H locs cells slots Q (F0 m pc ls [.int (nI ((prL x 21).1 + peL x 11))])) : ∀ (ls : Array Slot) (H : Heap) (locs : List Loc), lv_has ls 1 [(0, .int (nI x))] → va_S A H0 H locs → W p l e R s m args below meth c H locs cells slots Q (F0 m 0 ls []) := by
  obtain ⟨hx, hb, hml, hown, hts⟩ := id S
  intro ls H locs hl hS
  refine lv_iload_n hx hb d_q_Grid_penaltyOfLine_0 rfl (lv_at hl 0 rfl) ?_
  refine q_pureS (n := 1) (As := [.int (nI x)]) (rest := []) S (c_q_Grid_penaltyOfRuns l x (by omega)) (q_goodS kw_264 kw_265 kw_2 kw_266) (by decide +kernel) rfl rfl ⟨Nat.le_trans (Nat.le_of_ble_eq_true rfl) hRf, Nat.le_trans (Nat.le_of_ble_eq_true rfl) hRl⟩ rfl hl.1 rfl (Nat.le_of_ble_eq_true rfl) d_q_Grid_penaltyOfLine_1 hRc hS (fun H locs hkp hS => ?_)
  refine lv_iload_n hx hb d_q_Grid_penaltyOfLine_4 rfl (lv_at hl 0 rfl) ?_
  refine q_pureS (n := 1) (As := [.int (nI x)]) (rest := [.int (nI ((prL x 21).1))]) S (c_q_Grid_penaltyOfEyes l x (by omega)) (q_goodS kw_267 kw_268 kw_2 kw_269) (by decide +kernel) rfl rfl ⟨Nat.le_trans (Nat.le_of_ble_eq_true rfl) hRf, Nat.le_trans (Nat.le_of_ble_eq_true rfl) hRl⟩ rfl hl.1 rfl (Nat.le_of_ble_eq_true rfl) d_q_Grid_penaltyOfLine_5 hRc hS (fun H locs hkp hS => ?_)
  refine n_iadd hx hb d_q_Grid_penaltyOfLine_8 ?_
  refine n_topn (show ((prL x 21).1) + (peL x 11) = (prL x 21).1 + peL x 11 from rfl) ?_
  exact kr _ ls H locs d_q_Grid_penaltyOfLine_9 hS
set_option maxHeartbeats 1000000 in
set_option maxRecDepth 100000 in
theorem c_q_Grid_penaltyOfLine (l : Launch) (x : Nat) (hx0 : x < 2097152) : Met l y_q_Grid_penaltyOfLine (cd_q_Grid_penaltyOfLine :: WS) { frames := 1, cells := 0, slots := 0, locals := 23 } (va_Pc [.int (nI x)] (fun _ => True)) (pQ ((nI ((prL x 21).1 + peL x 11)))) 0 0 noA := by
  refine Met.ofW (cc := b_q_Grid_penaltyOfLine) (maxL := 1) (ret := (some .int)) (by decide) rfl ?_
  intro p e s m args below meth c s₁ B hml hv0
  obtain ⟨rfl, -⟩ := hv0
  have hts := atoms_spec (ws := cd_q_Grid_penaltyOfLine :: WS) B.pre
  have hown : s.vm.findClass R_Grid = some m.cls := findClass_of_methodNamed B.named
  have hlocks := B.notSynchronized
  have hl := lv_entry ([.int (nI x)]) (n := 1) (Nat.le_of_ble_eq_true rfl)
  rw [lg_entry_eq]
  generalize (lg_sl ([.int (nI x)]) ++ List.replicate (1 - (lg_sl ([.int (nI x)])).length) Slot.unset).toArray = ls at hl ⊢
  refine bd_q_Grid_penaltyOfLine x hx0 ⟨B.exec, B.bytes, hml, hown, hts⟩ (Nat.le_refl _) (Nat.le_refl _) ⟨Nat.le_refl _, Nat.le_refl _⟩ (fun pc ls H locs hd hS => ?_) ls _ _ hl (va_S.rf (A := noA))
  exact W.iret B.exec B.bytes B.returns (fun t ht _ => ⟨⟨_, (), rfl, rfl, trivial⟩, hS.F ht⟩) hS.2.2 hd
end
section
theorem d_q_Form_bitsOf_0 : decode b_q_Form_bitsOf 0 = .ok (.iload_n 0, 1) := by decide +kernel
theorem d_q_Form_bitsOf_1 : decode b_q_Form_bitsOf 1 = .ok (.bipush 10, 2) := by decide +kernel
theorem d_q_Form_bitsOf_3 : decode b_q_Form_bitsOf 3 = .ok (.ishl, 1) := by decide +kernel
theorem d_q_Form_bitsOf_4 : decode b_q_Form_bitsOf 4 = .ok (.istore_n 1, 1) := by decide +kernel
theorem d_q_Form_bitsOf_5 : decode b_q_Form_bitsOf 5 = .ok (.bipush 14, 2) := by decide +kernel
theorem d_q_Form_bitsOf_7 : decode b_q_Form_bitsOf 7 = .ok (.istore_n 2, 1) := by decide +kernel
theorem d_q_Form_bitsOf_8 : decode b_q_Form_bitsOf 8 = .ok (.iload_n 2, 1) := by decide +kernel
theorem d_q_Form_bitsOf_9 : decode b_q_Form_bitsOf 9 = .ok (.bipush 10, 2) := by decide +kernel
theorem d_q_Form_bitsOf_11 : decode b_q_Form_bitsOf 11 = .ok (.if_icmp .lt 29, 3) := by decide +kernel
theorem d_q_Form_bitsOf_14 : decode b_q_Form_bitsOf 14 = .ok (.iload_n 1, 1) := by decide +kernel
theorem d_q_Form_bitsOf_15 : decode b_q_Form_bitsOf 15 = .ok (.iload_n 2, 1) := by decide +kernel
theorem d_q_Form_bitsOf_16 : decode b_q_Form_bitsOf 16 = .ok (.ishr, 1) := by decide +kernel
theorem d_q_Form_bitsOf_17 : decode b_q_Form_bitsOf 17 = .ok (.iconst 1, 1) := by decide +kernel
theorem d_q_Form_bitsOf_18 : decode b_q_Form_bitsOf 18 = .ok (.iand, 1) := by decide +kernel
theorem d_q_Form_bitsOf_19 : decode b_q_Form_bitsOf 19 = .ok (.iconst 1, 1) := by decide +kernel
theorem d_q_Form_bitsOf_20 : decode b_q_Form_bitsOf 20 = .ok (.if_icmp .ne 14, 3) := by decide +kernel
theorem d_q_Form_bitsOf_23 : decode b_q_Form_bitsOf 23 = .ok (.iload_n 1, 1) := by decide +kernel
theorem d_q_Form_bitsOf_24 : decode b_q_Form_bitsOf 24 = .ok (.sipush 1335, 3) := by decide +kernel
theorem d_q_Form_bitsOf_27 : decode b_q_Form_bitsOf 27 = .ok (.iload_n 2, 1) := by decide +kernel
theorem d_q_Form_bitsOf_28 : decode b_q_Form_bitsOf 28 = .ok (.bipush 10, 2) := by decide +kernel
theorem d_q_Form_bitsOf_30 : decode b_q_Form_bitsOf 30 = .ok (.isub, 1) := by decide +kernel
theorem d_q_Form_bitsOf_31 : decode b_q_Form_bitsOf 31 = .ok (.ishl, 1) := by decide +kernel
theorem d_q_Form_bitsOf_32 : decode b_q_Form_bitsOf 32 = .ok (.ixor, 1) := by decide +kernel
theorem d_q_Form_bitsOf_33 : decode b_q_Form_bitsOf 33 = .ok (.istore_n 1, 1) := by decide +kernel
theorem d_q_Form_bitsOf_34 : decode b_q_Form_bitsOf 34 = .ok (.iinc 2 (-1), 3) := by decide +kernel
theorem d_q_Form_bitsOf_37 : decode b_q_Form_bitsOf 37 = .ok (.goto (-29), 3) := by decide +kernel
theorem d_q_Form_bitsOf_40 : decode b_q_Form_bitsOf 40 = .ok (.iload_n 0, 1) := by decide +kernel
theorem d_q_Form_bitsOf_41 : decode b_q_Form_bitsOf 41 = .ok (.bipush 10, 2) := by decide +kernel
theorem d_q_Form_bitsOf_43 : decode b_q_Form_bitsOf 43 = .ok (.ishl, 1) := by decide +kernel
theorem d_q_Form_bitsOf_44 : decode b_q_Form_bitsOf 44 = .ok (.iload_n 1, 1) := by decide +kernel
theorem d_q_Form_bitsOf_45 : decode b_q_Form_bitsOf 45 = .ok (.ior, 1) := by decide +kernel
theorem d_q_Form_bitsOf_46 : decode b_q_Form_bitsOf 46 = .ok (.sipush 21522, 3) := by decide +kernel
theorem d_q_Form_bitsOf_49 : decode b_q_Form_bitsOf 49 = .ok (.ixor, 1) := by decide +kernel
theorem d_q_Form_bitsOf_50 : decode b_q_Form_bitsOf 50 = .ok (.ireturn, 1) := by decide +kernel
end
section
variable {p : Program} {l : Launch} {e : Env} {R : Room} {s : State} {m : MethodId} {args : Array Value} {below : List Frame} {meth : Method} {c : Code} {cells slots : Nat} {Q : State → Prop} {A : Nat → Prop} {H0 : Heap} {D : va_G}
set_option maxHeartbeats 1000000 in
set_option maxRecDepth 100000 in
theorem lp_q_Form_bitsOf_8 (n : Nat) (hn : n < 32) (S : CallFix p m c b_q_Form_bitsOf 3 s args (cd_q_Form_bitsOf :: WS) R_Form) (hRf : 0 ≤ R.frames) (hRl : 0 ≤ R.locals) (hRc : cells ≤ R.cells ∧ slots ≤ R.slots) (kx : ∀ (ls : Array Slot) (H : Heap) (locs : List Loc), lv_has ls 3 [(0, .int (nI n)), (1, .int (nI (fmL (n * 2 ^ 10) 5))), (2, .int (nI (14 - 5)))] → va_S A H0 H locs → W p l e R s m args below meth c H locs cells slots Q (F0 m 40 ls [])) :
    ∀ k, k ≤ 5 → ∀ (ls : Array Slot) (H : Heap) (locs : List Loc), lv_has ls 3 [(0, .int (nI n)), (1, .int (nI (fmL (n * 2 ^ 10) k))), (2, .int (nI (14 - k)))] → va_S A H0 H locs → W p l e R s m args below meth c H locs cells slots Q (F0 m 8 ls []) := by
  obtain ⟨hx, hb, hml, hown, hts⟩ := id S
  refine up_loop (fun k hkk ih => ?_)
  intro ls H locs hl hS
  have hq := fmL_lt (r := n * 2 ^ 10) (by omega) k (by omega)
  refine lv_iload_n hx hb d_q_Form_bitsOf_8 rfl (lv_at hl 2 rfl) ?_
  refine lv_bipush (v := nI 10) hx hb d_q_Form_bitsOf_9 (by decide) ?_
  refine n_icmp_lt hx hb d_q_Form_bitsOf_11 (tgt := 40) rfl (by omega) (by omega) (fun g11 => ?_) (fun g11 => ?_)
  · skip
    obtain rfl : k = 5 := by omega
    exact kx ls H locs (lv_sub hl [0, 1, 2] rfl) hS
  · skip
    refine lv_iload_n hx hb d_q_Form_bitsOf_14 rfl (lv_at hl 1 rfl) ?_
    refine lv_iload_n hx hb d_q_Form_bitsOf_15 rfl (lv_at hl 2 rfl) ?_
    refine n_ishr hx hb d_q_Form_bitsOf_16 (by omega) (by omega) ?_
    refine lv_iconst (v := nI 1) hx hb d_q_Form_bitsOf_17 (by decide) ?_
    refine n_and1 hx hb d_q_Form_bitsOf_18 ?_
    refine lv_iconst (v := nI 1) hx hb d_q_Form_bitsOf_19 (by decide) ?_
    refine n_icmp_ne hx hb d_q_Form_bitsOf_20 (tgt := 34) rfl (by omega) (by omega) (fun g20 => ?_) (fun g20 => ?_)
    · skip
      refine lv_iinc (k := 2) (v := nI (14 - (k + 1))) hx hb d_q_Form_bitsOf_34 hl rfl (nx_decN (by omega)) (Nat.le_of_ble_eq_true rfl) rfl (fun ls hl => ?_)
      have hl : lv_has ls 3 [(2, .int (nI (14 - (k + 1)))), (0, .int (nI n)), (1, .int (nI (fmL (n * 2 ^ 10) k)))] := hl
      refine lv_goto hx hb d_q_Form_bitsOf_37 (tgt := 8) rfl ?_
      have qb1 : fmL (n * 2 ^ 10) k = fmL (n * 2 ^ 10) (k + 1) := (fmL_f g20).symm
      exact ih (by omega) ls H locs (lv_re (l := [(0, .int (nI n)), (1, .int (nI (fmL (n * 2 ^ 10) k))), (2, .int (nI (14 - (k + 1))))]) (lv_sub hl [1, 2, 0] rfl) (by rw [qb1])) hS
    · skip
      refine lv_iload_n hx hb d_q_Form_bitsOf_23 rfl (lv_at hl 1 rfl) ?_
      refine lv_sipush (v := nI 1335) hx hb d_q_Form_bitsOf_24 (by decide) ?_
      refine lv_iload_n hx hb d_q_Form_bitsOf_27 rfl (lv_at hl 2 rfl) ?_
      refine lv_bipush (v := nI 10) hx hb d_q_Form_bitsOf_28 (by decide) ?_
      refine n_isub hx hb d_q_Form_bitsOf_30 (by omega) ?_
      refine n_topn (show (14 - k) - 10 = 4 - k from (by omega)) ?_
      refine n_ishl hx hb d_q_Form_bitsOf_31 (by omega) ?_
      refine n_ixor hx hb d_q_Form_bitsOf_32 ?_
      refine n_topn (show (fmL (n * 2 ^ 10) k) ^^^ (1335 * 2 ^ (4 - k)) = fmL (n * 2 ^ 10) (k + 1) from (fmL_t g20).symm) ?_
      refine lv_istore_n hx hb d_q_Form_bitsOf_33 rfl hl (Nat.le_of_ble_eq_true rfl) rfl (fun ls hl => ?_)
      have hl : lv_has ls 3 [(1, .int (nI (fmL (n * 2 ^ 10) (k + 1)))), (0, .int (nI n)), (2, .int (nI (14 - k)))] := hl
      refine lv_iinc (k := 2) (v := nI (14 - (k + 1))) hx hb d_q_Form_bitsOf_34 hl rfl (nx_decN (by omega)) (Nat.le_of_ble_eq_true rfl) rfl (fun ls hl => ?_)
      have hl : lv_has ls 3 [(2, .int (nI (14 - (k + 1)))), (1, .int (nI (fmL (n * 2 ^ 10) (k + 1)))), (0, .int (nI n))] := hl
      refine lv_goto hx hb d_q_Form_bitsOf_37 (tgt := 8) rfl ?_
      exact ih (by omega) ls H locs (lv_sub hl [2, 1, 0] rfl) hS
set_option maxHeartbeats 1000000 in
set_option maxRecDepth 100000 in
theorem bd_q_Form_bitsOf (n : Nat) (hn : n < 32) (S : CallFix p m c b_q_Form_bitsOf 3 s args (cd_q_Form_bitsOf :: WS) R_Form) (hRf : 0 ≤ R.frames) (hRl : 0 ≤ R.locals) (hRc : cells ≤ R.cells ∧ slots ≤ R.slots) (kr : ∀ (pc : Nat) (ls : Array Slot) (H : Heap) (locs : List Loc), decode b_q_Form_bitsOf pc = .ok (.ireturn, 1) → va_S A H0 H locs → W p l e R s m args below meth c H locs cells slots Q (F0 m pc ls [.int (nI (fmW n))])) : ∀ (ls : Array Slot) (H : Heap) (locs : List Loc), lv_has ls 3 [(0, .int (nI n))] → va_S A H0 H locs → W p l e R s m args below meth c H locs cells slots Q (F0 m 0 ls []) := by
  obtain ⟨hx, hb, hml, hown, hts⟩ := id S
  intro ls H locs hl hS
  refine lv_iload_n hx hb d_q_Form_bitsOf_0 rfl (lv_at hl 0 rfl) ?_
  refine lv_bipush (v := nI 10) hx hb d_q_Form_bitsOf_1 (by decide) ?_
  refine n_ishl hx hb d_q_Form_bitsOf_3 (by omega) ?_
  refine lv_istore_n hx hb d_q_Form_bitsOf_4 rfl hl (Nat.le_of_ble_eq_true rfl) rfl (fun ls hl => ?_)
  have hl : lv_has ls 3 [(1, .int (nI (n * 2 ^ 10))), (0, .int (nI n))] := hl
  refine lv_bipush (v := nI 14) hx hb d_q_Form_bitsOf_5 (by decide) ?_
  refine lv_istore_n hx hb d_q_Form_bitsOf_7 rfl hl (Nat.le_of_ble_eq_true rfl) rfl (fun ls hl => ?_)
  have hl : lv_has ls 3 [(2, .int (nI 14)), (1, .int (nI (n * 2 ^ 10))), (0, .int (nI n))] := hl
  refine lp_q_Form_bitsOf_8 n hn S hRf hRl hRc  (fun ls H locs hl hS => ?_) 0 (by omega) ls H locs (lv_sub hl [2, 1, 0] rfl) hS
  refine lv_iload_n hx hb d_q_Form_bitsOf_40 rfl (lv_at hl 0 rfl) ?_
  refine lv_bipush (v := nI 10) hx hb d_q_Form_bitsOf_41 (by decide) ?_
  refine n_ishl hx hb d_q_Form_bitsOf_43 (by omega) ?_
  refine lv_iload_n hx hb d_q_Form_bitsOf_44 rfl (lv_at hl 1 rfl) ?_
  refine n_ior hx hb d_q_Form_bitsOf_45 ?_
  refine lv_sipush (v := nI 21522) hx hb d_q_Form_bitsOf_46 (by decide) ?_
  refine n_ixor hx hb d_q_Form_bitsOf_49 ?_
  refine n_topn (show ((n * 2 ^ 10) ||| (fmL (n * 2 ^ 10) 5)) ^^^ 21522 = fmW n from rfl) ?_
  exact kr _ ls H locs d_q_Form_bitsOf_50 hS
set_option maxHeartbeats 1000000 in
set_option maxRecDepth 100000 in
theorem c_q_Form_bitsOf (l : Launch) (n : Nat) (hn : n < 32) : Met l y_q_Form_bitsOf (cd_q_Form_bitsOf :: WS) { frames := 0, cells := 0, slots := 0, locals := 0 } (va_Pc [.int (nI n)] (fun _ => True)) (pQ ((nI (fmW n)))) 0 0 noA := by
  refine Met.ofW (cc := b_q_Form_bitsOf) (maxL := 3) (ret := (some .int)) (by decide) rfl ?_
  intro p e s m args below meth c s₁ B hml hv0
  obtain ⟨rfl, -⟩ := hv0
  have hts := atoms_spec (ws := cd_q_Form_bitsOf :: WS) B.pre
  have hown : s.vm.findClass R_Form = some m.cls := findClass_of_methodNamed B.named
  have hlocks := B.notSynchronized
  have hl := lv_entry ([.int (nI n)]) (n := 3) (Nat.le_of_ble_eq_true rfl)
  rw [lg_entry_eq]
  generalize (lg_sl ([.int (nI n)]) ++ List.replicate (3 - (lg_sl ([.int (nI n)])).length) Slot.unset).toArray = ls at hl ⊢
  refine bd_q_Form_bitsOf n hn ⟨B.exec, B.bytes, hml, hown, hts⟩ (Nat.le_refl _) (Nat.le_refl _) ⟨Nat.le_refl _, Nat.le_refl _⟩ (fun pc ls H locs hd hS => ?_) ls _ _ hl (va_S.rf (A := noA))
  exact W.iret B.exec B.bytes B.returns (fun t ht _ => ⟨⟨_, (), rfl, rfl, trivial⟩, hS.F ht⟩) hS.2.2 hd
end
section
theorem d_q_Layout_isDarkInEye_0 : decode b_q_Layout_isDarkInEye 0 = .ok (.iload_n 0, 1) := by decide +kernel
theorem d_q_Layout_isDarkInEye_1 : decode b_q_Layout_isDarkInEye 1 = .ok (.ifCond .eq 19, 3) := by decide +kernel
theorem d_q_Layout_isDarkInEye_4 : decode b_q_Layout_isDarkInEye 4 = .ok (.iload_n 0, 1) := by decide +kernel
theorem d_q_Layout_isDarkInEye_5 : decode b_q_Layout_isDarkInEye 5 = .ok (.bipush 6, 2) := by decide +kernel
theorem d_q_Layout_isDarkInEye_7 : decode b_q_Layout_isDarkInEye 7 = .ok (.if_icmp .eq 13, 3) := by decide +kernel
theorem d_q_Layout_isDarkInEye_10 : decode b_q_Layout_isDarkInEye 10 = .ok (.iload_n 1, 1) := by decide +kernel
theorem d_q_Layout_isDarkInEye_11 : decode b_q_Layout_isDarkInEye 11 = .ok (.ifCond .eq 9, 3) := by decide +kernel
theorem d_q_Layout_isDarkInEye_14 : decode b_q_Layout_isDarkInEye 14 = .ok (.iload_n 1, 1) := by decide +kernel
theorem d_q_Layout_isDarkInEye_15 : decode b_q_Layout_isDarkInEye 15 = .ok (.bipush 6, 2) := by decide +kernel
theorem d_q_Layout_isDarkInEye_17 : decode b_q_Layout_isDarkInEye 17 = .ok (.if_icmp .ne 7, 3) := by decide +kernel
theorem d_q_Layout_isDarkInEye_20 : decode b_q_Layout_isDarkInEye 20 = .ok (.iconst 1, 1) := by decide +kernel
theorem d_q_Layout_isDarkInEye_21 : decode b_q_Layout_isDarkInEye 21 = .ok (.goto 4, 3) := by decide +kernel
theorem d_q_Layout_isDarkInEye_24 : decode b_q_Layout_isDarkInEye 24 = .ok (.iconst 0, 1) := by decide +kernel
theorem d_q_Layout_isDarkInEye_25 : decode b_q_Layout_isDarkInEye 25 = .ok (.istore_n 2, 1) := by decide +kernel
theorem d_q_Layout_isDarkInEye_26 : decode b_q_Layout_isDarkInEye 26 = .ok (.iload_n 0, 1) := by decide +kernel
theorem d_q_Layout_isDarkInEye_27 : decode b_q_Layout_isDarkInEye 27 = .ok (.iconst 2, 1) := by decide +kernel
theorem d_q_Layout_isDarkInEye_28 : decode b_q_Layout_isDarkInEye 28 = .ok (.if_icmp .lt 22, 3) := by decide +kernel
theorem d_q_Layout_isDarkInEye_31 : decode b_q_Layout_isDarkInEye 31 = .ok (.iload_n 0, 1) := by decide +kernel
theorem d_q_Layout_isDarkInEye_32 : decode b_q_Layout_isDarkInEye 32 = .ok (.iconst 4, 1) := by decide +kernel
theorem d_q_Layout_isDarkInEye_33 : decode b_q_Layout_isDarkInEye 33 = .ok (.if_icmp .gt 17, 3) := by decide +kernel
theorem d_q_Layout_isDarkInEye_36 : decode b_q_Layout_isDarkInEye 36 = .ok (.iload_n 1, 1) := by decide +kernel
theorem d_q_Layout_isDarkInEye_37 : decode b_q_Layout_isDarkInEye 37 = .ok (.iconst 2, 1) := by decide +kernel
theorem d_q_Layout_isDarkInEye_38 : decode b_q_Layout_isDarkInEye 38 = .ok (.if_icmp .lt 12, 3) := by decide +kernel
theorem d_q_Layout_isDarkInEye_41 : decode b_q_Layout_isDarkInEye 41 = .ok (.iload_n 1, 1) := by decide +kernel
theorem d_q_Layout_isDarkInEye_42 : decode b_q_Layout_isDarkInEye 42 = .ok (.iconst 4, 1) := by decide +kernel
theorem d_q_Layout_isDarkInEye_43 : decode b_q_Layout_isDarkInEye 43 = .ok (.if_icmp .gt 7, 3) := by decide +kernel
theorem d_q_Layout_isDarkInEye_46 : decode b_q_Layout_isDarkInEye 46 = .ok (.iconst 1, 1) := by decide +kernel
theorem d_q_Layout_isDarkInEye_47 : decode b_q_Layout_isDarkInEye 47 = .ok (.goto 4, 3) := by decide +kernel
theorem d_q_Layout_isDarkInEye_50 : decode b_q_Layout_isDarkInEye 50 = .ok (.iconst 0, 1) := by decide +kernel
theorem d_q_Layout_isDarkInEye_51 : decode b_q_Layout_isDarkInEye 51 = .ok (.istore_n 3, 1) := by decide +kernel
theorem d_q_Layout_isDarkInEye_52 : decode b_q_Layout_isDarkInEye 52 = .ok (.iload_n 2, 1) := by decide +kernel
theorem d_q_Layout_isDarkInEye_53 : decode b_q_Layout_isDarkInEye 53 = .ok (.ifCond .ne 7, 3) := by decide +kernel
theorem d_q_Layout_isDarkInEye_56 : decode b_q_Layout_isDarkInEye 56 = .ok (.iload_n 3, 1) := by decide +kernel
theorem d_q_Layout_isDarkInEye_57 : decode b_q_Layout_isDarkInEye 57 = .ok (.ifCond .eq 7, 3) := by decide +kernel
theorem d_q_Layout_isDarkInEye_60 : decode b_q_Layout_isDarkInEye 60 = .ok (.iconst 1, 1) := by decide +kernel
theorem d_q_Layout_isDarkInEye_61 : decode b_q_Layout_isDarkInEye 61 = .ok (.goto 4, 3) := by decide +kernel
theorem d_q_Layout_isDarkInEye_64 : decode b_q_Layout_isDarkInEye 64 = .ok (.iconst 0, 1) := by decide +kernel
theorem d_q_Layout_isDarkInEye_65 : decode b_q_Layout_isDarkInEye 65 = .ok (.ireturn, 1) := by decide +kernel
end
section
variable {p : Program} {l : Launch} {e : Env} {R : Room} {s : State} {m : MethodId} {args : Array Value} {below : List Frame} {meth : Method} {c : Code} {cells slots : Nat} {Q : State → Prop} {A : Nat → Prop} {H0 : Heap} {D : va_G}
set_option maxHeartbeats 1000000 in
set_option maxRecDepth 100000 in
theorem sg_q_Layout_isDarkInEye_52 (i j b f : Nat) (hi : i < 7) (hj : j < 7) (hb1 : b = bN (i = 0 ∨ i = 6 ∨ j = 0 ∨ j = 6)) (hf1 : f = bN (2 ≤ i ∧ i ≤ 4 ∧ 2 ≤ j ∧ j ≤ 4)) (S : CallFix p m c b_q_Layout_isDarkInEye 4 s args (cd_q_Layout_isDarkInEye :: WS) R_Layout) (hRf : 0 ≤ R.frames) (hRl : 0 ≤ R.locals) (hRc : cells ≤ R.cells ∧ slots ≤ R.slots) (kr : ∀ (pc : Nat) (ls : Array Slot) (H : Heap) (locs : List Loc), decode b_q_Layout_isDarkInEye pc = .ok (.ireturn, 1) → va_S A H0 H locs → W p l e R s m args below meth c H locs cells slots Q (F0 m pc ls [.int (nI (fxI i j))])) : ∀ (ls : Array Slot) (H : Heap) (locs : List Loc), lv_has ls 4 [(0, .int (nI i)), (1, .int (nI j)), (2, .int (nI b)), (3, .int (nI f))] → va_S A H0 H locs → W p l e R s m args below meth c H locs cells slots Q (F0 m 52 ls []) := by
  obtain ⟨hx, hb, hml, hown, hts⟩ := id S
  intro ls H locs hl hS
  have hbn := bN_le (i = 0 ∨ i = 6 ∨ j = 0 ∨ j = 6)
  have hfn := bN_le (2 ≤ i ∧ i ≤ 4 ∧ 2 ≤ j ∧ j ≤ 4)
  refine lv_iload_n hx hb d_q_Layout_isDarkInEye_52 rfl (lv_at hl 2 rfl) ?_
  refine n_if_ne hx hb d_q_Layout_isDarkInEye_53 (tgt := 60) rfl (by omega) (fun g53 => ?_) (fun g53 => ?_)
  · skip
    refine lv_iconst (v := nI 1) hx hb d_q_Layout_isDarkInEye_60 (by decide) ?_
    refine lv_goto hx hb d_q_Layout_isDarkInEye_61 (tgt := 65) rfl ?_
    refine n_topn (show 1 = fxI i j from (by rw [hb1] at g53; simp only [bN_e0, bN_ne0] at g53; (try rw [hf1] at g57); (try simp only [bN_e0, bN_ne0] at g57); unfold fxI; (repeat' split) <;> omega)) ?_
    exact kr _ ls H locs d_q_Layout_isDarkInEye_65 hS
  · skip
    refine lv_iload_n hx hb d_q_Layout_isDarkInEye_56 rfl (lv_at hl 3 rfl) ?_
    refine n_if_eq hx hb d_q_Layout_isDarkInEye_57 (tgt := 64) rfl (by omega) (fun g57 => ?_) (fun g57 => ?_)
    · skip
      refine lv_iconst (v := nI 0) hx hb d_q_Layout_isDarkInEye_64 (by decide) ?_
      refine n_topn (show 0 = fxI i j from (by rw [hb1] at g53; simp only [bN_e0, bN_ne0] at g53; (try rw [hf1] at g57); (try simp only [bN_e0, bN_ne0] at g57); unfold fxI; (repeat' split) <;> omega)) ?_
      exact kr _ ls H locs d_q_Layout_isDarkInEye_65 hS
    · skip
      refine lv_iconst (v := nI 1) hx hb d_q_Layout_isDarkInEye_60 (by decide) ?_
      refine lv_goto hx hb d_q_Layout_isDarkInEye_61 (tgt := 65) rfl ?_
      refine n_topn (show 1 = fxI i j from (by rw [hb1] at g53; simp only [bN_e0, bN_ne0] at g53; (try rw [hf1] at g57); (try simp only [bN_e0, bN_ne0] at g57); unfold fxI; (repeat' split) <;> omega)) ?_
      exact kr _ ls H locs d_q_Layout_isDarkInEye_65 hS
set_option maxHeartbeats 1000000 in
set_option maxRecDepth 100000 in
theorem sg_q_Layout_isDarkInEye_26 (i j b : Nat) (hi : i < 7) (hj : j < 7) (hb1 : b = bN (i = 0 ∨ i = 6 ∨ j = 0 ∨ j = 6)) (S : CallFix p m c b_q_Layout_isDarkInEye 4 s args (cd_q_Layout_isDarkInEye :: WS) R_Layout) (hRf : 0 ≤ R.frames) (hRl : 0 ≤ R.locals) (hRc : cells ≤ R.cells ∧ slots ≤ R.slots) (kr : ∀ (pc : Nat) (ls : Array Slot) (H : Heap) (locs : List Loc), decode b_q_Layout_isDarkInEye pc = .ok (.ireturn, 1) → va_S A H0 H locs → W p l e R s m args below meth c H locs cells slots Q (F0 m pc ls [.int (nI (fxI i j))])) : ∀ (ls : Array Slot) (H : Heap) (locs : List Loc), lv_has ls 4 [(0, .int (nI i)), (1, .int (nI j)), (2, .int (nI b))] → va_S A H0 H locs → W p l e R s m args below meth c H locs cells slots Q (F0 m 26 ls []) := by
  obtain ⟨hx, hb, hml, hown, hts⟩ := id S
  intro ls H locs hl hS
  refine lv_iload_n hx hb d_q_Layout_isDarkInEye_26 rfl (lv_at hl 0 rfl) ?_
  refine lv_iconst (v := nI 2) hx hb d_q_Layout_isDarkInEye_27 (by decide) ?_
  refine n_icmp_lt hx hb d_q_Layout_isDarkInEye_28 (tgt := 50) rfl (by omega) (by omega) (fun g28 => ?_) (fun g28 => ?_)
  · skip
    refine lv_iconst (v := nI 0) hx hb d_q_Layout_isDarkInEye_50 (by decide) ?_
    refine lv_istore_n hx hb d_q_Layout_isDarkInEye_51 rfl hl (Nat.le_of_ble_eq_true rfl) rfl (fun ls hl => ?_)
    have hl : lv_has ls 4 [(3, .int (nI 0)), (0, .int (nI i)), (1, .int (nI j)), (2, .int (nI b))] := hl
    refine sg_q_Layout_isDarkInEye_52 i j b 0 (by first | omega | (unfold bN; (repeat' split) <;> omega)) (by first | omega | (unfold bN; (repeat' split) <;> omega)) (by first | omega | (unfold bN; (repeat' split) <;> omega)) (by first | omega | (unfold bN; (repeat' split) <;> omega)) S hRf hRl hRc (fun pc ls H locs hd hS => ?_) ls H locs (lv_sub hl [1, 2, 3, 0] rfl) hS
    exact kr _ ls H locs hd hS
  · skip
    refine lv_iload_n hx hb d_q_Layout_isDarkInEye_31 rfl (lv_at hl 0 rfl) ?_
    refine lv_iconst (v := nI 4) hx hb d_q_Layout_isDarkInEye_32 (by decide) ?_
    refine n_icmp_gt hx hb d_q_Layout_isDarkInEye_33 (tgt := 50) rfl (by omega) (by omega) (fun g33 => ?_) (fun g33 => ?_)
    · skip
      refine lv_iconst (v := nI 0) hx hb d_q_Layout_isDarkInEye_50 (by decide) ?_
      refine lv_istore_n hx hb d_q_Layout_isDarkInEye_51 rfl hl (Nat.le_of_ble_eq_true rfl) rfl (fun ls hl => ?_)
      have hl : lv_has ls 4 [(3, .int (nI 0)), (0, .int (nI i)), (1, .int (nI j)), (2, .int (nI b))] := hl
      refine sg_q_Layout_isDarkInEye_52 i j b 0 (by first | omega | (unfold bN; (repeat' split) <;> omega)) (by first | omega | (unfold bN; (repeat' split) <;> omega)) (by first | omega | (unfold bN; (repeat' split) <;> omega)) (by first | omega | (unfold bN; (repeat' split) <;> omega)) S hRf hRl hRc (fun pc ls H locs hd hS => ?_) ls H locs (lv_sub hl [1, 2, 3, 0] rfl) hS
      exact kr _ ls H locs hd hS
    · skip
      refine lv_iload_n hx hb d_q_Layout_isDarkInEye_36 rfl (lv_at hl 1 rfl) ?_
      refine lv_iconst (v := nI 2) hx hb d_q_Layout_isDarkInEye_37 (by decide) ?_
      refine n_icmp_lt hx hb d_q_Layout_isDarkInEye_38 (tgt := 50) rfl (by omega) (by omega) (fun g38 => ?_) (fun g38 => ?_)
      · skip
        refine lv_iconst (v := nI 0) hx hb d_q_Layout_isDarkInEye_50 (by decide) ?_
        refine lv_istore_n hx hb d_q_Layout_isDarkInEye_51 rfl hl (Nat.le_of_ble_eq_true rfl) rfl (fun ls hl => ?_)
        have hl : lv_has ls 4 [(3, .int (nI 0)), (0, .int (nI i)), (1, .int (nI j)), (2, .int (nI b))] := hl
        refine sg_q_Layout_isDarkInEye_52 i j b 0 (by first | omega | (unfold bN; (repeat' split) <;> omega)) (by first | omega | (unfold bN; (repeat' split) <;> omega)) (by first | omega | (unfold bN; (repeat' split) <;> omega)) (by first | omega | (unfold bN; (repeat' split) <;> omega)) S hRf hRl hRc (fun pc ls H locs hd hS => ?_) ls H locs (lv_sub hl [1, 2, 3, 0] rfl) hS
        exact kr _ ls H locs hd hS
      · skip
        refine lv_iload_n hx hb d_q_Layout_isDarkInEye_41 rfl (lv_at hl 1 rfl) ?_
        refine lv_iconst (v := nI 4) hx hb d_q_Layout_isDarkInEye_42 (by decide) ?_
        refine n_icmp_gt hx hb d_q_Layout_isDarkInEye_43 (tgt := 50) rfl (by omega) (by omega) (fun g43 => ?_) (fun g43 => ?_)
        · skip
          refine lv_iconst (v := nI 0) hx hb d_q_Layout_isDarkInEye_50 (by decide) ?_
          refine lv_istore_n hx hb d_q_Layout_isDarkInEye_51 rfl hl (Nat.le_of_ble_eq_true rfl) rfl (fun ls hl => ?_)
          have hl : lv_has ls 4 [(3, .int (nI 0)), (0, .int (nI i)), (1, .int (nI j)), (2, .int (nI b))] := hl
          refine sg_q_Layout_isDarkInEye_52 i j b 0 (by first | omega | (unfold bN; (repeat' split) <;> omega)) (by first | omega | (unfold bN; (repeat' split) <;> omega)) (by first | omega | (unfold bN; (repeat' split) <;> omega)) (by first | omega | (unfold bN; (repeat' split) <;> omega)) S hRf hRl hRc (fun pc ls H locs hd hS => ?_) ls H locs (lv_sub hl [1, 2, 3, 0] rfl) hS
          exact kr _ ls H locs hd hS
        · skip
          refine lv_iconst (v := nI 1) hx hb d_q_Layout_isDarkInEye_46 (by decide) ?_
          refine lv_goto hx hb d_q_Layout_isDarkInEye_47 (tgt := 51) rfl ?_
          refine lv_istore_n hx hb d_q_Layout_isDarkInEye_51 rfl hl (Nat.le_of_ble_eq_true rfl) rfl (fun ls hl => ?_)
          have hl : lv_has ls 4 [(3, .int (nI 1)), (0, .int (nI i)), (1, .int (nI j)), (2, .int (nI b))] := hl
          refine sg_q_Layout_isDarkInEye_52 i j b 1 (by first | omega | (unfold bN; (repeat' split) <;> omega)) (by first | omega | (unfold bN; (repeat' split) <;> omega)) (by first | omega | (unfold bN; (repeat' split) <;> omega)) (by first | omega | (unfold bN; (repeat' split) <;> omega)) S hRf hRl hRc (fun pc ls H locs hd hS => ?_) ls H locs (lv_sub hl [1, 2, 3, 0] rfl) hS
          exact kr _ ls H locs hd hS
set_option maxHeartbeats 1000000 in
set_option maxRecDepth 100000 in
theorem bd_q_Layout_isDarkInEye (i j : Nat) (hi : i < 7) (hj : j < 7) (S : CallFix p m c b_q_Layout_isDarkInEye 4 s args (cd_q_Layout_isDarkInEye :: WS) R_Layout) (hRf : 0 ≤ R.frames) (hRl : 0 ≤ R.locals) (hRc : cells ≤ R.cells ∧ slots ≤ R.slots) (kr : ∀ (pc : Nat) (ls : Array Slot) (H : Heap) (locs : List Loc), decode b_q_Layout_isDarkInEye pc = .ok (.ireturn, 1) → va_S A H0 H locs → W p l e R s m args below meth c H locs cells slots Q (F0 m pc ls [.int (nI (fxI i j))])) : ∀ (ls : Array Slot) (H : Heap) (locs : List Loc), lv_has ls 4 [(0, .int (nI i)), (1, .int (nI j))] → va_S A H0 H locs → W p l e R s m args below meth c H locs cells slots Q (F0 m 0 ls []) := by
  obtain ⟨hx, hb, hml, hown, hts⟩ := id S
  intro ls H locs hl hS
  refine lv_iload_n hx hb d_q_Layout_isDarkInEye_0 rfl (lv_at hl 0 rfl) ?_
  refine n_if_eq hx hb d_q_Layout_isDarkInEye_1 (tgt := 20) rfl (by omega) (fun g1 => ?_) (fun g1 => ?_)
  · skip
    refine lv_iconst (v := nI 1) hx hb d_q_Layout_isDarkInEye_20 (by decide) ?_
    refine lv_goto hx hb d_q_Layout_isDarkInEye_21 (tgt := 25) rfl ?_
    refine lv_istore_n hx hb d_q_Layout_isDarkInEye_25 rfl hl (Nat.le_of_ble_eq_true rfl) rfl (fun ls hl => ?_)
    have hl : lv_has ls 4 [(2, .int (nI 1)), (0, .int (nI i)), (1, .int (nI j))] := hl
    refine sg_q_Layout_isDarkInEye_26 i j 1 (by first | omega | (unfold bN; (repeat' split) <;> omega)) (by first | omega | (unfold bN; (repeat' split) <;> omega)) (by first | omega | (unfold bN; (repeat' split) <;> omega)) S hRf hRl hRc (fun pc ls H locs hd hS => ?_) ls H locs (lv_sub hl [1, 2, 0] rfl) hS
    exact kr _ ls H locs hd hS
  · skip
    refine lv_iload_n hx hb d_q_Layout_isDarkInEye_4 rfl (lv_at hl 0 rfl) ?_
    refine lv_bipush (v := nI 6) hx hb d_q_Layout_isDarkInEye_5 (by decide) ?_
    refine n_icmp_eq hx hb d_q_Layout_isDarkInEye_7 (tgt := 20) rfl (by omega) (by omega) (fun g7 => ?_) (fun g7 => ?_)
    · skip
      refine lv_iconst (v := nI 1) hx hb d_q_Layout_isDarkInEye_20 (by decide) ?_
      refine lv_goto hx hb d_q_Layout_isDarkInEye_21 (tgt := 25) rfl ?_
      refine lv_istore_n hx hb d_q_Layout_isDarkInEye_25 rfl hl (Nat.le_of_ble_eq_true rfl) rfl (fun ls hl => ?_)
      have hl : lv_has ls 4 [(2, .int (nI 1)), (0, .int (nI i)), (1, .int (nI j))] := hl
      refine sg_q_Layout_isDarkInEye_26 i j 1 (by first | omega | (unfold bN; (repeat' split) <;> omega)) (by first | omega | (unfold bN; (repeat' split) <;> omega)) (by first | omega | (unfold bN; (repeat' split) <;> omega)) S hRf hRl hRc (fun pc ls H locs hd hS => ?_) ls H locs (lv_sub hl [1, 2, 0] rfl) hS
      exact kr _ ls H locs hd hS
    · skip
      refine lv_iload_n hx hb d_q_Layout_isDarkInEye_10 rfl (lv_at hl 1 rfl) ?_
      refine n_if_eq hx hb d_q_Layout_isDarkInEye_11 (tgt := 20) rfl (by omega) (fun g11 => ?_) (fun g11 => ?_)
      · skip
        refine lv_iconst (v := nI 1) hx hb d_q_Layout_isDarkInEye_20 (by decide) ?_
        refine lv_goto hx hb d_q_Layout_isDarkInEye_21 (tgt := 25) rfl ?_
        refine lv_istore_n hx hb d_q_Layout_isDarkInEye_25 rfl hl (Nat.le_of_ble_eq_true rfl) rfl (fun ls hl => ?_)
        have hl : lv_has ls 4 [(2, .int (nI 1)), (0, .int (nI i)), (1, .int (nI j))] := hl
        refine sg_q_Layout_isDarkInEye_26 i j 1 (by first | omega | (unfold bN; (repeat' split) <;> omega)) (by first | omega | (unfold bN; (repeat' split) <;> omega)) (by first | omega | (unfold bN; (repeat' split) <;> omega)) S hRf hRl hRc (fun pc ls H locs hd hS => ?_) ls H locs (lv_sub hl [1, 2, 0] rfl) hS
        exact kr _ ls H locs hd hS
      · skip
        refine lv_iload_n hx hb d_q_Layout_isDarkInEye_14 rfl (lv_at hl 1 rfl) ?_
        refine lv_bipush (v := nI 6) hx hb d_q_Layout_isDarkInEye_15 (by decide) ?_
        refine n_icmp_ne hx hb d_q_Layout_isDarkInEye_17 (tgt := 24) rfl (by omega) (by omega) (fun g17 => ?_) (fun g17 => ?_)
        · skip
          refine lv_iconst (v := nI 0) hx hb d_q_Layout_isDarkInEye_24 (by decide) ?_
          refine lv_istore_n hx hb d_q_Layout_isDarkInEye_25 rfl hl (Nat.le_of_ble_eq_true rfl) rfl (fun ls hl => ?_)
          have hl : lv_has ls 4 [(2, .int (nI 0)), (0, .int (nI i)), (1, .int (nI j))] := hl
          refine sg_q_Layout_isDarkInEye_26 i j 0 (by first | omega | (unfold bN; (repeat' split) <;> omega)) (by first | omega | (unfold bN; (repeat' split) <;> omega)) (by first | omega | (unfold bN; (repeat' split) <;> omega)) S hRf hRl hRc (fun pc ls H locs hd hS => ?_) ls H locs (lv_sub hl [1, 2, 0] rfl) hS
          exact kr _ ls H locs hd hS
        · skip
          refine lv_iconst (v := nI 1) hx hb d_q_Layout_isDarkInEye_20 (by decide) ?_
          refine lv_goto hx hb d_q_Layout_isDarkInEye_21 (tgt := 25) rfl ?_
          refine lv_istore_n hx hb d_q_Layout_isDarkInEye_25 rfl hl (Nat.le_of_ble_eq_true rfl) rfl (fun ls hl => ?_)
          have hl : lv_has ls 4 [(2, .int (nI 1)), (0, .int (nI i)), (1, .int (nI j))] := hl
          refine sg_q_Layout_isDarkInEye_26 i j 1 (by first | omega | (unfold bN; (repeat' split) <;> omega)) (by first | omega | (unfold bN; (repeat' split) <;> omega)) (by first | omega | (unfold bN; (repeat' split) <;> omega)) S hRf hRl hRc (fun pc ls H locs hd hS => ?_) ls H locs (lv_sub hl [1, 2, 0] rfl) hS
          exact kr _ ls H locs hd hS
set_option maxHeartbeats 1000000 in
set_option maxRecDepth 100000 in
theorem c_q_Layout_isDarkInEye (l : Launch) (i j : Nat) (hi : i < 7) (hj : j < 7) : Met l y_q_Layout_isDarkInEye (cd_q_Layout_isDarkInEye :: WS) { frames := 0, cells := 0, slots := 0, locals := 0 } (va_Pc [.int (nI i), .int (nI j)] (fun _ => True)) (pQ ((nI (fxI i j)))) 0 0 noA := by
  refine Met.ofW (cc := b_q_Layout_isDarkInEye) (maxL := 4) (ret := (some .boolean)) (by decide) rfl ?_
  intro p e s m args below meth c s₁ B hml hv0
  obtain ⟨rfl, -⟩ := hv0
  have hts := atoms_spec (ws := cd_q_Layout_isDarkInEye :: WS) B.pre
  have hown : s.vm.findClass R_Layout = some m.cls := findClass_of_methodNamed B.named
  have hlocks := B.notSynchronized
  have hl := lv_entry ([.int (nI i), .int (nI j)]) (n := 4) (Nat.le_of_ble_eq_true rfl)
  rw [lg_entry_eq]
  generalize (lg_sl ([.int (nI i), .int (nI j)]) ++ List.replicate (4 - (lg_sl ([.int (nI i), .int (nI j)])).length) Slot.unset).toArray = ls at hl ⊢
  refine bd_q_Layout_isDarkInEye i j hi hj ⟨B.exec, B.bytes, hml, hown, hts⟩ (Nat.le_refl _) (Nat.le_refl _) ⟨Nat.le_refl _, Nat.le_refl _⟩ (fun pc ls H locs hd hS => ?_) ls _ _ hl (va_S.rf (A := noA))
  exact W.zret B.exec B.bytes B.returns (fxI_fit _ _) (fun t ht _ => ⟨⟨_, (), rfl, rfl, trivial⟩, hS.F ht⟩) hS.2.2 hd
end
section
theorem d_q_Layout_isData_0 : decode b_q_Layout_isData 0 = .ok (.iload_n 0, 1) := by decide +kernel
theorem d_q_Layout_isData_1 : decode b_q_Layout_isData 1 = .ok (.bipush 8, 2) := by decide +kernel
theorem d_q_Layout_isData_3 : decode b_q_Layout_isData 3 = .ok (.if_icmp .gt 9, 3) := by decide +kernel
theorem d_q_Layout_isData_6 : decode b_q_Layout_isData 6 = .ok (.iload_n 1, 1) := by decide +kernel
theorem d_q_Layout_isData_7 : decode b_q_Layout_isData 7 = .ok (.bipush 8, 2) := by decide +kernel
theorem d_q_Layout_isData_9 : decode b_q_Layout_isData 9 = .ok (.if_icmp .le 27, 3) := by decide +kernel
theorem d_q_Layout_isData_12 : decode b_q_Layout_isData 12 = .ok (.iload_n 0, 1) := by decide +kernel
theorem d_q_Layout_isData_13 : decode b_q_Layout_isData 13 = .ok (.bipush 8, 2) := by decide +kernel
theorem d_q_Layout_isData_15 : decode b_q_Layout_isData 15 = .ok (.if_icmp .gt 9, 3) := by decide +kernel
theorem d_q_Layout_isData_18 : decode b_q_Layout_isData 18 = .ok (.iload_n 1, 1) := by decide +kernel
theorem d_q_Layout_isData_19 : decode b_q_Layout_isData 19 = .ok (.bipush 13, 2) := by decide +kernel
theorem d_q_Layout_isData_21 : decode b_q_Layout_isData 21 = .ok (.if_icmp .ge 15, 3) := by decide +kernel
theorem d_q_Layout_isData_24 : decode b_q_Layout_isData 24 = .ok (.iload_n 0, 1) := by decide +kernel
theorem d_q_Layout_isData_25 : decode b_q_Layout_isData 25 = .ok (.bipush 13, 2) := by decide +kernel
theorem d_q_Layout_isData_27 : decode b_q_Layout_isData 27 = .ok (.if_icmp .lt 13, 3) := by decide +kernel
theorem d_q_Layout_isData_30 : decode b_q_Layout_isData 30 = .ok (.iload_n 1, 1) := by decide +kernel
theorem d_q_Layout_isData_31 : decode b_q_Layout_isData 31 = .ok (.bipush 8, 2) := by decide +kernel
theorem d_q_Layout_isData_33 : decode b_q_Layout_isData 33 = .ok (.if_icmp .gt 7, 3) := by decide +kernel
theorem d_q_Layout_isData_36 : decode b_q_Layout_isData 36 = .ok (.iconst 1, 1) := by decide +kernel
theorem d_q_Layout_isData_37 : decode b_q_Layout_isData 37 = .ok (.goto 4, 3) := by decide +kernel
theorem d_q_Layout_isData_40 : decode b_q_Layout_isData 40 = .ok (.iconst 0, 1) := by decide +kernel
theorem d_q_Layout_isData_41 : decode b_q_Layout_isData 41 = .ok (.istore_n 2, 1) := by decide +kernel
theorem d_q_Layout_isData_42 : decode b_q_Layout_isData 42 = .ok (.iload_n 2, 1) := by decide +kernel
theorem d_q_Layout_isData_43 : decode b_q_Layout_isData 43 = .ok (.ifCond .ne 19, 3) := by decide +kernel
theorem d_q_Layout_isData_46 : decode b_q_Layout_isData 46 = .ok (.iload_n 0, 1) := by decide +kernel
theorem d_q_Layout_isData_47 : decode b_q_Layout_isData 47 = .ok (.bipush 6, 2) := by decide +kernel
theorem d_q_Layout_isData_49 : decode b_q_Layout_isData 49 = .ok (.if_icmp .eq 13, 3) := by decide +kernel
theorem d_q_Layout_isData_52 : decode b_q_Layout_isData 52 = .ok (.iload_n 1, 1) := by decide +kernel
theorem d_q_Layout_isData_53 : decode b_q_Layout_isData 53 = .ok (.bipush 6, 2) := by decide +kernel
theorem d_q_Layout_isData_55 : decode b_q_Layout_isData 55 = .ok (.if_icmp .eq 7, 3) := by decide +kernel
theorem d_q_Layout_isData_58 : decode b_q_Layout_isData 58 = .ok (.iconst 1, 1) := by decide +kernel
theorem d_q_Layout_isData_59 : decode b_q_Layout_isData 59 = .ok (.goto 4, 3) := by decide +kernel
theorem d_q_Layout_isData_62 : decode b_q_Layout_isData 62 = .ok (.iconst 0, 1) := by decide +kernel
theorem d_q_Layout_isData_63 : decode b_q_Layout_isData 63 = .ok (.ireturn, 1) := by decide +kernel
end
section
variable {p : Program} {l : Launch} {e : Env} {R : Room} {s : State} {m : MethodId} {args : Array Value} {below : List Frame} {meth : Method} {c : Code} {cells slots : Nat} {Q : State → Prop} {A : Nat → Prop} {H0 : Heap} {D : va_G}
set_option maxHeartbeats 1000000 in
set_option maxRecDepth 100000 in
theorem sg_q_Layout_isData_42 (r d b : Nat) (hr : r < 21) (hd : d < 21) (hb1 : b = bN ((r ≤ 8 ∧ d ≤ 8) ∨ (r ≤ 8 ∧ 13 ≤ d) ∨ (13 ≤ r ∧ d ≤ 8))) (S : CallFix p m c b_q_Layout_isData 3 s args (cd_q_Layout_isData :: WS) R_Layout) (hRf : 0 ≤ R.frames) (hRl : 0 ≤ R.locals) (hRc : cells ≤ R.cells ∧ slots ≤ R.slots) (kr : ∀ (pc : Nat) (ls : Array Slot) (H : Heap) (locs : List Loc), decode b_q_Layout_isData pc = .ok (.ireturn, 1) → va_S A H0 H locs → W p l e R s m args below meth c H locs cells slots Q (F0 m pc ls [.int (nI (bN (isDt r d)))])) : ∀ (ls : Array Slot) (H : Heap) (locs : List Loc), lv_has ls 3 [(0, .int (nI r)), (1, .int (nI d)), (2, .int (nI b))] → va_S A H0 H locs → W p l e R s m args below meth c H locs cells slots Q (F0 m 42 ls []) := by
  obtain ⟨hx, hb, hml, hown, hts⟩ := id S
  intro ls H locs hl hS
  have hbn := bN_le ((r ≤ 8 ∧ d ≤ 8) ∨ (r ≤ 8 ∧ 13 ≤ d) ∨ (13 ≤ r ∧ d ≤ 8))
  refine lv_iload_n hx hb d_q_Layout_isData_42 rfl (lv_at hl 2 rfl) ?_
  refine n_if_ne hx hb d_q_Layout_isData_43 (tgt := 62) rfl (by omega) (fun g43 => ?_) (fun g43 => ?_)
  · skip
    refine lv_iconst (v := nI 0) hx hb d_q_Layout_isData_62 (by decide) ?_
    refine n_topn (show 0 = bN (isDt r d) from (by rw [hb1] at g43; simp only [bN_e0, bN_ne0] at g43; unfold bN isDt; (repeat' split) <;> omega)) ?_
    exact kr _ ls H locs d_q_Layout_isData_63 hS
  · skip
    refine lv_iload_n hx hb d_q_Layout_isData_46 rfl (lv_at hl 0 rfl) ?_
    refine lv_bipush (v := nI 6) hx hb d_q_Layout_isData_47 (by decide) ?_
    refine n_icmp_eq hx hb d_q_Layout_isData_49 (tgt := 62) rfl (by omega) (by omega) (fun g49 => ?_) (fun g49 => ?_)
    · skip
      refine lv_iconst (v := nI 0) hx hb d_q_Layout_isData_62 (by decide) ?_
      refine n_topn (show 0 = bN (isDt r d) from (by rw [hb1] at g43; simp only [bN_e0, bN_ne0] at g43; unfold bN isDt; (repeat' split) <;> omega)) ?_
      exact kr _ ls H locs d_q_Layout_isData_63 hS
    · skip
      refine lv_iload_n hx hb d_q_Layout_isData_52 rfl (lv_at hl 1 rfl) ?_
      refine lv_bipush (v := nI 6) hx hb d_q_Layout_isData_53 (by decide) ?_
      refine n_icmp_eq hx hb d_q_Layout_isData_55 (tgt := 62) rfl (by omega) (by omega) (fun g55 => ?_) (fun g55 => ?_)
      · skip
        refine lv_iconst (v := nI 0) hx hb d_q_Layout_isData_62 (by decide) ?_
        refine n_topn (show 0 = bN (isDt r d) from (by rw [hb1] at g43; simp only [bN_e0, bN_ne0] at g43; unfold bN isDt; (repeat' split) <;> omega)) ?_
        exact kr _ ls H locs d_q_Layout_isData_63 hS
      · skip
        refine lv_iconst (v := nI 1) hx hb d_q_Layout_isData_58 (by decide) ?_
        refine lv_goto hx hb d_q_Layout_isData_59 (tgt := 63) rfl ?_
        refine n_topn (show 1 = bN (isDt r d) from (by rw [hb1] at g43; simp only [bN_e0, bN_ne0] at g43; unfold bN isDt; (repeat' split) <;> omega)) ?_
        exact kr _ ls H locs d_q_Layout_isData_63 hS
set_option maxHeartbeats 1000000 in
set_option maxRecDepth 100000 in
theorem bd_q_Layout_isData (r d : Nat) (hr : r < 21) (hd : d < 21) (S : CallFix p m c b_q_Layout_isData 3 s args (cd_q_Layout_isData :: WS) R_Layout) (hRf : 0 ≤ R.frames) (hRl : 0 ≤ R.locals) (hRc : cells ≤ R.cells ∧ slots ≤ R.slots) (kr : ∀ (pc : Nat) (ls : Array Slot) (H : Heap) (locs : List Loc), decode b_q_Layout_isData pc = .ok (.ireturn, 1) → va_S A H0 H locs → W p l e R s m args below meth c H locs cells slots Q (F0 m pc ls [.int (nI (bN (isDt r d)))])) : ∀ (ls : Array Slot) (H : Heap) (locs : List Loc), lv_has ls 3 [(0, .int (nI r)), (1, .int (nI d))] → va_S A H0 H locs → W p l e R s m args below meth c H locs cells slots Q (F0 m 0 ls []) := by
  obtain ⟨hx, hb, hml, hown, hts⟩ := id S
  intro ls H locs hl hS
  refine lv_iload_n hx hb d_q_Layout_isData_0 rfl (lv_at hl 0 rfl) ?_
  refine lv_bipush (v := nI 8) hx hb d_q_Layout_isData_1 (by decide) ?_
  refine n_icmp_gt hx hb d_q_Layout_isData_3 (tgt := 12) rfl (by omega) (by omega) (fun g3 => ?_) (fun g3 => ?_)
  · skip
    refine lv_iload_n hx hb d_q_Layout_isData_12 rfl (lv_at hl 0 rfl) ?_
    refine lv_bipush (v := nI 8) hx hb d_q_Layout_isData_13 (by decide) ?_
    refine n_icmp_gt hx hb d_q_Layout_isData_15 (tgt := 24) rfl (by omega) (by omega) (fun g15 => ?_) (fun g15 => ?_)
    · skip
      refine lv_iload_n hx hb d_q_Layout_isData_24 rfl (lv_at hl 0 rfl) ?_
      refine lv_bipush (v := nI 13) hx hb d_q_Layout_isData_25 (by decide) ?_
      refine n_icmp_lt hx hb d_q_Layout_isData_27 (tgt := 40) rfl (by omega) (by omega) (fun g27 => ?_) (fun g27 => ?_)
      · skip
        refine lv_iconst (v := nI 0) hx hb d_q_Layout_isData_40 (by decide) ?_
        refine lv_istore_n hx hb d_q_Layout_isData_41 rfl hl (Nat.le_of_ble_eq_true rfl) rfl (fun ls hl => ?_)
        have hl : lv_has ls 3 [(2, .int (nI 0)), (0, .int (nI r)), (1, .int (nI d))] := hl
        refine sg_q_Layout_isData_42 r d 0 (by first | omega | (unfold bN; (repeat' split) <;> omega)) (by first | omega | (unfold bN; (repeat' split) <;> omega)) (by first | omega | (unfold bN; (repeat' split) <;> omega)) S hRf hRl hRc (fun pc ls H locs hd hS => ?_) ls H locs (lv_sub hl [1, 2, 0] rfl) hS
        exact kr _ ls H locs hd hS
      · skip
        refine lv_iload_n hx hb d_q_Layout_isData_30 rfl (lv_at hl 1 rfl) ?_
        refine lv_bipush (v := nI 8) hx hb d_q_Layout_isData_31 (by decide) ?_
        refine n_icmp_gt hx hb d_q_Layout_isData_33 (tgt := 40) rfl (by omega) (by omega) (fun g33 => ?_) (fun g33 => ?_)
        · skip
          refine lv_iconst (v := nI 0) hx hb d_q_Layout_isData_40 (by decide) ?_
          refine lv_istore_n hx hb d_q_Layout_isData_41 rfl hl (Nat.le_of_ble_eq_true rfl) rfl (fun ls hl => ?_)
          have hl : lv_has ls 3 [(2, .int (nI 0)), (0, .int (nI r)), (1, .int (nI d))] := hl
          refine sg_q_Layout_isData_42 r d 0 (by first | omega | (unfold bN; (repeat' split) <;> omega)) (by first | omega | (unfold bN; (repeat' split) <;> omega)) (by first | omega | (unfold bN; (repeat' split) <;> omega)) S hRf hRl hRc (fun pc ls H locs hd hS => ?_) ls H locs (lv_sub hl [1, 2, 0] rfl) hS
          exact kr _ ls H locs hd hS
        · skip
          refine lv_iconst (v := nI 1) hx hb d_q_Layout_isData_36 (by decide) ?_
          refine lv_goto hx hb d_q_Layout_isData_37 (tgt := 41) rfl ?_
          refine lv_istore_n hx hb d_q_Layout_isData_41 rfl hl (Nat.le_of_ble_eq_true rfl) rfl (fun ls hl => ?_)
          have hl : lv_has ls 3 [(2, .int (nI 1)), (0, .int (nI r)), (1, .int (nI d))] := hl
          refine sg_q_Layout_isData_42 r d 1 (by first | omega | (unfold bN; (repeat' split) <;> omega)) (by first | omega | (unfold bN; (repeat' split) <;> omega)) (by first | omega | (unfold bN; (repeat' split) <;> omega)) S hRf hRl hRc (fun pc ls H locs hd hS => ?_) ls H locs (lv_sub hl [1, 2, 0] rfl) hS
          exact kr _ ls H locs hd hS
    · skip
      refine lv_iload_n hx hb d_q_Layout_isData_18 rfl (lv_at hl 1 rfl) ?_
      refine lv_bipush (v := nI 13) hx hb d_q_Layout_isData_19 (by decide) ?_
      refine n_icmp_ge hx hb d_q_Layout_isData_21 (tgt := 36) rfl (by omega) (by omega) (fun g21 => ?_) (fun g21 => ?_)
      · skip
        refine lv_iconst (v := nI 1) hx hb d_q_Layout_isData_36 (by decide) ?_
        refine lv_goto hx hb d_q_Layout_isData_37 (tgt := 41) rfl ?_
        refine lv_istore_n hx hb d_q_Layout_isData_41 rfl hl (Nat.le_of_ble_eq_true rfl) rfl (fun ls hl => ?_)
        have hl : lv_has ls 3 [(2, .int (nI 1)), (0, .int (nI r)), (1, .int (nI d))] := hl
        refine sg_q_Layout_isData_42 r d 1 (by first | omega | (unfold bN; (repeat' split) <;> omega)) (by first | omega | (unfold bN; (repeat' split) <;> omega)) (by first | omega | (unfold bN; (repeat' split) <;> omega)) S hRf hRl hRc (fun pc ls H locs hd hS => ?_) ls H locs (lv_sub hl [1, 2, 0] rfl) hS
        exact kr _ ls H locs hd hS
      · skip
        refine lv_iload_n hx hb d_q_Layout_isData_24 rfl (lv_at hl 0 rfl) ?_
        refine lv_bipush (v := nI 13) hx hb d_q_Layout_isData_25 (by decide) ?_
        refine n_icmp_lt hx hb d_q_Layout_isData_27 (tgt := 40) rfl (by omega) (by omega) (fun g27 => ?_) (fun g27 => ?_)
        · skip
          refine lv_iconst (v := nI 0) hx hb d_q_Layout_isData_40 (by decide) ?_
          refine lv_istore_n hx hb d_q_Layout_isData_41 rfl hl (Nat.le_of_ble_eq_true rfl) rfl (fun ls hl => ?_)
          have hl : lv_has ls 3 [(2, .int (nI 0)), (0, .int (nI r)), (1, .int (nI d))] := hl
          refine sg_q_Layout_isData_42 r d 0 (by first | omega | (unfold bN; (repeat' split) <;> omega)) (by first | omega | (unfold bN; (repeat' split) <;> omega)) (by first | omega | (unfold bN; (repeat' split) <;> omega)) S hRf hRl hRc (fun pc ls H locs hd hS => ?_) ls H locs (lv_sub hl [1, 2, 0] rfl) hS
          exact kr _ ls H locs hd hS
        · skip
          refine lv_iload_n hx hb d_q_Layout_isData_30 rfl (lv_at hl 1 rfl) ?_
          refine lv_bipush (v := nI 8) hx hb d_q_Layout_isData_31 (by decide) ?_
          refine n_icmp_gt hx hb d_q_Layout_isData_33 (tgt := 40) rfl (by omega) (by omega) (fun g33 => ?_) (fun g33 => ?_)
          · skip
            refine lv_iconst (v := nI 0) hx hb d_q_Layout_isData_40 (by decide) ?_
            refine lv_istore_n hx hb d_q_Layout_isData_41 rfl hl (Nat.le_of_ble_eq_true rfl) rfl (fun ls hl => ?_)
            have hl : lv_has ls 3 [(2, .int (nI 0)), (0, .int (nI r)), (1, .int (nI d))] := hl
            refine sg_q_Layout_isData_42 r d 0 (by first | omega | (unfold bN; (repeat' split) <;> omega)) (by first | omega | (unfold bN; (repeat' split) <;> omega)) (by first | omega | (unfold bN; (repeat' split) <;> omega)) S hRf hRl hRc (fun pc ls H locs hd hS => ?_) ls H locs (lv_sub hl [1, 2, 0] rfl) hS
            exact kr _ ls H locs hd hS
          · skip
            refine lv_iconst (v := nI 1) hx hb d_q_Layout_isData_36 (by decide) ?_
            refine lv_goto hx hb d_q_Layout_isData_37 (tgt := 41) rfl ?_
            refine lv_istore_n hx hb d_q_Layout_isData_41 rfl hl (Nat.le_of_ble_eq_true rfl) rfl (fun ls hl => ?_)
            have hl : lv_has ls 3 [(2, .int (nI 1)), (0, .int (nI r)), (1, .int (nI d))] := hl
            refine sg_q_Layout_isData_42 r d 1 (by first | omega | (unfold bN; (repeat' split) <;> omega)) (by first | omega | (unfold bN; (repeat' split) <;> omega)) (by first | omega | (unfold bN; (repeat' split) <;> omega)) S hRf hRl hRc (fun pc ls H locs hd hS => ?_) ls H locs (lv_sub hl [1, 2, 0] rfl) hS
            exact kr _ ls H locs hd hS
  · skip
    refine lv_iload_n hx hb d_q_Layout_isData_6 rfl (lv_at hl 1 rfl) ?_
    refine lv_bipush (v := nI 8) hx hb d_q_Layout_isData_7 (by decide) ?_
    refine n_icmp_le hx hb d_q_Layout_isData_9 (tgt := 36) rfl (by omega) (by omega) (fun g9 => ?_) (fun g9 => ?_)
    · skip
      refine lv_iconst (v := nI 1) hx hb d_q_Layout_isData_36 (by decide) ?_
      refine lv_goto hx hb d_q_Layout_isData_37 (tgt := 41) rfl ?_
      refine lv_istore_n hx hb d_q_Layout_isData_41 rfl hl (Nat.le_of_ble_eq_true rfl) rfl (fun ls hl => ?_)
      have hl : lv_has ls 3 [(2, .int (nI 1)), (0, .int (nI r)), (1, .int (nI d))] := hl
      refine sg_q_Layout_isData_42 r d 1 (by first | omega | (unfold bN; (repeat' split) <;> omega)) (by first | omega | (unfold bN; (repeat' split) <;> omega)) (by first | omega | (unfold bN; (repeat' split) <;> omega)) S hRf hRl hRc (fun pc ls H locs hd hS => ?_) ls H locs (lv_sub hl [1, 2, 0] rfl) hS
      exact kr _ ls H locs hd hS
    · skip
      refine lv_iload_n hx hb d_q_Layout_isData_12 rfl (lv_at hl 0 rfl) ?_
      refine lv_bipush (v := nI 8) hx hb d_q_Layout_isData_13 (by decide) ?_
      refine n_icmp_gt hx hb d_q_Layout_isData_15 (tgt := 24) rfl (by omega) (by omega) (fun g15 => ?_) (fun g15 => ?_)
      · skip
        refine lv_iload_n hx hb d_q_Layout_isData_24 rfl (lv_at hl 0 rfl) ?_
        refine lv_bipush (v := nI 13) hx hb d_q_Layout_isData_25 (by decide) ?_
        refine n_icmp_lt hx hb d_q_Layout_isData_27 (tgt := 40) rfl (by omega) (by omega) (fun g27 => ?_) (fun g27 => ?_)
        · skip
          refine lv_iconst (v := nI 0) hx hb d_q_Layout_isData_40 (by decide) ?_
          refine lv_istore_n hx hb d_q_Layout_isData_41 rfl hl (Nat.le_of_ble_eq_true rfl) rfl (fun ls hl => ?_)
          have hl : lv_has ls 3 [(2, .int (nI 0)), (0, .int (nI r)), (1, .int (nI d))] := hl
          refine sg_q_Layout_isData_42 r d 0 (by first | omega | (unfold bN; (repeat' split) <;> omega)) (by first | omega | (unfold bN; (repeat' split) <;> omega)) (by first | omega | (unfold bN; (repeat' split) <;> omega)) S hRf hRl hRc (fun pc ls H locs hd hS => ?_) ls H locs (lv_sub hl [1, 2, 0] rfl) hS
          exact kr _ ls H locs hd hS
        · skip
          refine lv_iload_n hx hb d_q_Layout_isData_30 rfl (lv_at hl 1 rfl) ?_
          refine lv_bipush (v := nI 8) hx hb d_q_Layout_isData_31 (by decide) ?_
          refine n_icmp_gt hx hb d_q_Layout_isData_33 (tgt := 40) rfl (by omega) (by omega) (fun g33 => ?_) (fun g33 => ?_)
          · skip
            refine lv_iconst (v := nI 0) hx hb d_q_Layout_isData_40 (by decide) ?_
            refine lv_istore_n hx hb d_q_Layout_isData_41 rfl hl (Nat.le_of_ble_eq_true rfl) rfl (fun ls hl => ?_)
            have hl : lv_has ls 3 [(2, .int (nI 0)), (0, .int (nI r)), (1, .int (nI d))] := hl
            refine sg_q_Layout_isData_42 r d 0 (by first | omega | (unfold bN; (repeat' split) <;> omega)) (by first | omega | (unfold bN; (repeat' split) <;> omega)) (by first | omega | (unfold bN; (repeat' split) <;> omega)) S hRf hRl hRc (fun pc ls H locs hd hS => ?_) ls H locs (lv_sub hl [1, 2, 0] rfl) hS
            exact kr _ ls H locs hd hS
          · skip
            refine lv_iconst (v := nI 1) hx hb d_q_Layout_isData_36 (by decide) ?_
            refine lv_goto hx hb d_q_Layout_isData_37 (tgt := 41) rfl ?_
            refine lv_istore_n hx hb d_q_Layout_isData_41 rfl hl (Nat.le_of_ble_eq_true rfl) rfl (fun ls hl => ?_)
            have hl : lv_has ls 3 [(2, .int (nI 1)), (0, .int (nI r)), (1, .int (nI d))] := hl
            refine sg_q_Layout_isData_42 r d 1 (by first | omega | (unfold bN; (repeat' split) <;> omega)) (by first | omega | (unfold bN; (repeat' split) <;> omega)) (by first | omega | (unfold bN; (repeat' split) <;> omega)) S hRf hRl hRc (fun pc ls H locs hd hS => ?_) ls H locs (lv_sub hl [1, 2, 0] rfl) hS
            exact kr _ ls H locs hd hS
      · skip
        refine lv_iload_n hx hb d_q_Layout_isData_18 rfl (lv_at hl 1 rfl) ?_
        refine lv_bipush (v := nI 13) hx hb d_q_Layout_isData_19 (by decide) ?_
        refine n_icmp_ge hx hb d_q_Layout_isData_21 (tgt := 36) rfl (by omega) (by omega) (fun g21 => ?_) (fun g21 => ?_)
        · skip
          refine lv_iconst (v := nI 1) hx hb d_q_Layout_isData_36 (by decide) ?_
          refine lv_goto hx hb d_q_Layout_isData_37 (tgt := 41) rfl ?_
          refine lv_istore_n hx hb d_q_Layout_isData_41 rfl hl (Nat.le_of_ble_eq_true rfl) rfl (fun ls hl => ?_)
          have hl : lv_has ls 3 [(2, .int (nI 1)), (0, .int (nI r)), (1, .int (nI d))] := hl
          refine sg_q_Layout_isData_42 r d 1 (by first | omega | (unfold bN; (repeat' split) <;> omega)) (by first | omega | (unfold bN; (repeat' split) <;> omega)) (by first | omega | (unfold bN; (repeat' split) <;> omega)) S hRf hRl hRc (fun pc ls H locs hd hS => ?_) ls H locs (lv_sub hl [1, 2, 0] rfl) hS
          exact kr _ ls H locs hd hS
        · skip
          refine lv_iload_n hx hb d_q_Layout_isData_24 rfl (lv_at hl 0 rfl) ?_
          refine lv_bipush (v := nI 13) hx hb d_q_Layout_isData_25 (by decide) ?_
          refine n_icmp_lt hx hb d_q_Layout_isData_27 (tgt := 40) rfl (by omega) (by omega) (fun g27 => ?_) (fun g27 => ?_)
          · skip
            refine lv_iconst (v := nI 0) hx hb d_q_Layout_isData_40 (by decide) ?_
            refine lv_istore_n hx hb d_q_Layout_isData_41 rfl hl (Nat.le_of_ble_eq_true rfl) rfl (fun ls hl => ?_)
            have hl : lv_has ls 3 [(2, .int (nI 0)), (0, .int (nI r)), (1, .int (nI d))] := hl
            refine sg_q_Layout_isData_42 r d 0 (by first | omega | (unfold bN; (repeat' split) <;> omega)) (by first | omega | (unfold bN; (repeat' split) <;> omega)) (by first | omega | (unfold bN; (repeat' split) <;> omega)) S hRf hRl hRc (fun pc ls H locs hd hS => ?_) ls H locs (lv_sub hl [1, 2, 0] rfl) hS
            exact kr _ ls H locs hd hS
          · skip
            refine lv_iload_n hx hb d_q_Layout_isData_30 rfl (lv_at hl 1 rfl) ?_
            refine lv_bipush (v := nI 8) hx hb d_q_Layout_isData_31 (by decide) ?_
            refine n_icmp_gt hx hb d_q_Layout_isData_33 (tgt := 40) rfl (by omega) (by omega) (fun g33 => ?_) (fun g33 => ?_)
            · skip
              refine lv_iconst (v := nI 0) hx hb d_q_Layout_isData_40 (by decide) ?_
              refine lv_istore_n hx hb d_q_Layout_isData_41 rfl hl (Nat.le_of_ble_eq_true rfl) rfl (fun ls hl => ?_)
              have hl : lv_has ls 3 [(2, .int (nI 0)), (0, .int (nI r)), (1, .int (nI d))] := hl
              refine sg_q_Layout_isData_42 r d 0 (by first | omega | (unfold bN; (repeat' split) <;> omega)) (by first | omega | (unfold bN; (repeat' split) <;> omega)) (by first | omega | (unfold bN; (repeat' split) <;> omega)) S hRf hRl hRc (fun pc ls H locs hd hS => ?_) ls H locs (lv_sub hl [1, 2, 0] rfl) hS
              exact kr _ ls H locs hd hS
            · skip
              refine lv_iconst (v := nI 1) hx hb d_q_Layout_isData_36 (by decide) ?_
              refine lv_goto hx hb d_q_Layout_isData_37 (tgt := 41) rfl ?_
              refine lv_istore_n hx hb d_q_Layout_isData_41 rfl hl (Nat.le_of_ble_eq_true rfl) rfl (fun ls hl => ?_)
              have hl : lv_has ls 3 [(2, .int (nI 1)), (0, .int (nI r)), (1, .int (nI d))] := hl
              refine sg_q_Layout_isData_42 r d 1 (by first | omega | (unfold bN; (repeat' split) <;> omega)) (by first | omega | (unfold bN; (repeat' split) <;> omega)) (by first | omega | (unfold bN; (repeat' split) <;> omega)) S hRf hRl hRc (fun pc ls H locs hd hS => ?_) ls H locs (lv_sub hl [1, 2, 0] rfl) hS
              exact kr _ ls H locs hd hS
set_option maxHeartbeats 1000000 in
set_option maxRecDepth 100000 in
theorem c_q_Layout_isData (l : Launch) (r d : Nat) (hr : r < 21) (hd : d < 21) : Met l y_q_Layout_isData (cd_q_Layout_isData :: WS) { frames := 0, cells := 0, slots := 0, locals := 0 } (va_Pc [.int (nI r), .int (nI d)] (fun _ => True)) (pQ ((nI (bN (isDt r d))))) 0 0 noA := by
  refine Met.ofW (cc := b_q_Layout_isData) (maxL := 3) (ret := (some .boolean)) (by decide) rfl ?_
  intro p e s m args below meth c s₁ B hml hv0
  obtain ⟨rfl, -⟩ := hv0
  have hts := atoms_spec (ws := cd_q_Layout_isData :: WS) B.pre
  have hown : s.vm.findClass R_Layout = some m.cls := findClass_of_methodNamed B.named
  have hlocks := B.notSynchronized
  have hl := lv_entry ([.int (nI r), .int (nI d)]) (n := 3) (Nat.le_of_ble_eq_true rfl)
  rw [lg_entry_eq]
  generalize (lg_sl ([.int (nI r), .int (nI d)]) ++ List.replicate (3 - (lg_sl ([.int (nI r), .int (nI d)])).length) Slot.unset).toArray = ls at hl ⊢
  refine bd_q_Layout_isData r d hr hd ⟨B.exec, B.bytes, hml, hown, hts⟩ (Nat.le_refl _) (Nat.le_refl _) ⟨Nat.le_refl _, Nat.le_refl _⟩ (fun pc ls H locs hd hS => ?_) ls _ _ hl (va_S.rf (A := noA))
  exact W.zret B.exec B.bytes B.returns (bN_fit _) (fun t ht _ => ⟨⟨_, (), rfl, rfl, trivial⟩, hS.F ht⟩) hS.2.2 hd
end
section
theorem d_q_Layout_isTurned_0 : decode b_q_Layout_isTurned 0 = .ok (.iload_n 1, 1) := by decide +kernel
theorem d_q_Layout_isTurned_1 : decode b_q_Layout_isTurned 1 = .ok (.iload_n 2, 1) := by decide +kernel
theorem d_q_Layout_isTurned_2 : decode b_q_Layout_isTurned 2 = .ok (.imul, 1) := by decide +kernel
theorem d_q_Layout_isTurned_3 : decode b_q_Layout_isTurned 3 = .ok (.istore_n 3, 1) := by decide +kernel
theorem d_q_Layout_isTurned_4 : decode b_q_Layout_isTurned 4 = .ok (.iload_n 0, 1) := by decide +kernel
theorem d_q_Layout_isTurned_5 : decode b_q_Layout_isTurned 5 = .ok (.tableswitch 147 0 6 #[43, 57, 69, 81, 95, 113, 129], 43) := by decide +kernel
theorem d_q_Layout_isTurned_48 : decode b_q_Layout_isTurned 48 = .ok (.iload_n 1, 1) := by decide +kernel
theorem d_q_Layout_isTurned_49 : decode b_q_Layout_isTurned 49 = .ok (.iload_n 2, 1) := by decide +kernel
theorem d_q_Layout_isTurned_50 : decode b_q_Layout_isTurned 50 = .ok (.iadd, 1) := by decide +kernel
theorem d_q_Layout_isTurned_51 : decode b_q_Layout_isTurned 51 = .ok (.iconst 2, 1) := by decide +kernel
theorem d_q_Layout_isTurned_52 : decode b_q_Layout_isTurned 52 = .ok (.irem, 1) := by decide +kernel
theorem d_q_Layout_isTurned_53 : decode b_q_Layout_isTurned 53 = .ok (.ifCond .ne 7, 3) := by decide +kernel
theorem d_q_Layout_isTurned_56 : decode b_q_Layout_isTurned 56 = .ok (.iconst 1, 1) := by decide +kernel
theorem d_q_Layout_isTurned_57 : decode b_q_Layout_isTurned 57 = .ok (.goto 4, 3) := by decide +kernel
theorem d_q_Layout_isTurned_60 : decode b_q_Layout_isTurned 60 = .ok (.iconst 0, 1) := by decide +kernel
theorem d_q_Layout_isTurned_61 : decode b_q_Layout_isTurned 61 = .ok (.ireturn, 1) := by decide +kernel
theorem d_q_Layout_isTurned_62 : decode b_q_Layout_isTurned 62 = .ok (.iload_n 1, 1) := by decide +kernel
theorem d_q_Layout_isTurned_63 : decode b_q_Layout_isTurned 63 = .ok (.iconst 2, 1) := by decide +kernel
theorem d_q_Layout_isTurned_64 : decode b_q_Layout_isTurned 64 = .ok (.irem, 1) := by decide +kernel
theorem d_q_Layout_isTurned_65 : decode b_q_Layout_isTurned 65 = .ok (.ifCond .ne 7, 3) := by decide +kernel
theorem d_q_Layout_isTurned_68 : decode b_q_Layout_isTurned 68 = .ok (.iconst 1, 1) := by decide +kernel
theorem d_q_Layout_isTurned_69 : decode b_q_Layout_isTurned 69 = .ok (.goto 4, 3) := by decide +kernel
theorem d_q_Layout_isTurned_72 : decode b_q_Layout_isTurned 72 = .ok (.iconst 0, 1) := by decide +kernel
theorem d_q_Layout_isTurned_73 : decode b_q_Layout_isTurned 73 = .ok (.ireturn, 1) := by decide +kernel
theorem d_q_Layout_isTurned_74 : decode b_q_Layout_isTurned 74 = .ok (.iload_n 2, 1) := by decide +kernel
theorem d_q_Layout_isTurned_75 : decode b_q_Layout_isTurned 75 = .ok (.iconst 3, 1) := by decide +kernel
theorem d_q_Layout_isTurned_76 : decode b_q_Layout_isTurned 76 = .ok (.irem, 1) := by decide +kernel
theorem d_q_Layout_isTurned_77 : decode b_q_Layout_isTurned 77 = .ok (.ifCond .ne 7, 3) := by decide +kernel
theorem d_q_Layout_isTurned_80 : decode b_q_Layout_isTurned 80 = .ok (.iconst 1, 1) := by decide +kernel
theorem d_q_Layout_isTurned_81 : decode b_q_Layout_isTurned 81 = .ok (.goto 4, 3) := by decide +kernel
theorem d_q_Layout_isTurned_84 : decode b_q_Layout_isTurned 84 = .ok (.iconst 0, 1) := by decide +kernel
theorem d_q_Layout_isTurned_85 : decode b_q_Layout_isTurned 85 = .ok (.ireturn, 1) := by decide +kernel
theorem d_q_Layout_isTurned_86 : decode b_q_Layout_isTurned 86 = .ok (.iload_n 1, 1) := by decide +kernel
theorem d_q_Layout_isTurned_87 : decode b_q_Layout_isTurned 87 = .ok (.iload_n 2, 1) := by decide +kernel
theorem d_q_Layout_isTurned_88 : decode b_q_Layout_isTurned 88 = .ok (.iadd, 1) := by decide +kernel
theorem d_q_Layout_isTurned_89 : decode b_q_Layout_isTurned 89 = .ok (.iconst 3, 1) := by decide +kernel
theorem d_q_Layout_isTurned_90 : decode b_q_Layout_isTurned 90 = .ok (.irem, 1) := by decide +kernel
theorem d_q_Layout_isTurned_91 : decode b_q_Layout_isTurned 91 = .ok (.ifCond .ne 7, 3) := by decide +kernel
theorem d_q_Layout_isTurned_94 : decode b_q_Layout_isTurned 94 = .ok (.iconst 1, 1) := by decide +kernel
theorem d_q_Layout_isTurned_95 : decode b_q_Layout_isTurned 95 = .ok (.goto 4, 3) := by decide +kernel
theorem d_q_Layout_isTurned_98 : decode b_q_Layout_isTurned 98 = .ok (.iconst 0, 1) := by decide +kernel
theorem d_q_Layout_isTurned_99 : decode b_q_Layout_isTurned 99 = .ok (.ireturn, 1) := by decide +kernel
theorem d_q_Layout_isTurned_100 : decode b_q_Layout_isTurned 100 = .ok (.iload_n 1, 1) := by decide +kernel
theorem d_q_Layout_isTurned_101 : decode b_q_Layout_isTurned 101 = .ok (.iconst 2, 1) := by decide +kernel
theorem d_q_Layout_isTurned_102 : decode b_q_Layout_isTurned 102 = .ok (.idiv, 1) := by decide +kernel
theorem d_q_Layout_isTurned_103 : decode b_q_Layout_isTurned 103 = .ok (.iload_n 2, 1) := by decide +kernel
theorem d_q_Layout_isTurned_104 : decode b_q_Layout_isTurned 104 = .ok (.iconst 3, 1) := by decide +kernel
theorem d_q_Layout_isTurned_105 : decode b_q_Layout_isTurned 105 = .ok (.idiv, 1) := by decide +kernel
theorem d_q_Layout_isTurned_106 : decode b_q_Layout_isTurned 106 = .ok (.iadd, 1) := by decide +kernel
theorem d_q_Layout_isTurned_107 : decode b_q_Layout_isTurned 107 = .ok (.iconst 2, 1) := by decide +kernel
theorem d_q_Layout_isTurned_108 : decode b_q_Layout_isTurned 108 = .ok (.irem, 1) := by decide +kernel
theorem d_q_Layout_isTurned_109 : decode b_q_Layout_isTurned 109 = .ok (.ifCond .ne 7, 3) := by decide +kernel
theorem d_q_Layout_isTurned_112 : decode b_q_Layout_isTurned 112 = .ok (.iconst 1, 1) := by decide +kernel
theorem d_q_Layout_isTurned_113 : decode b_q_Layout_isTurned 113 = .ok (.goto 4, 3) := by decide +kernel
theorem d_q_Layout_isTurned_116 : decode b_q_Layout_isTurned 116 = .ok (.iconst 0, 1) := by decide +kernel
theorem d_q_Layout_isTurned_117 : decode b_q_Layout_isTurned 117 = .ok (.ireturn, 1) := by decide +kernel
theorem d_q_Layout_isTurned_118 : decode b_q_Layout_isTurned 118 = .ok (.iload_n 3, 1) := by decide +kernel
theorem d_q_Layout_isTurned_119 : decode b_q_Layout_isTurned 119 = .ok (.iconst 2, 1) := by decide +kernel
theorem d_q_Layout_isTurned_120 : decode b_q_Layout_isTurned 120 = .ok (.irem, 1) := by decide +kernel
theorem d_q_Layout_isTurned_121 : decode b_q_Layout_isTurned 121 = .ok (.iload_n 3, 1) := by decide +kernel
theorem d_q_Layout_isTurned_122 : decode b_q_Layout_isTurned 122 = .ok (.iconst 3, 1) := by decide +kernel
theorem d_q_Layout_isTurned_123 : decode b_q_Layout_isTurned 123 = .ok (.irem, 1) := by decide +kernel
theorem d_q_Layout_isTurned_124 : decode b_q_Layout_isTurned 124 = .ok (.iadd, 1) := by decide +kernel
theorem d_q_Layout_isTurned_125 : decode b_q_Layout_isTurned 125 = .ok (.ifCond .ne 7, 3) := by decide +kernel
theorem d_q_Layout_isTurned_128 : decode b_q_Layout_isTurned 128 = .ok (.iconst 1, 1) := by decide +kernel
theorem d_q_Layout_isTurned_129 : decode b_q_Layout_isTurned 129 = .ok (.goto 4, 3) := by decide +kernel
theorem d_q_Layout_isTurned_132 : decode b_q_Layout_isTurned 132 = .ok (.iconst 0, 1) := by decide +kernel
theorem d_q_Layout_isTurned_133 : decode b_q_Layout_isTurned 133 = .ok (.ireturn, 1) := by decide +kernel
theorem d_q_Layout_isTurned_134 : decode b_q_Layout_isTurned 134 = .ok (.iload_n 3, 1) := by decide +kernel
theorem d_q_Layout_isTurned_135 : decode b_q_Layout_isTurned 135 = .ok (.iconst 2, 1) := by decide +kernel
theorem d_q_Layout_isTurned_136 : decode b_q_Layout_isTurned 136 = .ok (.irem, 1) := by decide +kernel
theorem d_q_Layout_isTurned_137 : decode b_q_Layout_isTurned 137 = .ok (.iload_n 3, 1) := by decide +kernel
theorem d_q_Layout_isTurned_138 : decode b_q_Layout_isTurned 138 = .ok (.iconst 3, 1) := by decide +kernel
theorem d_q_Layout_isTurned_139 : decode b_q_Layout_isTurned 139 = .ok (.irem, 1) := by decide +kernel
theorem d_q_Layout_isTurned_140 : decode b_q_Layout_isTurned 140 = .ok (.iadd, 1) := by decide +kernel
theorem d_q_Layout_isTurned_141 : decode b_q_Layout_isTurned 141 = .ok (.iconst 2, 1) := by decide +kernel
theorem d_q_Layout_isTurned_142 : decode b_q_Layout_isTurned 142 = .ok (.irem, 1) := by decide +kernel
theorem d_q_Layout_isTurned_143 : decode b_q_Layout_isTurned 143 = .ok (.ifCond .ne 7, 3) := by decide +kernel
theorem d_q_Layout_isTurned_146 : decode b_q_Layout_isTurned 146 = .ok (.iconst 1, 1) := by decide +kernel
theorem d_q_Layout_isTurned_147 : decode b_q_Layout_isTurned 147 = .ok (.goto 4, 3) := by decide +kernel
theorem d_q_Layout_isTurned_150 : decode b_q_Layout_isTurned 150 = .ok (.iconst 0, 1) := by decide +kernel
theorem d_q_Layout_isTurned_151 : decode b_q_Layout_isTurned 151 = .ok (.ireturn, 1) := by decide +kernel
theorem d_q_Layout_isTurned_152 : decode b_q_Layout_isTurned 152 = .ok (.iload_n 1, 1) := by decide +kernel
theorem d_q_Layout_isTurned_153 : decode b_q_Layout_isTurned 153 = .ok (.iload_n 2, 1) := by decide +kernel
theorem d_q_Layout_isTurned_154 : decode b_q_Layout_isTurned 154 = .ok (.iadd, 1) := by decide +kernel
theorem d_q_Layout_isTurned_155 : decode b_q_Layout_isTurned 155 = .ok (.iconst 2, 1) := by decide +kernel
theorem d_q_Layout_isTurned_156 : decode b_q_Layout_isTurned 156 = .ok (.irem, 1) := by decide +kernel
theorem d_q_Layout_isTurned_157 : decode b_q_Layout_isTurned 157 = .ok (.iload_n 3, 1) := by decide +kernel
theorem d_q_Layout_isTurned_158 : decode b_q_Layout_isTurned 158 = .ok (.iconst 3, 1) := by decide +kernel
theorem d_q_Layout_isTurned_159 : decode b_q_Layout_isTurned 159 = .ok (.irem, 1) := by decide +kernel
theorem d_q_Layout_isTurned_160 : decode b_q_Layout_isTurned 160 = .ok (.iadd, 1) := by decide +kernel
theorem d_q_Layout_isTurned_161 : decode b_q_Layout_isTurned 161 = .ok (.iconst 2, 1) := by decide +kernel
theorem d_q_Layout_isTurned_162 : decode b_q_Layout_isTurned 162 = .ok (.irem, 1) := by decide +kernel
theorem d_q_Layout_isTurned_163 : decode b_q_Layout_isTurned 163 = .ok (.ifCond .ne 7, 3) := by decide +kernel
theorem d_q_Layout_isTurned_166 : decode b_q_Layout_isTurned 166 = .ok (.iconst 1, 1) := by decide +kernel
theorem d_q_Layout_isTurned_167 : decode b_q_Layout_isTurned 167 = .ok (.goto 4, 3) := by decide +kernel
theorem d_q_Layout_isTurned_170 : decode b_q_Layout_isTurned 170 = .ok (.iconst 0, 1) := by decide +kernel
theorem d_q_Layout_isTurned_171 : decode b_q_Layout_isTurned 171 = .ok (.ireturn, 1) := by decide +kernel
end
section
variable {p : Program} {l : Launch} {e : Env} {R : Room} {s : State} {m : MethodId} {args : Array Value} {below : List Frame} {meth : Method} {c : Code} {cells slots : Nat} {Q : State → Prop} {A : Nat → Prop} {H0 : Heap} {D : va_G}
set_option maxHeartbeats 1000000 in
set_option maxRecDepth 100000 in
theorem bd_q_Layout_isTurned (mk r d : Nat) (hmk : mk < 8) (hr : r < 21) (hd : d < 21) (S : CallFix p m c b_q_Layout_isTurned 4 s args (cd_q_Layout_isTurned :: WS) R_Layout) (hRf : 0 ≤ R.frames) (hRl : 0 ≤ R.locals) (hRc : cells ≤ R.cells ∧ slots ≤ R.slots) (kr : ∀ (pc : Nat) (ls : Array Slot) (H : Heap) (locs : List Loc), decode b_q_Layout_isTurned pc = .ok (.ireturn, 1) → va_S A H0 H locs → W p l e R s m args below meth c H locs cells slots Q (F0 m pc ls [.int (nI (tnN mk r d))])) : ∀ (ls : Array Slot) (H : Heap) (locs : List Loc), lv_has ls 4 [(0, .int (nI mk)), (1, .int (nI r)), (2, .int (nI d))] → va_S A H0 H locs → W p l e R s m args below meth c H locs cells slots Q (F0 m 0 ls []) := by
  obtain ⟨hx, hb, hml, hown, hts⟩ := id S
  intro ls H locs hl hS
  have hrd : r * d < 441 := Nat.lt_of_le_of_lt (Nat.mul_le_mul (Nat.le_of_lt_succ hr) (Nat.le_of_lt_succ hd)) (by decide)
  refine lv_iload_n hx hb d_q_Layout_isTurned_0 rfl (lv_at hl 1 rfl) ?_
  refine lv_iload_n hx hb d_q_Layout_isTurned_1 rfl (lv_at hl 2 rfl) ?_
  refine n_imul hx hb d_q_Layout_isTurned_2 ?_
  refine lv_istore_n hx hb d_q_Layout_isTurned_3 rfl hl (Nat.le_of_ble_eq_true rfl) rfl (fun ls hl => ?_)
  have hl : lv_has ls 4 [(3, .int (nI (r * d))), (0, .int (nI mk)), (1, .int (nI r)), (2, .int (nI d))] := hl
  refine lv_iload_n hx hb d_q_Layout_isTurned_4 rfl (lv_at hl 1 rfl) ?_
  rcases (show mk = 0 ∨ mk = 1 ∨ mk = 2 ∨ mk = 3 ∨ mk = 4 ∨ mk = 5 ∨ mk = 6 ∨ mk = 7 by omega) with g5 | g5 | g5 | g5 | g5 | g5 | g5 | g5
  · skip
    refine n_topn (show mk = 0 from g5) ?_
    refine lv_tableIn hx hb d_q_Layout_isTurned_5 (by decide) (by decide) (off := 43) rfl (tgt := 48) rfl ?_
    refine lv_iload_n hx hb d_q_Layout_isTurned_48 rfl (lv_at hl 2 rfl) ?_
    refine lv_iload_n hx hb d_q_Layout_isTurned_49 rfl (lv_at hl 3 rfl) ?_
    refine n_iadd hx hb d_q_Layout_isTurned_50 ?_
    refine lv_iconst (v := nI 2) hx hb d_q_Layout_isTurned_51 (by decide) ?_
    refine n_irem hx hb d_q_Layout_isTurned_52 (by omega) (by omega) (by omega) ?_
    refine n_if_ne hx hb d_q_Layout_isTurned_53 (tgt := 60) rfl (by omega) (fun g53 => ?_) (fun g53 => ?_)
    · skip
      refine lv_iconst (v := nI 0) hx hb d_q_Layout_isTurned_60 (by decide) ?_
      refine n_topn (show 0 = tnN mk r d from (by rw [g5]; unfold tnN; simp only [bN]; (repeat' split) <;> first | rfl | omega)) ?_
      exact kr _ ls H locs d_q_Layout_isTurned_61 hS
    · skip
      refine lv_iconst (v := nI 1) hx hb d_q_Layout_isTurned_56 (by decide) ?_
      refine lv_goto hx hb d_q_Layout_isTurned_57 (tgt := 61) rfl ?_
      refine n_topn (show 1 = tnN mk r d from (by rw [g5]; unfold tnN; simp only [bN]; (repeat' split) <;> first | rfl | omega)) ?_
      exact kr _ ls H locs d_q_Layout_isTurned_61 hS
  · skip
    refine n_topn (show mk = 1 from g5) ?_
    refine lv_tableIn hx hb d_q_Layout_isTurned_5 (by decide) (by decide) (off := 57) rfl (tgt := 62) rfl ?_
    refine lv_iload_n hx hb d_q_Layout_isTurned_62 rfl (lv_at hl 2 rfl) ?_
    refine lv_iconst (v := nI 2) hx hb d_q_Layout_isTurned_63 (by decide) ?_
    refine n_irem hx hb d_q_Layout_isTurned_64 (by omega) (by omega) (by omega) ?_
    refine n_if_ne hx hb d_q_Layout_isTurned_65 (tgt := 72) rfl (by omega) (fun g65 => ?_) (fun g65 => ?_)
    · skip
      refine lv_iconst (v := nI 0) hx hb d_q_Layout_isTurned_72 (by decide) ?_
      refine n_topn (show 0 = tnN mk r d from (by rw [g5]; unfold tnN; simp only [bN]; (repeat' split) <;> first | rfl | omega)) ?_
      exact kr _ ls H locs d_q_Layout_isTurned_73 hS
    · skip
      refine lv_iconst (v := nI 1) hx hb d_q_Layout_isTurned_68 (by decide) ?_
      refine lv_goto hx hb d_q_Layout_isTurned_69 (tgt := 73) rfl ?_
      refine n_topn (show 1 = tnN mk r d from (by rw [g5]; unfold tnN; simp only [bN]; (repeat' split) <;> first | rfl | omega)) ?_
      exact kr _ ls H locs d_q_Layout_isTurned_73 hS
  · skip
    refine n_topn (show mk = 2 from g5) ?_
    refine lv_tableIn hx hb d_q_Layout_isTurned_5 (by decide) (by decide) (off := 69) rfl (tgt := 74) rfl ?_
    refine lv_iload_n hx hb d_q_Layout_isTurned_74 rfl (lv_at hl 3 rfl) ?_
    refine lv_iconst (v := nI 3) hx hb d_q_Layout_isTurned_75 (by decide) ?_
    refine n_irem hx hb d_q_Layout_isTurned_76 (by omega) (by omega) (by omega) ?_
    refine n_if_ne hx hb d_q_Layout_isTurned_77 (tgt := 84) rfl (by omega) (fun g77 => ?_) (fun g77 => ?_)
    · skip
      refine lv_iconst (v := nI 0) hx hb d_q_Layout_isTurned_84 (by decide) ?_
      refine n_topn (show 0 = tnN mk r d from (by rw [g5]; unfold tnN; simp only [bN]; (repeat' split) <;> first | rfl | omega)) ?_
      exact kr _ ls H locs d_q_Layout_isTurned_85 hS
    · skip
      refine lv_iconst (v := nI 1) hx hb d_q_Layout_isTurned_80 (by decide) ?_
      refine lv_goto hx hb d_q_Layout_isTurned_81 (tgt := 85) rfl ?_
      refine n_topn (show 1 = tnN mk r d from (by rw [g5]; unfold tnN; simp only [bN]; (repeat' split) <;> first | rfl | omega)) ?_
      exact kr _ ls H locs d_q_Layout_isTurned_85 hS
  · skip
    refine n_topn (show mk = 3 from g5) ?_
    refine lv_tableIn hx hb d_q_Layout_isTurned_5 (by decide) (by decide) (off := 81) rfl (tgt := 86) rfl ?_
    refine lv_iload_n hx hb d_q_Layout_isTurned_86 rfl (lv_at hl 2 rfl) ?_
    refine lv_iload_n hx hb d_q_Layout_isTurned_87 rfl (lv_at hl 3 rfl) ?_
    refine n_iadd hx hb d_q_Layout_isTurned_88 ?_
    refine lv_iconst (v := nI 3) hx hb d_q_Layout_isTurned_89 (by decide) ?_
    refine n_irem hx hb d_q_Layout_isTurned_90 (by omega) (by omega) (by omega) ?_
    refine n_if_ne hx hb d_q_Layout_isTurned_91 (tgt := 98) rfl (by omega) (fun g91 => ?_) (fun g91 => ?_)
    · skip
      refine lv_iconst (v := nI 0) hx hb d_q_Layout_isTurned_98 (by decide) ?_
      refine n_topn (show 0 = tnN mk r d from (by rw [g5]; unfold tnN; simp only [bN]; (repeat' split) <;> first | rfl | omega)) ?_
      exact kr _ ls H locs d_q_Layout_isTurned_99 hS
    · skip
      refine lv_iconst (v := nI 1) hx hb d_q_Layout_isTurned_94 (by decide) ?_
      refine lv_goto hx hb d_q_Layout_isTurned_95 (tgt := 99) rfl ?_
      refine n_topn (show 1 = tnN mk r d from (by rw [g5]; unfold tnN; simp only [bN]; (repeat' split) <;> first | rfl | omega)) ?_
      exact kr _ ls H locs d_q_Layout_isTurned_99 hS
  · skip
    refine n_topn (show mk = 4 from g5) ?_
    refine lv_tableIn hx hb d_q_Layout_isTurned_5 (by decide) (by decide) (off := 95) rfl (tgt := 100) rfl ?_
    refine lv_iload_n hx hb d_q_Layout_isTurned_100 rfl (lv_at hl 2 rfl) ?_
    refine lv_iconst (v := nI 2) hx hb d_q_Layout_isTurned_101 (by decide) ?_
    refine n_idiv hx hb d_q_Layout_isTurned_102 (by omega) (by omega) (by omega) ?_
    refine lv_iload_n hx hb d_q_Layout_isTurned_103 rfl (lv_at hl 3 rfl) ?_
    refine lv_iconst (v := nI 3) hx hb d_q_Layout_isTurned_104 (by decide) ?_
    refine n_idiv hx hb d_q_Layout_isTurned_105 (by omega) (by omega) (by omega) ?_
    refine n_iadd hx hb d_q_Layout_isTurned_106 ?_
    refine lv_iconst (v := nI 2) hx hb d_q_Layout_isTurned_107 (by decide) ?_
    refine n_irem hx hb d_q_Layout_isTurned_108 (by omega) (by omega) (by omega) ?_
    refine n_if_ne hx hb d_q_Layout_isTurned_109 (tgt := 116) rfl (by omega) (fun g109 => ?_) (fun g109 => ?_)
    · skip
      refine lv_iconst (v := nI 0) hx hb d_q_Layout_isTurned_116 (by decide) ?_
      refine n_topn (show 0 = tnN mk r d from (by rw [g5]; unfold tnN; simp only [bN]; (repeat' split) <;> first | rfl | omega)) ?_
      exact kr _ ls H locs d_q_Layout_isTurned_117 hS
    · skip
      refine lv_iconst (v := nI 1) hx hb d_q_Layout_isTurned_112 (by decide) ?_
      refine lv_goto hx hb d_q_Layout_isTurned_113 (tgt := 117) rfl ?_
      refine n_topn (show 1 = tnN mk r d from (by rw [g5]; unfold tnN; simp only [bN]; (repeat' split) <;> first | rfl | omega)) ?_
      exact kr _ ls H locs d_q_Layout_isTurned_117 hS
  · skip
    refine n_topn (show mk = 5 from g5) ?_
    refine lv_tableIn hx hb d_q_Layout_isTurned_5 (by decide) (by decide) (off := 113) rfl (tgt := 118) rfl ?_
    refine lv_iload_n hx hb d_q_Layout_isTurned_118 rfl (lv_at hl 0 rfl) ?_
    refine lv_iconst (v := nI 2) hx hb d_q_Layout_isTurned_119 (by decide) ?_
    refine n_irem hx hb d_q_Layout_isTurned_120 (by omega) (by omega) (by omega) ?_
    refine lv_iload_n hx hb d_q_Layout_isTurned_121 rfl (lv_at hl 0 rfl) ?_
    refine lv_iconst (v := nI 3) hx hb d_q_Layout_isTurned_122 (by decide) ?_
    refine n_irem hx hb d_q_Layout_isTurned_123 (by omega) (by omega) (by omega) ?_
    refine n_iadd hx hb d_q_Layout_isTurned_124 ?_
    refine n_if_ne hx hb d_q_Layout_isTurned_125 (tgt := 132) rfl (by omega) (fun g125 => ?_) (fun g125 => ?_)
    · skip
      refine lv_iconst (v := nI 0) hx hb d_q_Layout_isTurned_132 (by decide) ?_
      refine n_topn (show 0 = tnN mk r d from (by rw [g5]; unfold tnN; simp only [bN]; (repeat' split) <;> first | rfl | omega)) ?_
      exact kr _ ls H locs d_q_Layout_isTurned_133 hS
    · skip
      refine lv_iconst (v := nI 1) hx hb d_q_Layout_isTurned_128 (by decide) ?_
      refine lv_goto hx hb d_q_Layout_isTurned_129 (tgt := 133) rfl ?_
      refine n_topn (show 1 = tnN mk r d from (by rw [g5]; unfold tnN; simp only [bN]; (repeat' split) <;> first | rfl | omega)) ?_
      exact kr _ ls H locs d_q_Layout_isTurned_133 hS
  · skip
    refine n_topn (show mk = 6 from g5) ?_
    refine lv_tableIn hx hb d_q_Layout_isTurned_5 (by decide) (by decide) (off := 129) rfl (tgt := 134) rfl ?_
    refine lv_iload_n hx hb d_q_Layout_isTurned_134 rfl (lv_at hl 0 rfl) ?_
    refine lv_iconst (v := nI 2) hx hb d_q_Layout_isTurned_135 (by decide) ?_
    refine n_irem hx hb d_q_Layout_isTurned_136 (by omega) (by omega) (by omega) ?_
    refine lv_iload_n hx hb d_q_Layout_isTurned_137 rfl (lv_at hl 0 rfl) ?_
    refine lv_iconst (v := nI 3) hx hb d_q_Layout_isTurned_138 (by decide) ?_
    refine n_irem hx hb d_q_Layout_isTurned_139 (by omega) (by omega) (by omega) ?_
    refine n_iadd hx hb d_q_Layout_isTurned_140 ?_
    refine lv_iconst (v := nI 2) hx hb d_q_Layout_isTurned_141 (by decide) ?_
    refine n_irem hx hb d_q_Layout_isTurned_142 (by omega) (by omega) (by omega) ?_
    refine n_if_ne hx hb d_q_Layout_isTurned_143 (tgt := 150) rfl (by omega) (fun g143 => ?_) (fun g143 => ?_)
    · skip
      refine lv_iconst (v := nI 0) hx hb d_q_Layout_isTurned_150 (by decide) ?_
      refine n_topn (show 0 = tnN mk r d from (by rw [g5]; unfold tnN; simp only [bN]; (repeat' split) <;> first | rfl | omega)) ?_
      exact kr _ ls H locs d_q_Layout_isTurned_151 hS
    · skip
      refine lv_iconst (v := nI 1) hx hb d_q_Layout_isTurned_146 (by decide) ?_
      refine lv_goto hx hb d_q_Layout_isTurned_147 (tgt := 151) rfl ?_
      refine n_topn (show 1 = tnN mk r d from (by rw [g5]; unfold tnN; simp only [bN]; (repeat' split) <;> first | rfl | omega)) ?_
      exact kr _ ls H locs d_q_Layout_isTurned_151 hS
  · skip
    refine n_topn (show mk = 7 from g5) ?_
    refine lv_tableOut hx hb d_q_Layout_isTurned_5 (by decide) (tgt := 152) rfl ?_
    refine lv_iload_n hx hb d_q_Layout_isTurned_152 rfl (lv_at hl 2 rfl) ?_
    refine lv_iload_n hx hb d_q_Layout_isTurned_153 rfl (lv_at hl 3 rfl) ?_
    refine n_iadd hx hb d_q_Layout_isTurned_154 ?_
    refine lv_iconst (v := nI 2) hx hb d_q_Layout_isTurned_155 (by decide) ?_
    refine n_irem hx hb d_q_Layout_isTurned_156 (by omega) (by omega) (by omega) ?_
    refine lv_iload_n hx hb d_q_Layout_isTurned_157 rfl (lv_at hl 0 rfl) ?_
    refine lv_iconst (v := nI 3) hx hb d_q_Layout_isTurned_158 (by decide) ?_
    refine n_irem hx hb d_q_Layout_isTurned_159 (by omega) (by omega) (by omega) ?_
    refine n_iadd hx hb d_q_Layout_isTurned_160 ?_
    refine lv_iconst (v := nI 2) hx hb d_q_Layout_isTurned_161 (by decide) ?_
    refine n_irem hx hb d_q_Layout_isTurned_162 (by omega) (by omega) (by omega) ?_
    refine n_if_ne hx hb d_q_Layout_isTurned_163 (tgt := 170) rfl (by omega) (fun g163 => ?_) (fun g163 => ?_)
    · skip
      refine lv_iconst (v := nI 0) hx hb d_q_Layout_isTurned_170 (by decide) ?_
      refine n_topn (show 0 = tnN mk r d from (by rw [g5]; unfold tnN; simp only [bN]; (repeat' split) <;> first | rfl | omega)) ?_
      exact kr _ ls H locs d_q_Layout_isTurned_171 hS
    · skip
      refine lv_iconst (v := nI 1) hx hb d_q_Layout_isTurned_166 (by decide) ?_
      refine lv_goto hx hb d_q_Layout_isTurned_167 (tgt := 171) rfl ?_
      refine n_topn (show 1 = tnN mk r d from (by rw [g5]; unfold tnN; simp only [bN]; (repeat' split) <;> first | rfl | omega)) ?_
      exact kr _ ls H locs d_q_Layout_isTurned_171 hS
set_option maxHeartbeats 1000000 in
set_option maxRecDepth 100000 in
theorem c_q_Layout_isTurned (l : Launch) (mk r d : Nat) (hmk : mk < 8) (hr : r < 21) (hd : d < 21) : Met l y_q_Layout_isTurned (cd_q_Layout_isTurned :: WS) { frames := 0, cells := 0, slots := 0, locals := 0 } (va_Pc [.int (nI mk), .int (nI r), .int (nI d)] (fun _ => True)) (pQ ((nI (tnN mk r d)))) 0 0 noA := by
  refine Met.ofW (cc := b_q_Layout_isTurned) (maxL := 4) (ret := (some .boolean)) (by decide) rfl ?_
  intro p e s m args below meth c s₁ B hml hv0
  obtain ⟨rfl, -⟩ := hv0
  have hts := atoms_spec (ws := cd_q_Layout_isTurned :: WS) B.pre
  have hown : s.vm.findClass R_Layout = some m.cls := findClass_of_methodNamed B.named
  have hlocks := B.notSynchronized
  have hl := lv_entry ([.int (nI mk), .int (nI r), .int (nI d)]) (n := 4) (Nat.le_of_ble_eq_true rfl)
  rw [lg_entry_eq]
  generalize (lg_sl ([.int (nI mk), .int (nI r), .int (nI d)]) ++ List.replicate (4 - (lg_sl ([.int (nI mk), .int (nI r), .int (nI d)])).length) Slot.unset).toArray = ls at hl ⊢
  refine bd_q_Layout_isTurned mk r d hmk hr hd ⟨B.exec, B.bytes, hml, hown, hts⟩ (Nat.le_refl _) (Nat.le_refl _) ⟨Nat.le_refl _, Nat.le_refl _⟩ (fun pc ls H locs hd hS => ?_) ls _ _ hl (va_S.rf (A := noA))
  exact W.zret B.exec B.bytes B.returns (tnN_fit _ _ _) (fun t ht _ => ⟨⟨_, (), rfl, rfl, trivial⟩, hS.F ht⟩) hS.2.2 hd
end
