theorem kw_304 : (Jvm.Cond.methodLink "SquareCodesLaw" (7 : Nat) ({ cls := "SquareCodes", name := "write", desc := "(II)I" } : Jvm.MethodName)) ∈ WS := WS_tbl 304 (by decide +kernel) rfl
theorem kw_305 : (Jvm.Cond.instanceMethod ({ cls := "SquareCodes", name := "write", desc := "(II)I" } : Jvm.MethodName)) ∈ WS := WS_tbl 305 (by decide +kernel) rfl
theorem kw_306 : (Jvm.Cond.selects "SquareCodes" ({ cls := "SquareCodes", name := "write", desc := "(II)I" } : Jvm.MethodName) ({ cls := "SquareCodes", name := "write", desc := "(II)I" } : Jvm.MethodName)) ∈ WS := WS_tbl 306 (by decide +kernel) rfl
set_option maxRecDepth 1000000 in
theorem kw_307 : cd_q_write ∈ WS := WS_tbl 307 rfl rfl
theorem kw_302 : (Jvm.Cond.classLink "SquareCodesLaw" (13 : Nat) "java/lang/IllegalArgumentException") ∈ WS := WS_tbl 302 (by decide +kernel) rfl
theorem kw_303 : (Jvm.Cond.classLink "SquareCodesLaw" (15 : Nat) "java/lang/IllegalStateException") ∈ WS := WS_tbl 303 (by decide +kernel) rfl
theorem kw_588 : (Jvm.Cond.methodLink "SquareCodesLaw" (17 : Nat) ({ cls := "SquareCodes", name := "flip", desc := "(II)I" } : Jvm.MethodName)) ∈ WS := WS_tbl 588 (by decide +kernel) rfl
theorem kw_589 : (Jvm.Cond.instanceMethod ({ cls := "SquareCodes", name := "flip", desc := "(II)I" } : Jvm.MethodName)) ∈ WS := WS_tbl 589 (by decide +kernel) rfl
theorem kw_590 : (Jvm.Cond.selects "SquareCodes" ({ cls := "SquareCodes", name := "flip", desc := "(II)I" } : Jvm.MethodName) ({ cls := "SquareCodes", name := "flip", desc := "(II)I" } : Jvm.MethodName)) ∈ WS := WS_tbl 590 (by decide +kernel) rfl
set_option maxRecDepth 1000000 in
theorem kw_591 : cd_q_flip ∈ WS := WS_tbl 591 rfl rfl
theorem kw_598 : (Jvm.Cond.methodLink "SquareCodesLaw" (20 : Nat) ({ cls := "SquareCodes", name := "read", desc := "()I" } : Jvm.MethodName)) ∈ WS := WS_tbl 598 (by decide +kernel) rfl
theorem kw_599 : (Jvm.Cond.instanceMethod ({ cls := "SquareCodes", name := "read", desc := "()I" } : Jvm.MethodName)) ∈ WS := WS_tbl 599 (by decide +kernel) rfl
theorem kw_600 : (Jvm.Cond.selects "SquareCodes" ({ cls := "SquareCodes", name := "read", desc := "()I" } : Jvm.MethodName) ({ cls := "SquareCodes", name := "read", desc := "()I" } : Jvm.MethodName)) ∈ WS := WS_tbl 600 (by decide +kernel) rfl
set_option maxRecDepth 1000000 in
theorem kw_601 : cd_q_read ∈ WS := WS_tbl 601 rfl rfl
theorem kw_597 : (Jvm.Cond.classLink "SquareCodesLaw" (24 : Nat) "java/lang/UnsupportedOperationException") ∈ WS := WS_tbl 597 (by decide +kernel) rfl
abbrev cd_law_write : Cond := .codeWith y_law_write b_law_write 5 (some .int) [(0, 10, 13, 13), (0, 10, 17, 15)]
set_option maxRecDepth 1000000 in
theorem kw_301 : cd_law_write ∈ WS := WS_tbl 301 rfl rfl
theorem d_law_write_0 : decode b_law_write 0 = .ok (.aload_n 3, 1) := by decide +kernel
theorem d_law_write_1 : decode b_law_write 1 = .ok (.iconst 0, 1) := by decide +kernel
theorem d_law_write_2 : decode b_law_write 2 = .ok (.aload_n 0, 1) := by decide +kernel
theorem d_law_write_3 : decode b_law_write 3 = .ok (.iload_n 1, 1) := by decide +kernel
theorem d_law_write_4 : decode b_law_write 4 = .ok (.iload_n 2, 1) := by decide +kernel
theorem d_law_write_5 : decode b_law_write 5 = .ok (.invokevirtual 7, 3) := by decide +kernel
theorem d_law_write_8 : decode b_law_write 8 = .ok (.i2l, 1) := by decide +kernel
theorem d_law_write_9 : decode b_law_write 9 = .ok (.lastore, 1) := by decide +kernel
theorem d_law_write_10 : decode b_law_write 10 = .ok (.goto 11, 3) := by decide +kernel
theorem d_law_write_13 : decode b_law_write 13 = .ok (.astore 4, 2) := by decide +kernel
theorem d_law_write_15 : decode b_law_write 15 = .ok (.iconst 1, 1) := by decide +kernel
theorem d_law_write_16 : decode b_law_write 16 = .ok (.ireturn, 1) := by decide +kernel
theorem d_law_write_17 : decode b_law_write 17 = .ok (.astore 4, 2) := by decide +kernel
theorem d_law_write_19 : decode b_law_write 19 = .ok (.iconst 2, 1) := by decide +kernel
theorem d_law_write_20 : decode b_law_write 20 = .ok (.ireturn, 1) := by decide +kernel
theorem d_law_write_21 : decode b_law_write 21 = .ok (.iconst 0, 1) := by decide +kernel
theorem d_law_write_22 : decode b_law_write 22 = .ok (.ireturn, 1) := by decide +kernel

set_option maxHeartbeats 1000000 in
theorem c_law_write_ret (l : Launch) (D : va_G) (cI cC cL : ClassId) (sa : Nat → Nat) (b la : Nat) (fs : List Value) (wc w1 : va_W) (lv mk : Int32) {rm : Room} {F Lo : Nat} (f0 : Nat → Int64) {v : Int32} (hM : ∀ sz : Nat, Met l y_q_write (cd_q_write :: WS) rm (va_Pc (.ref b :: [.int lv, .int mk]) (swP sa D ((b, .inr (7, fs)) :: wc) [(cI, .int), (cC, .char)] sz)) (wQi D v ((b, .inr (7, fs)) :: wc) w1 sz) 0 0 (va_A ((b, .inr (7, fs)) :: wc) sz)) (hrc : rm.cells = 0) (hrs : rm.slots = 0) (hr1 : rm.frames + 1 ≤ F) (hr2 : 8 + (5 + 11) + rm.locals ≤ Lo) (hw1 : ((b, .inr (7, fs)) :: wc : va_W).map Prod.fst = w1.map Prod.fst) (sz : Nat) : Met l y_law_write (cd_law_write :: WS) { frames := F, cells := 0, slots := 0, locals := Lo } (va_Pc [.ref b, .int lv, .int mk, .ref la] (twP sa D ((la, .inl (cL, 1, .inr (.inl f0))) :: (b, .inr (7, fs)) :: wc) [(cI, .int), (cC, .char), (cL, .long)] sz)) (wQi D (nI 0) ((la, .inl (cL, 1, .inr (.inl f0))) :: (b, .inr (7, fs)) :: wc) ((la, .inl (cL, 1, .inr (.inl (vp_updL f0 0 v.toInt64)))) :: w1) sz) 0 0 (va_A ((la, .inl (cL, 1, .inr (.inl f0))) :: (b, .inr (7, fs)) :: wc) sz) := by
  refine va_MetW (cc := b_law_write) (maxL := 5) (ret := (some .int)) (by decide) rfl ?_
  intro p e s m args below meth c s₁ B hml hv0
  obtain ⟨rfl, ⟨⟨hP, hK, hD0, hsz⟩, hSt⟩, hTB⟩ := hv0
  have hts := atoms_spec (ws := cd_law_write :: WS) B.pre
  have hown : s.vm.findClass "SquareCodesLaw" = some m.cls := findClass_of_methodNamed B.named
  have hlocks := B.notSynchronized
  subst hsz
  have hD := hD0.self (sz := s.heap.size)
  have hl := lv_entry ([.ref b, .int lv, .int mk, .ref la]) (n := 5) (Nat.le_of_ble_eq_true rfl)
  rw [lg_entry_eq]
  generalize (lg_sl ([.ref b, .int lv, .int mk, .ref la]) ++ List.replicate (5 - (lg_sl ([.ref b, .int lv, .int mk, .ref la])).length) Slot.unset).toArray = ls at hl ⊢
  have S : CallFix p m c b_law_write 5 s _ (cd_law_write :: WS) "SquareCodesLaw" := ⟨B.exec, B.bytes, hml, hown, hts⟩
  obtain ⟨hx, hb, -, -, -⟩ := id S
  have hS : va_S (va_A ((la, .inl (cL, 1, .inr (.inl f0))) :: (b, .inr (7, fs)) :: wc) s.heap.size) s.heap s.heap [] := va_S.rf
  refine lv_aload_n hx hb d_law_write_0 rfl (lv_at hl 3 rfl) ?_
  refine lv_iconst (v := nI 0) hx hb d_law_write_1 (by decide) ?_
  refine lv_aload_n hx hb d_law_write_2 rfl (lv_at hl 0 rfl) ?_
  refine lv_iload_n hx hb d_law_write_3 rfl (lv_at hl 1 rfl) ?_
  refine lv_iload_n hx hb d_law_write_4 rfl (lv_at hl 2 rfl) ?_
  refine q_writeVis (tys := [(cI, .int), (cC, .char)]) (n := 2) (As := [.int lv, .int mk]) (rest := [.int (nI 0), .ref la]) (wc := (b, .inr (7, fs)) :: wc) (wr := [(la, .inl (cL, 1, .inr (.inl f0)))]) (w1 := w1) S (hM s.heap.size) hSt (hK.sub [0, 1] rfl) hP hD (fun q h => Or.inr h) (q0 := 1) rfl rfl ((List.range ((b, .inr (7, fs)) :: wc : va_W).length).map (· + 1)) [0] (rg_map _ _) (rg_nd _) rfl rfl (rg_dis _) hw1 (q_goodV kw_304 kw_305 kw_306 kw_1 kw_307) (by decide +kernel) rfl hrc hrs ⟨hr1, hr2⟩ rfl hl.1 rfl (Nat.le_of_ble_eq_true rfl) d_law_write_5 ⟨Nat.zero_le _, Nat.zero_le _⟩ hS (fun H locs hP hD hS => ?_)
  refine lv_i2l (v := v.toInt64) hx hb d_law_write_8 rfl ?_
  refine va_last hx hb hK hP hD hS 0 2 rfl rfl (i := nI 0) (vp_in_nI (by decide) (by decide)) d_law_write_9 (fun H locs hP hD hS => ?_)
  have hP : va_P D classes ((la, .inl (cL, 1, .inr (.inl (vp_updL f0 0 v.toInt64)))) :: w1) H := hP
  refine lv_goto hx hb d_law_write_10 (tgt := 21) rfl ?_
  refine lv_iconst (v := nI 0) hx hb d_law_write_21 (by decide) ?_
  exact W.iret hx hb B.returns (fun t ht _ => ⟨⟨_, (), rfl, rfl, by have h9 := hP; rw [← ht] at h9; exact h9⟩, hS.F ht⟩) hS.2.2 d_law_write_22
set_option maxHeartbeats 1000000 in
theorem c_law_write_A (l : Launch) (D : va_G) (cI cC cL : ClassId) (sa : Nat → Nat) (b la : Nat) (fs : List Value) (wc w1 : va_W) (lv mk : Int32) {rm : Room} {F Lo : Nat} (f0 : Nat → Int64) (hM : ∀ sz : Nat, MetT l y_q_write (cd_q_write :: WS) rm (va_Pc (.ref b :: [.int lv, .int mk]) (twP sa D ((b, .inr (7, fs)) :: wc) [(cI, .int), (cC, .char)] sz)) (tQ D "java/lang/IllegalArgumentException" w1 ((b, .inr (7, fs)) :: wc) sz) 1 6 (va_A ((b, .inr (7, fs)) :: wc) sz)) (hrc : rm.cells = 1) (hrs : rm.slots = 6) (hr1 : rm.frames + 1 ≤ F) (hr2 : 8 + (5 + 11) + rm.locals ≤ Lo) (hw1 : ((b, .inr (7, fs)) :: wc : va_W).map Prod.fst = w1.map Prod.fst) (sz : Nat) : Met l y_law_write (cd_law_write :: WS) { frames := F, cells := 1, slots := 6, locals := Lo } (va_Pc [.ref b, .int lv, .int mk, .ref la] (twP sa D ((la, .inl (cL, 1, .inr (.inl f0))) :: (b, .inr (7, fs)) :: wc) [(cI, .int), (cC, .char), (cL, .long)] sz)) (wQi D (nI 1) ((la, .inl (cL, 1, .inr (.inl f0))) :: (b, .inr (7, fs)) :: wc) ((la, .inl (cL, 1, .inr (.inl f0))) :: w1) sz) 1 6 (va_A ((la, .inl (cL, 1, .inr (.inl f0))) :: (b, .inr (7, fs)) :: wc) sz) := by
  refine va_MetW (cc := b_law_write) (maxL := 5) (ret := (some .int)) (by decide) rfl ?_
  intro p e s m args below meth c s₁ B hml hv0
  obtain ⟨rfl, ⟨⟨hP, hK, hD0, hsz⟩, hSt⟩, hTB⟩ := hv0
  have hts := atoms_spec (ws := cd_law_write :: WS) B.pre
  have hown : s.vm.findClass "SquareCodesLaw" = some m.cls := findClass_of_methodNamed B.named
  have hlocks := B.notSynchronized
  subst hsz
  have hD := hD0.self (sz := s.heap.size)
  have hl := lv_entry ([.ref b, .int lv, .int mk, .ref la]) (n := 5) (Nat.le_of_ble_eq_true rfl)
  rw [lg_entry_eq]
  generalize (lg_sl ([.ref b, .int lv, .int mk, .ref la]) ++ List.replicate (5 - (lg_sl ([.ref b, .int lv, .int mk, .ref la])).length) Slot.unset).toArray = ls at hl ⊢
  have S : CallFix p m c b_law_write 5 s _ (cd_law_write :: WS) "SquareCodesLaw" := ⟨B.exec, B.bytes, hml, hown, hts⟩
  obtain ⟨hx, hb, -, -, -⟩ := id S
  have htab : c.exceptionTable.toList = tableOf [(0, 10, 13, 13), (0, 10, 17, 15)] := by
    obtain ⟨m9, meth9, c9, n9, k1, k2, -, -, k5, -⟩ := Cond.codeWith_spec (hts _ List.mem_cons_self)
    cases B.named.symm.trans n9; cases B.method.symm.trans k1; cases (Stand.of_body B).code.symm.trans k2
    rw [← k5, table_eq]
  have hS : va_S (va_A ((la, .inl (cL, 1, .inr (.inl f0))) :: (b, .inr (7, fs)) :: wc) s.heap.size) s.heap s.heap [] := va_S.rf
  refine lv_aload_n hx hb d_law_write_0 rfl (lv_at hl 3 rfl) ?_
  refine lv_iconst (v := nI 0) hx hb d_law_write_1 (by decide) ?_
  refine lv_aload_n hx hb d_law_write_2 rfl (lv_at hl 0 rfl) ?_
  refine lv_iload_n hx hb d_law_write_3 rfl (lv_at hl 1 rfl) ?_
  refine lv_iload_n hx hb d_law_write_4 rfl (lv_at hl 2 rfl) ?_
  refine q_catchV (tys := [(cI, .int), (cC, .char), (cL, .long)]) (tys2 := [(cI, .int), (cC, .char)]) (n := 2) (As := [.int lv, .int mk]) (rest := [.int (nI 0), .ref la]) (wc := (b, .inr (7, fs)) :: wc) (wr := [(la, .inl (cL, 1, .inr (.inl f0)))]) (w1 := w1) S (hM s.heap.size) hSt hTB hK (hK.sub [0, 1] rfl) hP hD (fun q h => Or.inr h) (q0 := 1) rfl rfl ((List.range ((b, .inr (7, fs)) :: wc : va_W).length).map (· + 1)) [0] (rg_map _ _) (rg_nd _) rfl rfl (rg_dis _) (q_goodV kw_304 kw_305 kw_306 kw_1 kw_307) (by decide +kernel) rfl hrc hrs ⟨hr1, hr2⟩ rfl hl.1 rfl (Nat.le_of_ble_eq_true rfl) d_law_write_5 ⟨Nat.le_of_eq (Nat.zero_add _), Nat.le_of_eq (Nat.zero_add _)⟩ hS [] { startPc := 0, endPc := 10, handlerPc := 13, catchType := 13 } [{ startPc := 0, endPc := 10, handlerPc := 17, catchType := 15 }] htab (fun z hz => by cases hz) rfl (by decide) kw_302 (hTB.cast "java/lang/IllegalArgumentException" (by decide)) (fun a H locs hP hD hS => ?_)
  refine lv_astore hx hb d_law_write_13 hl (Nat.le_of_ble_eq_true rfl) rfl (fun ls hl => ?_)
  refine lv_iconst (v := nI 1) hx hb d_law_write_15 (by decide) ?_
  exact W.iret hx hb B.returns (fun t ht _ => ⟨⟨_, (), rfl, rfl, by have h9 := hP; rw [← ht] at h9; exact h9⟩, hS.F ht⟩) hS.2.2 d_law_write_16
set_option maxHeartbeats 1000000 in
theorem c_law_write_S (l : Launch) (D : va_G) (cI cC cL : ClassId) (sa : Nat → Nat) (b la : Nat) (fs : List Value) (wc w1 : va_W) (lv mk : Int32) {rm : Room} {F Lo : Nat} (f0 : Nat → Int64) (hM : ∀ sz : Nat, MetT l y_q_write (cd_q_write :: WS) rm (va_Pc (.ref b :: [.int lv, .int mk]) (twP sa D ((b, .inr (7, fs)) :: wc) [(cI, .int), (cC, .char)] sz)) (tQ D "java/lang/IllegalStateException" w1 ((b, .inr (7, fs)) :: wc) sz) 1 6 (va_A ((b, .inr (7, fs)) :: wc) sz)) (hrc : rm.cells = 1) (hrs : rm.slots = 6) (hr1 : rm.frames + 1 ≤ F) (hr2 : 8 + (5 + 11) + rm.locals ≤ Lo) (hw1 : ((b, .inr (7, fs)) :: wc : va_W).map Prod.fst = w1.map Prod.fst) (sz : Nat) : Met l y_law_write (cd_law_write :: WS) { frames := F, cells := 1, slots := 6, locals := Lo } (va_Pc [.ref b, .int lv, .int mk, .ref la] (twP sa D ((la, .inl (cL, 1, .inr (.inl f0))) :: (b, .inr (7, fs)) :: wc) [(cI, .int), (cC, .char), (cL, .long)] sz)) (wQi D (nI 2) ((la, .inl (cL, 1, .inr (.inl f0))) :: (b, .inr (7, fs)) :: wc) ((la, .inl (cL, 1, .inr (.inl f0))) :: w1) sz) 1 6 (va_A ((la, .inl (cL, 1, .inr (.inl f0))) :: (b, .inr (7, fs)) :: wc) sz) := by
  refine va_MetW (cc := b_law_write) (maxL := 5) (ret := (some .int)) (by decide) rfl ?_
  intro p e s m args below meth c s₁ B hml hv0
  obtain ⟨rfl, ⟨⟨hP, hK, hD0, hsz⟩, hSt⟩, hTB⟩ := hv0
  have hts := atoms_spec (ws := cd_law_write :: WS) B.pre
  have hown : s.vm.findClass "SquareCodesLaw" = some m.cls := findClass_of_methodNamed B.named
  have hlocks := B.notSynchronized
  subst hsz
  have hD := hD0.self (sz := s.heap.size)
  have hl := lv_entry ([.ref b, .int lv, .int mk, .ref la]) (n := 5) (Nat.le_of_ble_eq_true rfl)
  rw [lg_entry_eq]
  generalize (lg_sl ([.ref b, .int lv, .int mk, .ref la]) ++ List.replicate (5 - (lg_sl ([.ref b, .int lv, .int mk, .ref la])).length) Slot.unset).toArray = ls at hl ⊢
  have S : CallFix p m c b_law_write 5 s _ (cd_law_write :: WS) "SquareCodesLaw" := ⟨B.exec, B.bytes, hml, hown, hts⟩
  obtain ⟨hx, hb, -, -, -⟩ := id S
  have htab : c.exceptionTable.toList = tableOf [(0, 10, 13, 13), (0, 10, 17, 15)] := by
    obtain ⟨m9, meth9, c9, n9, k1, k2, -, -, k5, -⟩ := Cond.codeWith_spec (hts _ List.mem_cons_self)
    cases B.named.symm.trans n9; cases B.method.symm.trans k1; cases (Stand.of_body B).code.symm.trans k2
    rw [← k5, table_eq]
  have hS : va_S (va_A ((la, .inl (cL, 1, .inr (.inl f0))) :: (b, .inr (7, fs)) :: wc) s.heap.size) s.heap s.heap [] := va_S.rf
  refine lv_aload_n hx hb d_law_write_0 rfl (lv_at hl 3 rfl) ?_
  refine lv_iconst (v := nI 0) hx hb d_law_write_1 (by decide) ?_
  refine lv_aload_n hx hb d_law_write_2 rfl (lv_at hl 0 rfl) ?_
  refine lv_iload_n hx hb d_law_write_3 rfl (lv_at hl 1 rfl) ?_
  refine lv_iload_n hx hb d_law_write_4 rfl (lv_at hl 2 rfl) ?_
  refine q_catchV (tys := [(cI, .int), (cC, .char), (cL, .long)]) (tys2 := [(cI, .int), (cC, .char)]) (n := 2) (As := [.int lv, .int mk]) (rest := [.int (nI 0), .ref la]) (wc := (b, .inr (7, fs)) :: wc) (wr := [(la, .inl (cL, 1, .inr (.inl f0)))]) (w1 := w1) S (hM s.heap.size) hSt hTB hK (hK.sub [0, 1] rfl) hP hD (fun q h => Or.inr h) (q0 := 1) rfl rfl ((List.range ((b, .inr (7, fs)) :: wc : va_W).length).map (· + 1)) [0] (rg_map _ _) (rg_nd _) rfl rfl (rg_dis _) (q_goodV kw_304 kw_305 kw_306 kw_1 kw_307) (by decide +kernel) rfl hrc hrs ⟨hr1, hr2⟩ rfl hl.1 rfl (Nat.le_of_ble_eq_true rfl) d_law_write_5 ⟨Nat.le_of_eq (Nat.zero_add _), Nat.le_of_eq (Nat.zero_add _)⟩ hS [{ startPc := 0, endPc := 10, handlerPc := 13, catchType := 13 }] { startPc := 0, endPc := 10, handlerPc := 17, catchType := 15 } [] htab (fun z hz => by
    simp only [List.mem_cons, List.not_mem_nil, or_false] at hz
    subst hz
    exact ⟨rfl, by decide, _, kw_302, hTB.no "java/lang/IllegalStateException" "java/lang/IllegalArgumentException" (by decide)⟩) rfl (by decide) kw_303 (hTB.cast "java/lang/IllegalStateException" (by decide)) (fun a H locs hP hD hS => ?_)
  refine lv_astore hx hb d_law_write_17 hl (Nat.le_of_ble_eq_true rfl) rfl (fun ls hl => ?_)
  refine lv_iconst (v := nI 2) hx hb d_law_write_19 (by decide) ?_
  exact W.iret hx hb B.returns (fun t ht _ => ⟨⟨_, (), rfl, rfl, by have h9 := hP; rw [← ht] at h9; exact h9⟩, hS.F ht⟩) hS.2.2 d_law_write_20
abbrev cd_law_flip : Cond := .codeWith y_law_flip b_law_flip 5 (some .int) [(0, 10, 13, 13)]
set_option maxRecDepth 1000000 in
theorem kw_587 : cd_law_flip ∈ WS := WS_tbl 587 rfl rfl
theorem d_law_flip_0 : decode b_law_flip 0 = .ok (.aload_n 3, 1) := by decide +kernel
theorem d_law_flip_1 : decode b_law_flip 1 = .ok (.iconst 0, 1) := by decide +kernel
theorem d_law_flip_2 : decode b_law_flip 2 = .ok (.aload_n 0, 1) := by decide +kernel
theorem d_law_flip_3 : decode b_law_flip 3 = .ok (.iload_n 1, 1) := by decide +kernel
theorem d_law_flip_4 : decode b_law_flip 4 = .ok (.iload_n 2, 1) := by decide +kernel
theorem d_law_flip_5 : decode b_law_flip 5 = .ok (.invokevirtual 17, 3) := by decide +kernel
theorem d_law_flip_8 : decode b_law_flip 8 = .ok (.i2l, 1) := by decide +kernel
theorem d_law_flip_9 : decode b_law_flip 9 = .ok (.lastore, 1) := by decide +kernel
theorem d_law_flip_10 : decode b_law_flip 10 = .ok (.goto 7, 3) := by decide +kernel
theorem d_law_flip_13 : decode b_law_flip 13 = .ok (.astore 4, 2) := by decide +kernel
theorem d_law_flip_15 : decode b_law_flip 15 = .ok (.iconst 1, 1) := by decide +kernel
theorem d_law_flip_16 : decode b_law_flip 16 = .ok (.ireturn, 1) := by decide +kernel
theorem d_law_flip_17 : decode b_law_flip 17 = .ok (.iconst 0, 1) := by decide +kernel
theorem d_law_flip_18 : decode b_law_flip 18 = .ok (.ireturn, 1) := by decide +kernel

set_option maxHeartbeats 1000000 in
theorem c_law_flip_ret (l : Launch) (D : va_G) (cI cC cL : ClassId) (sa : Nat → Nat) (b la : Nat) (fs : List Value) (wc w1 : va_W) (lv mk : Int32) {rm : Room} {F Lo : Nat} (f0 : Nat → Int64) {v : Int32} (hM : ∀ sz : Nat, Met l y_q_flip (cd_q_flip :: WS) rm (va_Pc (.ref b :: [.int lv, .int mk]) (swP sa D ((b, .inr (7, fs)) :: wc) [(cI, .int), (cC, .char)] sz)) (wQi D v ((b, .inr (7, fs)) :: wc) w1 sz) 0 0 (va_A ((b, .inr (7, fs)) :: wc) sz)) (hrc : rm.cells = 0) (hrs : rm.slots = 0) (hr1 : rm.frames + 1 ≤ F) (hr2 : 8 + (3 + 11) + rm.locals ≤ Lo) (hw1 : ((b, .inr (7, fs)) :: wc : va_W).map Prod.fst = w1.map Prod.fst) (sz : Nat) : Met l y_law_flip (cd_law_flip :: WS) { frames := F, cells := 0, slots := 0, locals := Lo } (va_Pc [.ref b, .int lv, .int mk, .ref la] (twP sa D ((la, .inl (cL, 1, .inr (.inl f0))) :: (b, .inr (7, fs)) :: wc) [(cI, .int), (cC, .char), (cL, .long)] sz)) (wQi D (nI 0) ((la, .inl (cL, 1, .inr (.inl f0))) :: (b, .inr (7, fs)) :: wc) ((la, .inl (cL, 1, .inr (.inl (vp_updL f0 0 v.toInt64)))) :: w1) sz) 0 0 (va_A ((la, .inl (cL, 1, .inr (.inl f0))) :: (b, .inr (7, fs)) :: wc) sz) := by
  refine va_MetW (cc := b_law_flip) (maxL := 5) (ret := (some .int)) (by decide) rfl ?_
  intro p e s m args below meth c s₁ B hml hv0
  obtain ⟨rfl, ⟨⟨hP, hK, hD0, hsz⟩, hSt⟩, hTB⟩ := hv0
  have hts := atoms_spec (ws := cd_law_flip :: WS) B.pre
  have hown : s.vm.findClass "SquareCodesLaw" = some m.cls := findClass_of_methodNamed B.named
  have hlocks := B.notSynchronized
  subst hsz
  have hD := hD0.self (sz := s.heap.size)
  have hl := lv_entry ([.ref b, .int lv, .int mk, .ref la]) (n := 5) (Nat.le_of_ble_eq_true rfl)
  rw [lg_entry_eq]
  generalize (lg_sl ([.ref b, .int lv, .int mk, .ref la]) ++ List.replicate (5 - (lg_sl ([.ref b, .int lv, .int mk, .ref la])).length) Slot.unset).toArray = ls at hl ⊢
  have S : CallFix p m c b_law_flip 5 s _ (cd_law_flip :: WS) "SquareCodesLaw" := ⟨B.exec, B.bytes, hml, hown, hts⟩
  obtain ⟨hx, hb, -, -, -⟩ := id S
  have hS : va_S (va_A ((la, .inl (cL, 1, .inr (.inl f0))) :: (b, .inr (7, fs)) :: wc) s.heap.size) s.heap s.heap [] := va_S.rf
  refine lv_aload_n hx hb d_law_flip_0 rfl (lv_at hl 3 rfl) ?_
  refine lv_iconst (v := nI 0) hx hb d_law_flip_1 (by decide) ?_
  refine lv_aload_n hx hb d_law_flip_2 rfl (lv_at hl 0 rfl) ?_
  refine lv_iload_n hx hb d_law_flip_3 rfl (lv_at hl 1 rfl) ?_
  refine lv_iload_n hx hb d_law_flip_4 rfl (lv_at hl 2 rfl) ?_
  refine q_writeVis (tys := [(cI, .int), (cC, .char)]) (n := 2) (As := [.int lv, .int mk]) (rest := [.int (nI 0), .ref la]) (wc := (b, .inr (7, fs)) :: wc) (wr := [(la, .inl (cL, 1, .inr (.inl f0)))]) (w1 := w1) S (hM s.heap.size) hSt (hK.sub [0, 1] rfl) hP hD (fun q h => Or.inr h) (q0 := 1) rfl rfl ((List.range ((b, .inr (7, fs)) :: wc : va_W).length).map (· + 1)) [0] (rg_map _ _) (rg_nd _) rfl rfl (rg_dis _) hw1 (q_goodV kw_588 kw_589 kw_590 kw_1 kw_591) (by decide +kernel) rfl hrc hrs ⟨hr1, hr2⟩ rfl hl.1 rfl (Nat.le_of_ble_eq_true rfl) d_law_flip_5 ⟨Nat.zero_le _, Nat.zero_le _⟩ hS (fun H locs hP hD hS => ?_)
  refine lv_i2l (v := v.toInt64) hx hb d_law_flip_8 rfl ?_
  refine va_last hx hb hK hP hD hS 0 2 rfl rfl (i := nI 0) (vp_in_nI (by decide) (by decide)) d_law_flip_9 (fun H locs hP hD hS => ?_)
  have hP : va_P D classes ((la, .inl (cL, 1, .inr (.inl (vp_updL f0 0 v.toInt64)))) :: w1) H := hP
  refine lv_goto hx hb d_law_flip_10 (tgt := 17) rfl ?_
  refine lv_iconst (v := nI 0) hx hb d_law_flip_17 (by decide) ?_
  exact W.iret hx hb B.returns (fun t ht _ => ⟨⟨_, (), rfl, rfl, by have h9 := hP; rw [← ht] at h9; exact h9⟩, hS.F ht⟩) hS.2.2 d_law_flip_18
set_option maxHeartbeats 1000000 in
theorem c_law_flip_A (l : Launch) (D : va_G) (cI cC cL : ClassId) (sa : Nat → Nat) (b la : Nat) (fs : List Value) (wc w1 : va_W) (lv mk : Int32) {rm : Room} {F Lo : Nat} (f0 : Nat → Int64) (hM : ∀ sz : Nat, MetT l y_q_flip (cd_q_flip :: WS) rm (va_Pc (.ref b :: [.int lv, .int mk]) (twP sa D ((b, .inr (7, fs)) :: wc) [(cI, .int), (cC, .char)] sz)) (tQ D "java/lang/IllegalArgumentException" w1 ((b, .inr (7, fs)) :: wc) sz) 1 6 (va_A ((b, .inr (7, fs)) :: wc) sz)) (hrc : rm.cells = 1) (hrs : rm.slots = 6) (hr1 : rm.frames + 1 ≤ F) (hr2 : 8 + (3 + 11) + rm.locals ≤ Lo) (hw1 : ((b, .inr (7, fs)) :: wc : va_W).map Prod.fst = w1.map Prod.fst) (sz : Nat) : Met l y_law_flip (cd_law_flip :: WS) { frames := F, cells := 1, slots := 6, locals := Lo } (va_Pc [.ref b, .int lv, .int mk, .ref la] (twP sa D ((la, .inl (cL, 1, .inr (.inl f0))) :: (b, .inr (7, fs)) :: wc) [(cI, .int), (cC, .char), (cL, .long)] sz)) (wQi D (nI 1) ((la, .inl (cL, 1, .inr (.inl f0))) :: (b, .inr (7, fs)) :: wc) ((la, .inl (cL, 1, .inr (.inl f0))) :: w1) sz) 1 6 (va_A ((la, .inl (cL, 1, .inr (.inl f0))) :: (b, .inr (7, fs)) :: wc) sz) := by
  refine va_MetW (cc := b_law_flip) (maxL := 5) (ret := (some .int)) (by decide) rfl ?_
  intro p e s m args below meth c s₁ B hml hv0
  obtain ⟨rfl, ⟨⟨hP, hK, hD0, hsz⟩, hSt⟩, hTB⟩ := hv0
  have hts := atoms_spec (ws := cd_law_flip :: WS) B.pre
  have hown : s.vm.findClass "SquareCodesLaw" = some m.cls := findClass_of_methodNamed B.named
  have hlocks := B.notSynchronized
  subst hsz
  have hD := hD0.self (sz := s.heap.size)
  have hl := lv_entry ([.ref b, .int lv, .int mk, .ref la]) (n := 5) (Nat.le_of_ble_eq_true rfl)
  rw [lg_entry_eq]
  generalize (lg_sl ([.ref b, .int lv, .int mk, .ref la]) ++ List.replicate (5 - (lg_sl ([.ref b, .int lv, .int mk, .ref la])).length) Slot.unset).toArray = ls at hl ⊢
  have S : CallFix p m c b_law_flip 5 s _ (cd_law_flip :: WS) "SquareCodesLaw" := ⟨B.exec, B.bytes, hml, hown, hts⟩
  obtain ⟨hx, hb, -, -, -⟩ := id S
  have htab : c.exceptionTable.toList = tableOf [(0, 10, 13, 13)] := by
    obtain ⟨m9, meth9, c9, n9, k1, k2, -, -, k5, -⟩ := Cond.codeWith_spec (hts _ List.mem_cons_self)
    cases B.named.symm.trans n9; cases B.method.symm.trans k1; cases (Stand.of_body B).code.symm.trans k2
    rw [← k5, table_eq]
  have hS : va_S (va_A ((la, .inl (cL, 1, .inr (.inl f0))) :: (b, .inr (7, fs)) :: wc) s.heap.size) s.heap s.heap [] := va_S.rf
  refine lv_aload_n hx hb d_law_flip_0 rfl (lv_at hl 3 rfl) ?_
  refine lv_iconst (v := nI 0) hx hb d_law_flip_1 (by decide) ?_
  refine lv_aload_n hx hb d_law_flip_2 rfl (lv_at hl 0 rfl) ?_
  refine lv_iload_n hx hb d_law_flip_3 rfl (lv_at hl 1 rfl) ?_
  refine lv_iload_n hx hb d_law_flip_4 rfl (lv_at hl 2 rfl) ?_
  refine q_catchV (tys := [(cI, .int), (cC, .char), (cL, .long)]) (tys2 := [(cI, .int), (cC, .char)]) (n := 2) (As := [.int lv, .int mk]) (rest := [.int (nI 0), .ref la]) (wc := (b, .inr (7, fs)) :: wc) (wr := [(la, .inl (cL, 1, .inr (.inl f0)))]) (w1 := w1) S (hM s.heap.size) hSt hTB hK (hK.sub [0, 1] rfl) hP hD (fun q h => Or.inr h) (q0 := 1) rfl rfl ((List.range ((b, .inr (7, fs)) :: wc : va_W).length).map (· + 1)) [0] (rg_map _ _) (rg_nd _) rfl rfl (rg_dis _) (q_goodV kw_588 kw_589 kw_590 kw_1 kw_591) (by decide +kernel) rfl hrc hrs ⟨hr1, hr2⟩ rfl hl.1 rfl (Nat.le_of_ble_eq_true rfl) d_law_flip_5 ⟨Nat.le_of_eq (Nat.zero_add _), Nat.le_of_eq (Nat.zero_add _)⟩ hS [] { startPc := 0, endPc := 10, handlerPc := 13, catchType := 13 } [] htab (fun z hz => by cases hz) rfl (by decide) kw_302 (hTB.cast "java/lang/IllegalArgumentException" (by decide)) (fun a H locs hP hD hS => ?_)
  refine lv_astore hx hb d_law_flip_13 hl (Nat.le_of_ble_eq_true rfl) rfl (fun ls hl => ?_)
  refine lv_iconst (v := nI 1) hx hb d_law_flip_15 (by decide) ?_
  exact W.iret hx hb B.returns (fun t ht _ => ⟨⟨_, (), rfl, rfl, by have h9 := hP; rw [← ht] at h9; exact h9⟩, hS.F ht⟩) hS.2.2 d_law_flip_16
abbrev cd_law_read : Cond := .codeWith y_law_read b_law_read 3 (some .int) [(0, 8, 11, 15), (0, 8, 14, 13), (0, 8, 17, 24)]
set_option maxRecDepth 1000000 in
theorem kw_596 : cd_law_read ∈ WS := WS_tbl 596 rfl rfl
theorem d_law_read_0 : decode b_law_read 0 = .ok (.aload_n 1, 1) := by decide +kernel
theorem d_law_read_1 : decode b_law_read 1 = .ok (.iconst 0, 1) := by decide +kernel
theorem d_law_read_2 : decode b_law_read 2 = .ok (.aload_n 0, 1) := by decide +kernel
theorem d_law_read_3 : decode b_law_read 3 = .ok (.invokevirtual 20, 3) := by decide +kernel
theorem d_law_read_6 : decode b_law_read 6 = .ok (.i2l, 1) := by decide +kernel
theorem d_law_read_7 : decode b_law_read 7 = .ok (.lastore, 1) := by decide +kernel
theorem d_law_read_8 : decode b_law_read 8 = .ok (.goto 12, 3) := by decide +kernel
theorem d_law_read_11 : decode b_law_read 11 = .ok (.astore_n 2, 1) := by decide +kernel
theorem d_law_read_12 : decode b_law_read 12 = .ok (.iconst 1, 1) := by decide +kernel
theorem d_law_read_13 : decode b_law_read 13 = .ok (.ireturn, 1) := by decide +kernel
theorem d_law_read_14 : decode b_law_read 14 = .ok (.astore_n 2, 1) := by decide +kernel
theorem d_law_read_15 : decode b_law_read 15 = .ok (.iconst 2, 1) := by decide +kernel
theorem d_law_read_16 : decode b_law_read 16 = .ok (.ireturn, 1) := by decide +kernel
theorem d_law_read_17 : decode b_law_read 17 = .ok (.astore_n 2, 1) := by decide +kernel
theorem d_law_read_18 : decode b_law_read 18 = .ok (.iconst 3, 1) := by decide +kernel
theorem d_law_read_19 : decode b_law_read 19 = .ok (.ireturn, 1) := by decide +kernel
theorem d_law_read_20 : decode b_law_read 20 = .ok (.iconst 0, 1) := by decide +kernel
theorem d_law_read_21 : decode b_law_read 21 = .ok (.ireturn, 1) := by decide +kernel

set_option maxHeartbeats 1000000 in
theorem c_law_read_ret (l : Launch) (D : va_G) (cI cC cL : ClassId) (sa : Nat → Nat) (b la : Nat) (fs : List Value) (wc w1 : va_W)  {rm : Room} {F Lo : Nat} (f0 : Nat → Int64) {v : Int32} (hM : ∀ sz : Nat, Met l y_q_read (cd_q_read :: WS) rm (va_Pc (.ref b :: []) (swP sa D ((b, .inr (7, fs)) :: wc) [(cI, .int), (cC, .char)] sz)) (wQi D v ((b, .inr (7, fs)) :: wc) w1 sz) 0 0 (va_A ((b, .inr (7, fs)) :: wc) sz)) (hrc : rm.cells = 0) (hrs : rm.slots = 0) (hr1 : rm.frames + 1 ≤ F) (hr2 : 8 + (6 + 11) + rm.locals ≤ Lo) (hw1 : ((b, .inr (7, fs)) :: wc : va_W).map Prod.fst = w1.map Prod.fst) (sz : Nat) : Met l y_law_read (cd_law_read :: WS) { frames := F, cells := 0, slots := 0, locals := Lo } (va_Pc [.ref b, .ref la] (twP sa D ((la, .inl (cL, 1, .inr (.inl f0))) :: (b, .inr (7, fs)) :: wc) [(cI, .int), (cC, .char), (cL, .long)] sz)) (wQi D (nI 0) ((la, .inl (cL, 1, .inr (.inl f0))) :: (b, .inr (7, fs)) :: wc) ((la, .inl (cL, 1, .inr (.inl (vp_updL f0 0 v.toInt64)))) :: w1) sz) 0 0 (va_A ((la, .inl (cL, 1, .inr (.inl f0))) :: (b, .inr (7, fs)) :: wc) sz) := by
  refine va_MetW (cc := b_law_read) (maxL := 3) (ret := (some .int)) (by decide) rfl ?_
  intro p e s m args below meth c s₁ B hml hv0
  obtain ⟨rfl, ⟨⟨hP, hK, hD0, hsz⟩, hSt⟩, hTB⟩ := hv0
  have hts := atoms_spec (ws := cd_law_read :: WS) B.pre
  have hown : s.vm.findClass "SquareCodesLaw" = some m.cls := findClass_of_methodNamed B.named
  have hlocks := B.notSynchronized
  subst hsz
  have hD := hD0.self (sz := s.heap.size)
  have hl := lv_entry ([.ref b, .ref la]) (n := 3) (Nat.le_of_ble_eq_true rfl)
  rw [lg_entry_eq]
  generalize (lg_sl ([.ref b, .ref la]) ++ List.replicate (3 - (lg_sl ([.ref b, .ref la])).length) Slot.unset).toArray = ls at hl ⊢
  have S : CallFix p m c b_law_read 3 s _ (cd_law_read :: WS) "SquareCodesLaw" := ⟨B.exec, B.bytes, hml, hown, hts⟩
  obtain ⟨hx, hb, -, -, -⟩ := id S
  have hS : va_S (va_A ((la, .inl (cL, 1, .inr (.inl f0))) :: (b, .inr (7, fs)) :: wc) s.heap.size) s.heap s.heap [] := va_S.rf
  refine lv_aload_n hx hb d_law_read_0 rfl (lv_at hl 1 rfl) ?_
  refine lv_iconst (v := nI 0) hx hb d_law_read_1 (by decide) ?_
  refine lv_aload_n hx hb d_law_read_2 rfl (lv_at hl 0 rfl) ?_
  refine q_writeVis (tys := [(cI, .int), (cC, .char)]) (n := 0) (As := []) (rest := [.int (nI 0), .ref la]) (wc := (b, .inr (7, fs)) :: wc) (wr := [(la, .inl (cL, 1, .inr (.inl f0)))]) (w1 := w1) S (hM s.heap.size) hSt (hK.sub [0, 1] rfl) hP hD (fun q h => Or.inr h) (q0 := 1) rfl rfl ((List.range ((b, .inr (7, fs)) :: wc : va_W).length).map (· + 1)) [0] (rg_map _ _) (rg_nd _) rfl rfl (rg_dis _) hw1 (q_goodV kw_598 kw_599 kw_600 kw_1 kw_601) (by decide +kernel) rfl hrc hrs ⟨hr1, hr2⟩ rfl hl.1 rfl (Nat.le_of_ble_eq_true rfl) d_law_read_3 ⟨Nat.zero_le _, Nat.zero_le _⟩ hS (fun H locs hP hD hS => ?_)
  refine lv_i2l (v := v.toInt64) hx hb d_law_read_6 rfl ?_
  refine va_last hx hb hK hP hD hS 0 2 rfl rfl (i := nI 0) (vp_in_nI (by decide) (by decide)) d_law_read_7 (fun H locs hP hD hS => ?_)
  have hP : va_P D classes ((la, .inl (cL, 1, .inr (.inl (vp_updL f0 0 v.toInt64)))) :: w1) H := hP
  refine lv_goto hx hb d_law_read_8 (tgt := 20) rfl ?_
  refine lv_iconst (v := nI 0) hx hb d_law_read_20 (by decide) ?_
  exact W.iret hx hb B.returns (fun t ht _ => ⟨⟨_, (), rfl, rfl, by have h9 := hP; rw [← ht] at h9; exact h9⟩, hS.F ht⟩) hS.2.2 d_law_read_21
set_option maxHeartbeats 1000000 in
theorem c_law_read_S (l : Launch) (D : va_G) (cI cC cL : ClassId) (sa : Nat → Nat) (b la : Nat) (fs : List Value) (wc w1 : va_W)  {rm : Room} {F Lo : Nat} (f0 : Nat → Int64) (hM : ∀ sz : Nat, MetT l y_q_read (cd_q_read :: WS) rm (va_Pc (.ref b :: []) (twP sa D ((b, .inr (7, fs)) :: wc) [(cI, .int), (cC, .char)] sz)) (tQ D "java/lang/IllegalStateException" w1 ((b, .inr (7, fs)) :: wc) sz) 1 6 (va_A ((b, .inr (7, fs)) :: wc) sz)) (hrc : rm.cells = 1) (hrs : rm.slots = 6) (hr1 : rm.frames + 1 ≤ F) (hr2 : 8 + (6 + 11) + rm.locals ≤ Lo) (hw1 : ((b, .inr (7, fs)) :: wc : va_W).map Prod.fst = w1.map Prod.fst) (sz : Nat) : Met l y_law_read (cd_law_read :: WS) { frames := F, cells := 1, slots := 6, locals := Lo } (va_Pc [.ref b, .ref la] (twP sa D ((la, .inl (cL, 1, .inr (.inl f0))) :: (b, .inr (7, fs)) :: wc) [(cI, .int), (cC, .char), (cL, .long)] sz)) (wQi D (nI 1) ((la, .inl (cL, 1, .inr (.inl f0))) :: (b, .inr (7, fs)) :: wc) ((la, .inl (cL, 1, .inr (.inl f0))) :: w1) sz) 1 6 (va_A ((la, .inl (cL, 1, .inr (.inl f0))) :: (b, .inr (7, fs)) :: wc) sz) := by
  refine va_MetW (cc := b_law_read) (maxL := 3) (ret := (some .int)) (by decide) rfl ?_
  intro p e s m args below meth c s₁ B hml hv0
  obtain ⟨rfl, ⟨⟨hP, hK, hD0, hsz⟩, hSt⟩, hTB⟩ := hv0
  have hts := atoms_spec (ws := cd_law_read :: WS) B.pre
  have hown : s.vm.findClass "SquareCodesLaw" = some m.cls := findClass_of_methodNamed B.named
  have hlocks := B.notSynchronized
  subst hsz
  have hD := hD0.self (sz := s.heap.size)
  have hl := lv_entry ([.ref b, .ref la]) (n := 3) (Nat.le_of_ble_eq_true rfl)
  rw [lg_entry_eq]
  generalize (lg_sl ([.ref b, .ref la]) ++ List.replicate (3 - (lg_sl ([.ref b, .ref la])).length) Slot.unset).toArray = ls at hl ⊢
  have S : CallFix p m c b_law_read 3 s _ (cd_law_read :: WS) "SquareCodesLaw" := ⟨B.exec, B.bytes, hml, hown, hts⟩
  obtain ⟨hx, hb, -, -, -⟩ := id S
  have htab : c.exceptionTable.toList = tableOf [(0, 8, 11, 15), (0, 8, 14, 13), (0, 8, 17, 24)] := by
    obtain ⟨m9, meth9, c9, n9, k1, k2, -, -, k5, -⟩ := Cond.codeWith_spec (hts _ List.mem_cons_self)
    cases B.named.symm.trans n9; cases B.method.symm.trans k1; cases (Stand.of_body B).code.symm.trans k2
    rw [← k5, table_eq]
  have hS : va_S (va_A ((la, .inl (cL, 1, .inr (.inl f0))) :: (b, .inr (7, fs)) :: wc) s.heap.size) s.heap s.heap [] := va_S.rf
  refine lv_aload_n hx hb d_law_read_0 rfl (lv_at hl 1 rfl) ?_
  refine lv_iconst (v := nI 0) hx hb d_law_read_1 (by decide) ?_
  refine lv_aload_n hx hb d_law_read_2 rfl (lv_at hl 0 rfl) ?_
  refine q_catchV (tys := [(cI, .int), (cC, .char), (cL, .long)]) (tys2 := [(cI, .int), (cC, .char)]) (n := 0) (As := []) (rest := [.int (nI 0), .ref la]) (wc := (b, .inr (7, fs)) :: wc) (wr := [(la, .inl (cL, 1, .inr (.inl f0)))]) (w1 := w1) S (hM s.heap.size) hSt hTB hK (hK.sub [0, 1] rfl) hP hD (fun q h => Or.inr h) (q0 := 1) rfl rfl ((List.range ((b, .inr (7, fs)) :: wc : va_W).length).map (· + 1)) [0] (rg_map _ _) (rg_nd _) rfl rfl (rg_dis _) (q_goodV kw_598 kw_599 kw_600 kw_1 kw_601) (by decide +kernel) rfl hrc hrs ⟨hr1, hr2⟩ rfl hl.1 rfl (Nat.le_of_ble_eq_true rfl) d_law_read_3 ⟨Nat.le_of_eq (Nat.zero_add _), Nat.le_of_eq (Nat.zero_add _)⟩ hS [] { startPc := 0, endPc := 8, handlerPc := 11, catchType := 15 } [{ startPc := 0, endPc := 8, handlerPc := 14, catchType := 13 }, { startPc := 0, endPc := 8, handlerPc := 17, catchType := 24 }] htab (fun z hz => by cases hz) rfl (by decide) kw_303 (hTB.cast "java/lang/IllegalStateException" (by decide)) (fun a H locs hP hD hS => ?_)
  refine lv_astore_n hx hb d_law_read_11 rfl hl (Nat.le_of_ble_eq_true rfl) rfl (fun ls hl => ?_)
  refine lv_iconst (v := nI 1) hx hb d_law_read_12 (by decide) ?_
  exact W.iret hx hb B.returns (fun t ht _ => ⟨⟨_, (), rfl, rfl, by have h9 := hP; rw [← ht] at h9; exact h9⟩, hS.F ht⟩) hS.2.2 d_law_read_13
set_option maxHeartbeats 1000000 in
theorem c_law_read_A (l : Launch) (D : va_G) (cI cC cL : ClassId) (sa : Nat → Nat) (b la : Nat) (fs : List Value) (wc w1 : va_W)  {rm : Room} {F Lo : Nat} (f0 : Nat → Int64) (hM : ∀ sz : Nat, MetT l y_q_read (cd_q_read :: WS) rm (va_Pc (.ref b :: []) (twP sa D ((b, .inr (7, fs)) :: wc) [(cI, .int), (cC, .char)] sz)) (tQ D "java/lang/IllegalArgumentException" w1 ((b, .inr (7, fs)) :: wc) sz) 1 6 (va_A ((b, .inr (7, fs)) :: wc) sz)) (hrc : rm.cells = 1) (hrs : rm.slots = 6) (hr1 : rm.frames + 1 ≤ F) (hr2 : 8 + (6 + 11) + rm.locals ≤ Lo) (hw1 : ((b, .inr (7, fs)) :: wc : va_W).map Prod.fst = w1.map Prod.fst) (sz : Nat) : Met l y_law_read (cd_law_read :: WS) { frames := F, cells := 1, slots := 6, locals := Lo } (va_Pc [.ref b, .ref la] (twP sa D ((la, .inl (cL, 1, .inr (.inl f0))) :: (b, .inr (7, fs)) :: wc) [(cI, .int), (cC, .char), (cL, .long)] sz)) (wQi D (nI 2) ((la, .inl (cL, 1, .inr (.inl f0))) :: (b, .inr (7, fs)) :: wc) ((la, .inl (cL, 1, .inr (.inl f0))) :: w1) sz) 1 6 (va_A ((la, .inl (cL, 1, .inr (.inl f0))) :: (b, .inr (7, fs)) :: wc) sz) := by
  refine va_MetW (cc := b_law_read) (maxL := 3) (ret := (some .int)) (by decide) rfl ?_
  intro p e s m args below meth c s₁ B hml hv0
  obtain ⟨rfl, ⟨⟨hP, hK, hD0, hsz⟩, hSt⟩, hTB⟩ := hv0
  have hts := atoms_spec (ws := cd_law_read :: WS) B.pre
  have hown : s.vm.findClass "SquareCodesLaw" = some m.cls := findClass_of_methodNamed B.named
  have hlocks := B.notSynchronized
  subst hsz
  have hD := hD0.self (sz := s.heap.size)
  have hl := lv_entry ([.ref b, .ref la]) (n := 3) (Nat.le_of_ble_eq_true rfl)
  rw [lg_entry_eq]
  generalize (lg_sl ([.ref b, .ref la]) ++ List.replicate (3 - (lg_sl ([.ref b, .ref la])).length) Slot.unset).toArray = ls at hl ⊢
  have S : CallFix p m c b_law_read 3 s _ (cd_law_read :: WS) "SquareCodesLaw" := ⟨B.exec, B.bytes, hml, hown, hts⟩
  obtain ⟨hx, hb, -, -, -⟩ := id S
  have htab : c.exceptionTable.toList = tableOf [(0, 8, 11, 15), (0, 8, 14, 13), (0, 8, 17, 24)] := by
    obtain ⟨m9, meth9, c9, n9, k1, k2, -, -, k5, -⟩ := Cond.codeWith_spec (hts _ List.mem_cons_self)
    cases B.named.symm.trans n9; cases B.method.symm.trans k1; cases (Stand.of_body B).code.symm.trans k2
    rw [← k5, table_eq]
  have hS : va_S (va_A ((la, .inl (cL, 1, .inr (.inl f0))) :: (b, .inr (7, fs)) :: wc) s.heap.size) s.heap s.heap [] := va_S.rf
  refine lv_aload_n hx hb d_law_read_0 rfl (lv_at hl 1 rfl) ?_
  refine lv_iconst (v := nI 0) hx hb d_law_read_1 (by decide) ?_
  refine lv_aload_n hx hb d_law_read_2 rfl (lv_at hl 0 rfl) ?_
  refine q_catchV (tys := [(cI, .int), (cC, .char), (cL, .long)]) (tys2 := [(cI, .int), (cC, .char)]) (n := 0) (As := []) (rest := [.int (nI 0), .ref la]) (wc := (b, .inr (7, fs)) :: wc) (wr := [(la, .inl (cL, 1, .inr (.inl f0)))]) (w1 := w1) S (hM s.heap.size) hSt hTB hK (hK.sub [0, 1] rfl) hP hD (fun q h => Or.inr h) (q0 := 1) rfl rfl ((List.range ((b, .inr (7, fs)) :: wc : va_W).length).map (· + 1)) [0] (rg_map _ _) (rg_nd _) rfl rfl (rg_dis _) (q_goodV kw_598 kw_599 kw_600 kw_1 kw_601) (by decide +kernel) rfl hrc hrs ⟨hr1, hr2⟩ rfl hl.1 rfl (Nat.le_of_ble_eq_true rfl) d_law_read_3 ⟨Nat.le_of_eq (Nat.zero_add _), Nat.le_of_eq (Nat.zero_add _)⟩ hS [{ startPc := 0, endPc := 8, handlerPc := 11, catchType := 15 }] { startPc := 0, endPc := 8, handlerPc := 14, catchType := 13 } [{ startPc := 0, endPc := 8, handlerPc := 17, catchType := 24 }] htab (fun z hz => by
    simp only [List.mem_cons, List.not_mem_nil, or_false] at hz
    subst hz
    exact ⟨rfl, by decide, _, kw_303, hTB.no "java/lang/IllegalArgumentException" "java/lang/IllegalStateException" (by decide)⟩) rfl (by decide) kw_302 (hTB.cast "java/lang/IllegalArgumentException" (by decide)) (fun a H locs hP hD hS => ?_)
  refine lv_astore_n hx hb d_law_read_14 rfl hl (Nat.le_of_ble_eq_true rfl) rfl (fun ls hl => ?_)
  refine lv_iconst (v := nI 2) hx hb d_law_read_15 (by decide) ?_
  exact W.iret hx hb B.returns (fun t ht _ => ⟨⟨_, (), rfl, rfl, by have h9 := hP; rw [← ht] at h9; exact h9⟩, hS.F ht⟩) hS.2.2 d_law_read_16
set_option maxHeartbeats 1000000 in
theorem c_law_read_U (l : Launch) (D : va_G) (cI cC cL : ClassId) (sa : Nat → Nat) (b la : Nat) (fs : List Value) (wc w1 : va_W)  {rm : Room} {F Lo : Nat} (f0 : Nat → Int64) (hM : ∀ sz : Nat, MetT l y_q_read (cd_q_read :: WS) rm (va_Pc (.ref b :: []) (twP sa D ((b, .inr (7, fs)) :: wc) [(cI, .int), (cC, .char)] sz)) (tQ D "java/lang/UnsupportedOperationException" w1 ((b, .inr (7, fs)) :: wc) sz) 1 6 (va_A ((b, .inr (7, fs)) :: wc) sz)) (hrc : rm.cells = 1) (hrs : rm.slots = 6) (hr1 : rm.frames + 1 ≤ F) (hr2 : 8 + (6 + 11) + rm.locals ≤ Lo) (hw1 : ((b, .inr (7, fs)) :: wc : va_W).map Prod.fst = w1.map Prod.fst) (sz : Nat) : Met l y_law_read (cd_law_read :: WS) { frames := F, cells := 1, slots := 6, locals := Lo } (va_Pc [.ref b, .ref la] (twP sa D ((la, .inl (cL, 1, .inr (.inl f0))) :: (b, .inr (7, fs)) :: wc) [(cI, .int), (cC, .char), (cL, .long)] sz)) (wQi D (nI 3) ((la, .inl (cL, 1, .inr (.inl f0))) :: (b, .inr (7, fs)) :: wc) ((la, .inl (cL, 1, .inr (.inl f0))) :: w1) sz) 1 6 (va_A ((la, .inl (cL, 1, .inr (.inl f0))) :: (b, .inr (7, fs)) :: wc) sz) := by
  refine va_MetW (cc := b_law_read) (maxL := 3) (ret := (some .int)) (by decide) rfl ?_
  intro p e s m args below meth c s₁ B hml hv0
  obtain ⟨rfl, ⟨⟨hP, hK, hD0, hsz⟩, hSt⟩, hTB⟩ := hv0
  have hts := atoms_spec (ws := cd_law_read :: WS) B.pre
  have hown : s.vm.findClass "SquareCodesLaw" = some m.cls := findClass_of_methodNamed B.named
  have hlocks := B.notSynchronized
  subst hsz
  have hD := hD0.self (sz := s.heap.size)
  have hl := lv_entry ([.ref b, .ref la]) (n := 3) (Nat.le_of_ble_eq_true rfl)
  rw [lg_entry_eq]
  generalize (lg_sl ([.ref b, .ref la]) ++ List.replicate (3 - (lg_sl ([.ref b, .ref la])).length) Slot.unset).toArray = ls at hl ⊢
  have S : CallFix p m c b_law_read 3 s _ (cd_law_read :: WS) "SquareCodesLaw" := ⟨B.exec, B.bytes, hml, hown, hts⟩
  obtain ⟨hx, hb, -, -, -⟩ := id S
  have htab : c.exceptionTable.toList = tableOf [(0, 8, 11, 15), (0, 8, 14, 13), (0, 8, 17, 24)] := by
    obtain ⟨m9, meth9, c9, n9, k1, k2, -, -, k5, -⟩ := Cond.codeWith_spec (hts _ List.mem_cons_self)
    cases B.named.symm.trans n9; cases B.method.symm.trans k1; cases (Stand.of_body B).code.symm.trans k2
    rw [← k5, table_eq]
  have hS : va_S (va_A ((la, .inl (cL, 1, .inr (.inl f0))) :: (b, .inr (7, fs)) :: wc) s.heap.size) s.heap s.heap [] := va_S.rf
  refine lv_aload_n hx hb d_law_read_0 rfl (lv_at hl 1 rfl) ?_
  refine lv_iconst (v := nI 0) hx hb d_law_read_1 (by decide) ?_
  refine lv_aload_n hx hb d_law_read_2 rfl (lv_at hl 0 rfl) ?_
  refine q_catchV (tys := [(cI, .int), (cC, .char), (cL, .long)]) (tys2 := [(cI, .int), (cC, .char)]) (n := 0) (As := []) (rest := [.int (nI 0), .ref la]) (wc := (b, .inr (7, fs)) :: wc) (wr := [(la, .inl (cL, 1, .inr (.inl f0)))]) (w1 := w1) S (hM s.heap.size) hSt hTB hK (hK.sub [0, 1] rfl) hP hD (fun q h => Or.inr h) (q0 := 1) rfl rfl ((List.range ((b, .inr (7, fs)) :: wc : va_W).length).map (· + 1)) [0] (rg_map _ _) (rg_nd _) rfl rfl (rg_dis _) (q_goodV kw_598 kw_599 kw_600 kw_1 kw_601) (by decide +kernel) rfl hrc hrs ⟨hr1, hr2⟩ rfl hl.1 rfl (Nat.le_of_ble_eq_true rfl) d_law_read_3 ⟨Nat.le_of_eq (Nat.zero_add _), Nat.le_of_eq (Nat.zero_add _)⟩ hS [{ startPc := 0, endPc := 8, handlerPc := 11, catchType := 15 }, { startPc := 0, endPc := 8, handlerPc := 14, catchType := 13 }] { startPc := 0, endPc := 8, handlerPc := 17, catchType := 24 } [] htab (fun z hz => by
    simp only [List.mem_cons, List.not_mem_nil, or_false] at hz
    rcases hz with rfl | rfl
    · exact ⟨rfl, by decide, _, kw_303, hTB.no "java/lang/UnsupportedOperationException" "java/lang/IllegalStateException" (by decide)⟩
    · exact ⟨rfl, by decide, _, kw_302, hTB.no "java/lang/UnsupportedOperationException" "java/lang/IllegalArgumentException" (by decide)⟩) rfl (by decide) kw_597 (hTB.cast "java/lang/UnsupportedOperationException" (by decide)) (fun a H locs hP hD hS => ?_)
  refine lv_astore_n hx hb d_law_read_17 rfl hl (Nat.le_of_ble_eq_true rfl) rfl (fun ls hl => ?_)
  refine lv_iconst (v := nI 3) hx hb d_law_read_18 (by decide) ?_
  exact W.iret hx hb B.returns (fun t ht _ => ⟨⟨_, (), rfl, rfl, by have h9 := hP; rw [← ht] at h9; exact h9⟩, hS.F ht⟩) hS.2.2 d_law_read_19
