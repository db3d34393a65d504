theorem kw_138 : (Jvm.Cond.methodLink "SquareCodes$TextWriter" (3 : Nat) ({ cls := "java/lang/Object", name := "<init>", desc := "()V" } : Jvm.MethodName)) ∈ WS := WS_tbl 138 (by decide +kernel) rfl
theorem kw_34 : (Jvm.Cond.instanceMethod ({ cls := "java/lang/Object", name := "<init>", desc := "()V" } : Jvm.MethodName)) ∈ WS := WS_tbl 34 (by decide +kernel) rfl
set_option maxRecDepth 1000000 in
theorem kw_35 : cd_j_Object_init ∈ WS := WS_tbl 35 rfl rfl
theorem kw_41 : (Jvm.Cond.methodLink "SquareCodes$Grid" (3 : Nat) ({ cls := "java/lang/Object", name := "<init>", desc := "()V" } : Jvm.MethodName)) ∈ WS := WS_tbl 41 (by decide +kernel) rfl
theorem kw_47 : (Jvm.Cond.arrayClass Jvm.ClassFile.FieldType.int) ∈ WS := WS_tbl 47 (by decide +kernel) rfl
theorem kw_148 : (Jvm.Cond.methodLink "SquareCodes$TextReader" (3 : Nat) ({ cls := "java/lang/Object", name := "<init>", desc := "()V" } : Jvm.MethodName)) ∈ WS := WS_tbl 148 (by decide +kernel) rfl
theorem kw_46 : (Jvm.Cond.arrayClass Jvm.ClassFile.FieldType.char) ∈ WS := WS_tbl 46 (by decide +kernel) rfl
theorem kw_100 : (Jvm.Cond.methodLink "SquareCodes$Field" (1 : Nat) ({ cls := "java/lang/Object", name := "<init>", desc := "()V" } : Jvm.MethodName)) ∈ WS := WS_tbl 100 (by decide +kernel) rfl
theorem kw_167 : (Jvm.Cond.methodLink "SquareCodes$Reading" (3 : Nat) ({ cls := "java/lang/Object", name := "<init>", desc := "()V" } : Jvm.MethodName)) ∈ WS := WS_tbl 167 (by decide +kernel) rfl
theorem kw_168 : (Jvm.Cond.methodLink "SquareCodes$Reading" (22 : Nat) ({ cls := "java/util/Arrays", name := "fill", desc := "([II)V" } : Jvm.MethodName)) ∈ WS := WS_tbl 168 (by decide +kernel) rfl
section
theorem d_q_TextWriter_init_0 : decode b_q_TextWriter_init 0 = .ok (.aload_n 0, 1) := by decide +kernel
theorem d_q_TextWriter_init_1 : decode b_q_TextWriter_init 1 = .ok (.invokespecial 3, 3) := by decide +kernel
theorem d_q_TextWriter_init_4 : decode b_q_TextWriter_init 4 = .ok (.return_, 1) := by decide +kernel
end
section
variable {p : Program} {l : Launch} {e : Env} {R : Room} {s : State} {m : MethodId} {args : Array Value} {below : List Frame} {meth : Method} {c : Code} {cells slots : Nat} {Q : State → Prop} {A : Nat → Prop} {H0 : Heap} {D : va_G}
set_option maxHeartbeats 4000000 in
set_option maxRecDepth 100000 in
theorem bd_q_TextWriter_init (cI cC : ClassId) (h : Nat) (S : CallFix p m c b_q_TextWriter_init 1 s args (cd_q_TextWriter_init :: WS) R_TextWriter) (hRf : 1 ≤ R.frames) (hRl : 12 ≤ R.locals) (hRm : cells + 0 ≤ R.cells ∧ slots + 0 ≤ R.slots) (hin : meth.name = "<init>") (hK : va_K D classes [(cI, .int), (cC, .char)] s) (hA : ∀ q, H0.size ≤ q → A q) (kr : ∀ (pc : Nat) (ls : Array Slot) (H : Heap) (locs : List Loc), decode b_q_TextWriter_init pc = .ok (.return_, 1) → va_P D classes [(h, .inr (6, [.int (nI 0)]))] H → va_D A [(h, .inr (6, [.int (nI 0)]))] → va_S A H0 H locs → W p l e R s m args below meth c H locs (cells + 0) (slots + 0) Q (F0 m pc ls [])) : ∀ (ls : Array Slot) (H : Heap) (locs : List Loc), lv_has ls 1 [(0, .ref h)] → va_P D classes [(h, .inr (6, [.int (nI 0)]))] H → va_D A [(h, .inr (6, [.int (nI 0)]))] → va_S A H0 H locs → W p l e R s m args below meth c H locs cells slots Q (F0 m 0 ls []) := by
  obtain ⟨hx, hb, hml, hown, hts⟩ := id S
  have hRc : cells ≤ R.cells ∧ slots ≤ R.slots := ⟨by omega, by omega⟩
  intro ls H locs hl hP hD hS
  refine lv_aload_n hx hb d_q_TextWriter_init_0 rfl (lv_at hl 0 rfl) ?_
  refine W.objInit hx hb hown (hts _ (List.mem_cons_of_mem _ kw_138)) (hts _ (List.mem_cons_of_mem _ kw_34)) (hts _ (List.mem_cons_of_mem _ kw_35)) rfl (by rw [hml]; exact hl.1) rfl d_q_TextWriter_init_1 (Nat.le_trans (Nat.le_of_ble_eq_true rfl) hRf) (Nat.le_trans (Nat.le_of_ble_eq_true rfl) hRl) ?_
  refine W.eq (g2 := F0 m 4 ls []) rfl ?_
  exact kr  _ ls H locs d_q_TextWriter_init_4 (hP.sub [0] rfl) (hD.sub [0] rfl rfl) hS
set_option maxHeartbeats 4000000 in
set_option maxRecDepth 100000 in
theorem c_q_TextWriter_init (l : Launch) (D : va_G) (cI cC : ClassId) (h : Nat) (sz : Nat) : Met l y_q_TextWriter_init (cd_q_TextWriter_init :: WS) { frames := 1, cells := 0, slots := 0, locals := 12 } (va_Pc [.ref h] (wP D [(h, .inr (6, [.int (nI 0)]))] [(cI, .int), (cC, .char)] sz)) (cQ D (fun _ => [(h, .inr (6, [.int (nI 0)]))]) [(h, .inr (6, [.int (nI 0)]))] sz) 0 0 (va_A [(h, .inr (6, [.int (nI 0)]))] sz) := by
  refine Met.ofW (cc := b_q_TextWriter_init) (maxL := 1) (ret := none) (by decide) rfl ?_
  intro p e s m args below meth c s₁ B hml hv0
  obtain ⟨rfl, hP, hK, hD0, hsz⟩ := hv0
  have hts := atoms_spec (ws := cd_q_TextWriter_init :: WS) B.pre
  have hown : s.vm.findClass R_TextWriter = some m.cls := findClass_of_methodNamed B.named
  have hlocks := B.notSynchronized
  have hin : meth.name = "<init>" := (name_of_methodNamed B.named B.method).1
  subst hsz
  have hD := hD0.self (sz := s.heap.size)
  have hl := lv_entry ([.ref h]) (n := 1) (Nat.le_of_ble_eq_true rfl)
  rw [lg_entry_eq]
  generalize (lg_sl ([.ref h]) ++ List.replicate (1 - (lg_sl ([.ref h])).length) Slot.unset).toArray = ls at hl ⊢
  refine bd_q_TextWriter_init cI cC h ⟨B.exec, B.bytes, hml, hown, hts⟩ (Nat.le_refl _) (Nat.le_refl _) ⟨Nat.le_of_eq (Nat.zero_add _), Nat.le_of_eq (Nat.zero_add _)⟩ hin hK (fun q h => Or.inr h) (fun  pc ls H locs hd hP hD hS => ?_) ls _ _ hl hP hD (va_S.rf)
  exact W.vret B.exec B.bytes B.returns (fun t ht _ => ⟨⟨(fun _ => 0), rfl, trivial, by have h9 := hP; rw [← ht] at h9; exact h9, hD⟩, hS.F ht⟩) hS.2.2 hd
end
section
theorem d_q_Grid_init_0 : decode b_q_Grid_init 0 = .ok (.aload_n 0, 1) := by decide +kernel
theorem d_q_Grid_init_1 : decode b_q_Grid_init 1 = .ok (.invokespecial 3, 3) := by decide +kernel
theorem d_q_Grid_init_4 : decode b_q_Grid_init 4 = .ok (.aload_n 0, 1) := by decide +kernel
theorem d_q_Grid_init_5 : decode b_q_Grid_init 5 = .ok (.bipush 21, 2) := by decide +kernel
theorem d_q_Grid_init_7 : decode b_q_Grid_init 7 = .ok (.newarray .int, 2) := by decide +kernel
theorem d_q_Grid_init_9 : decode b_q_Grid_init 9 = .ok (.putfield 9, 3) := by decide +kernel
theorem d_q_Grid_init_12 : decode b_q_Grid_init 12 = .ok (.return_, 1) := by decide +kernel
end
section
variable {p : Program} {l : Launch} {e : Env} {R : Room} {s : State} {m : MethodId} {args : Array Value} {below : List Frame} {meth : Method} {c : Code} {cells slots : Nat} {Q : State → Prop} {A : Nat → Prop} {H0 : Heap} {D : va_G}
set_option maxHeartbeats 4000000 in
set_option maxRecDepth 100000 in
theorem bd_q_Grid_init (cI cC : ClassId) (h : Nat) (S : CallFix p m c b_q_Grid_init 1 s args (cd_q_Grid_init :: WS) R_Grid) (hRf : 1 ≤ R.frames) (hRl : 12 ≤ R.locals) (hRm : cells + 1 ≤ R.cells ∧ slots + 21 ≤ R.slots) (hin : meth.name = "<init>") (hK : va_K D classes [(cI, .int), (cC, .char)] s) (hA : ∀ q, H0.size ≤ q → A q) (kr : ∀ (q7 : Nat) (pc : Nat) (ls : Array Slot) (H : Heap) (locs : List Loc), decode b_q_Grid_init pc = .ok (.return_, 1) → va_P D classes [(h, .inr (2, [.ref q7])), (q7, .inl (cI, 21, .inl (fun j => nI (z0 j))))] H → va_D A [(h, .inr (2, [.ref q7])), (q7, .inl (cI, 21, .inl (fun j => nI (z0 j))))] → va_S A H0 H locs → W p l e R s m args below meth c H locs (cells + 1) (slots + 21) Q (F0 m pc ls [])) : ∀ (ls : Array Slot) (H : Heap) (locs : List Loc), lv_has ls 1 [(0, .ref h)] → va_P D classes [(h, .inr (2, [.null]))] H → va_D A [(h, .inr (2, [.null]))] → va_S A H0 H locs → W p l e R s m args below meth c H locs cells slots Q (F0 m 0 ls []) := by
  obtain ⟨hx, hb, hml, hown, hts⟩ := id S
  have hRc : cells ≤ R.cells ∧ slots ≤ R.slots := ⟨by omega, by omega⟩
  intro ls H locs hl hP hD hS
  refine lv_aload_n hx hb d_q_Grid_init_0 rfl (lv_at hl 0 rfl) ?_
  refine W.objInit hx hb hown (hts _ (List.mem_cons_of_mem _ kw_41)) (hts _ (List.mem_cons_of_mem _ kw_34)) (hts _ (List.mem_cons_of_mem _ kw_35)) rfl (by rw [hml]; exact hl.1) rfl d_q_Grid_init_1 (Nat.le_trans (Nat.le_of_ble_eq_true rfl) hRf) (Nat.le_trans (Nat.le_of_ble_eq_true rfl) hRl) ?_
  refine W.eq (g2 := F0 m 4 ls []) rfl ?_
  refine lv_aload_n hx hb d_q_Grid_init_4 rfl (lv_at hl 0 rfl) ?_
  refine lv_bipush (v := nI 21) hx hb d_q_Grid_init_5 (by decide) ?_
  refine n_newi hx hb hts kw_47 hK hP hD hS hA (by decide) (by omega) (by omega) d_q_Grid_init_7 (fun q7 H hP hD hS => ?_)
  have hP : va_P D classes [(h, .inr (2, [.null])), (q7, .inl (cI, 21, .inl (fun j => nI (z0 j))))] H := hP
  have hD : va_D A [(h, .inr (2, [.null])), (q7, .inl (cI, 21, .inl (fun j => nI (z0 j))))] := hD
  have hRc : cells + 1 ≤ R.cells ∧ slots + 21 ≤ R.slots := ⟨by omega, by omega⟩
  refine va_putF (D := D) (ci := 2) (v := .ref q7) (ty := (.array .int)) (C := R_Grid) (T := F_Grid) (N := 1) hx hb hts (fun w h => List.mem_cons_of_mem _ (u_Grid_in w h)) t_Grid t_Grid_ok n_Grid hown hK hP hD hS 0 rfl rfl 0 (by decide) (hts _ (List.mem_cons_of_mem _ kw_42)) (fun _ h9 => h9) rfl hin rfl (by decide +kernel) rfl rfl (Nat.le_of_ble_eq_true rfl) d_q_Grid_init_9 (fun H locs hP hD hS => ?_)
  have hP : va_P D classes [(h, .inr (2, [.ref q7])), (q7, .inl (cI, 21, .inl (fun j => nI (z0 j))))] H := hP
  have hD : va_D A [(h, .inr (2, [.ref q7])), (q7, .inl (cI, 21, .inl (fun j => nI (z0 j))))] := hD
  exact kr q7 _ ls H locs d_q_Grid_init_12 (hP.sub [0, 1] rfl) (hD.sub [0, 1] rfl rfl) hS
set_option maxHeartbeats 4000000 in
set_option maxRecDepth 100000 in
theorem c_q_Grid_init (l : Launch) (D : va_G) (cI cC : ClassId) (h : Nat) (sz : Nat) : Met l y_q_Grid_init (cd_q_Grid_init :: WS) { frames := 1, cells := 1, slots := 21, locals := 12 } (va_Pc [.ref h] (wP D [(h, .inr (2, [.null]))] [(cI, .int), (cC, .char)] sz)) (cQ D (fun u => [(h, .inr (2, [.ref (u 0)])), ((u 0), .inl (cI, 21, .inl (fun j => nI (z0 j))))]) [(h, .inr (2, [.null]))] sz) 1 21 (va_A [(h, .inr (2, [.null]))] sz) := by
  refine Met.ofW (cc := b_q_Grid_init) (maxL := 1) (ret := none) (by decide) rfl ?_
  intro p e s m args below meth c s₁ B hml hv0
  obtain ⟨rfl, hP, hK, hD0, hsz⟩ := hv0
  have hts := atoms_spec (ws := cd_q_Grid_init :: WS) B.pre
  have hown : s.vm.findClass R_Grid = some m.cls := findClass_of_methodNamed B.named
  have hlocks := B.notSynchronized
  have hin : meth.name = "<init>" := (name_of_methodNamed B.named B.method).1
  subst hsz
  have hD := hD0.self (sz := s.heap.size)
  have hl := lv_entry ([.ref h]) (n := 1) (Nat.le_of_ble_eq_true rfl)
  rw [lg_entry_eq]
  generalize (lg_sl ([.ref h]) ++ List.replicate (1 - (lg_sl ([.ref h])).length) Slot.unset).toArray = ls at hl ⊢
  refine bd_q_Grid_init cI cC h ⟨B.exec, B.bytes, hml, hown, hts⟩ (Nat.le_refl _) (Nat.le_refl _) ⟨Nat.le_of_eq (Nat.zero_add _), Nat.le_of_eq (Nat.zero_add _)⟩ hin hK (fun q h => Or.inr h) (fun q7 pc ls H locs hd hP hD hS => ?_) ls _ _ hl hP hD (va_S.rf)
  exact W.vret B.exec B.bytes B.returns (fun t ht _ => ⟨⟨(fun k => match k with | 0 => q7 | _ => 0), rfl, trivial, by have h9 := hP; rw [← ht] at h9; exact h9, hD⟩, hS.F ht⟩) hS.2.2 hd
end
section
theorem d_q_TextReader_init_0 : decode b_q_TextReader_init 0 = .ok (.aload_n 0, 1) := by decide +kernel
theorem d_q_TextReader_init_1 : decode b_q_TextReader_init 1 = .ok (.invokespecial 3, 3) := by decide +kernel
theorem d_q_TextReader_init_4 : decode b_q_TextReader_init 4 = .ok (.aload_n 0, 1) := by decide +kernel
theorem d_q_TextReader_init_5 : decode b_q_TextReader_init 5 = .ok (.bipush 64, 2) := by decide +kernel
theorem d_q_TextReader_init_7 : decode b_q_TextReader_init 7 = .ok (.newarray .char, 2) := by decide +kernel
theorem d_q_TextReader_init_9 : decode b_q_TextReader_init 9 = .ok (.putfield 9, 3) := by decide +kernel
theorem d_q_TextReader_init_12 : decode b_q_TextReader_init 12 = .ok (.return_, 1) := by decide +kernel
end
section
variable {p : Program} {l : Launch} {e : Env} {R : Room} {s : State} {m : MethodId} {args : Array Value} {below : List Frame} {meth : Method} {c : Code} {cells slots : Nat} {Q : State → Prop} {A : Nat → Prop} {H0 : Heap} {D : va_G}
set_option maxHeartbeats 4000000 in
set_option maxRecDepth 100000 in
theorem bd_q_TextReader_init (cI cC : ClassId) (h : Nat) (S : CallFix p m c b_q_TextReader_init 1 s args (cd_q_TextReader_init :: WS) R_TextReader) (hRf : 1 ≤ R.frames) (hRl : 12 ≤ R.locals) (hRm : cells + 1 ≤ R.cells ∧ slots + 64 ≤ R.slots) (hin : meth.name = "<init>") (hK : va_K D classes [(cI, .int), (cC, .char)] s) (hA : ∀ q, H0.size ≤ q → A q) (kr : ∀ (q7 : Nat) (pc : Nat) (ls : Array Slot) (H : Heap) (locs : List Loc), decode b_q_TextReader_init pc = .ok (.return_, 1) → va_P D classes [(h, .inr (5, [.ref q7, .int (nI 0), .int (nI 0), .int (nI 0)])), (q7, .inl (cC, 64, .inl (fun j => nI (z0 j))))] H → va_D A [(h, .inr (5, [.ref q7, .int (nI 0), .int (nI 0), .int (nI 0)])), (q7, .inl (cC, 64, .inl (fun j => nI (z0 j))))] → va_S A H0 H locs → W p l e R s m args below meth c H locs (cells + 1) (slots + 64) Q (F0 m pc ls [])) : ∀ (ls : Array Slot) (H : Heap) (locs : List Loc), lv_has ls 1 [(0, .ref h)] → va_P D classes [(h, .inr (5, [.null, .int (nI 0), .int (nI 0), .int (nI 0)]))] H → va_D A [(h, .inr (5, [.null, .int (nI 0), .int (nI 0), .int (nI 0)]))] → va_S A H0 H locs → W p l e R s m args below meth c H locs cells slots Q (F0 m 0 ls []) := by
  obtain ⟨hx, hb, hml, hown, hts⟩ := id S
  have hRc : cells ≤ R.cells ∧ slots ≤ R.slots := ⟨by omega, by omega⟩
  intro ls H locs hl hP hD hS
  refine lv_aload_n hx hb d_q_TextReader_init_0 rfl (lv_at hl 0 rfl) ?_
  refine W.objInit hx hb hown (hts _ (List.mem_cons_of_mem _ kw_148)) (hts _ (List.mem_cons_of_mem _ kw_34)) (hts _ (List.mem_cons_of_mem _ kw_35)) rfl (by rw [hml]; exact hl.1) rfl d_q_TextReader_init_1 (Nat.le_trans (Nat.le_of_ble_eq_true rfl) hRf) (Nat.le_trans (Nat.le_of_ble_eq_true rfl) hRl) ?_
  refine W.eq (g2 := F0 m 4 ls []) rfl ?_
  refine lv_aload_n hx hb d_q_TextReader_init_4 rfl (lv_at hl 0 rfl) ?_
  refine lv_bipush (v := nI 64) hx hb d_q_TextReader_init_5 (by decide) ?_
  refine n_newc hx hb hts kw_46 hK hP hD hS hA (by decide) (by omega) (by omega) d_q_TextReader_init_7 (fun q7 H hP hD hS => ?_)
  have hP : va_P D classes [(h, .inr (5, [.null, .int (nI 0), .int (nI 0), .int (nI 0)])), (q7, .inl (cC, 64, .inl (fun j => nI (z0 j))))] H := hP
  have hD : va_D A [(h, .inr (5, [.null, .int (nI 0), .int (nI 0), .int (nI 0)])), (q7, .inl (cC, 64, .inl (fun j => nI (z0 j))))] := hD
  have hRc : cells + 1 ≤ R.cells ∧ slots + 64 ≤ R.slots := ⟨by omega, by omega⟩
  refine va_putF (D := D) (ci := 5) (v := .ref q7) (ty := (.array .char)) (C := R_TextReader) (T := F_TextReader) (N := 4) hx hb hts (fun w h => List.mem_cons_of_mem _ (u_TextReader_in w h)) t_TextReader t_TextReader_ok n_TextReader hown hK hP hD hS 0 rfl rfl 0 (by decide) (hts _ (List.mem_cons_of_mem _ kw_149)) (fun _ h9 => h9) rfl hin rfl (by decide +kernel) rfl rfl (Nat.le_of_ble_eq_true rfl) d_q_TextReader_init_9 (fun H locs hP hD hS => ?_)
  have hP : va_P D classes [(h, .inr (5, [.ref q7, .int (nI 0), .int (nI 0), .int (nI 0)])), (q7, .inl (cC, 64, .inl (fun j => nI (z0 j))))] H := hP
  have hD : va_D A [(h, .inr (5, [.ref q7, .int (nI 0), .int (nI 0), .int (nI 0)])), (q7, .inl (cC, 64, .inl (fun j => nI (z0 j))))] := hD
  exact kr q7 _ ls H locs d_q_TextReader_init_12 (hP.sub [0, 1] rfl) (hD.sub [0, 1] rfl rfl) hS
set_option maxHeartbeats 4000000 in
set_option maxRecDepth 100000 in
theorem c_q_TextReader_init (l : Launch) (D : va_G) (cI cC : ClassId) (h : Nat) (sz : Nat) : Met l y_q_TextReader_init (cd_q_TextReader_init :: WS) { frames := 1, cells := 1, slots := 64, locals := 12 } (va_Pc [.ref h] (wP D [(h, .inr (5, [.null, .int (nI 0), .int (nI 0), .int (nI 0)]))] [(cI, .int), (cC, .char)] sz)) (cQ D (fun u => [(h, .inr (5, [.ref (u 0), .int (nI 0), .int (nI 0), .int (nI 0)])), ((u 0), .inl (cC, 64, .inl (fun j => nI (z0 j))))]) [(h, .inr (5, [.null, .int (nI 0), .int (nI 0), .int (nI 0)]))] sz) 1 64 (va_A [(h, .inr (5, [.null, .int (nI 0), .int (nI 0), .int (nI 0)]))] sz) := by
  refine Met.ofW (cc := b_q_TextReader_init) (maxL := 1) (ret := none) (by decide) rfl ?_
  intro p e s m args below meth c s₁ B hml hv0
  obtain ⟨rfl, hP, hK, hD0, hsz⟩ := hv0
  have hts := atoms_spec (ws := cd_q_TextReader_init :: WS) B.pre
  have hown : s.vm.findClass R_TextReader = some m.cls := findClass_of_methodNamed B.named
  have hlocks := B.notSynchronized
  have hin : meth.name = "<init>" := (name_of_methodNamed B.named B.method).1
  subst hsz
  have hD := hD0.self (sz := s.heap.size)
  have hl := lv_entry ([.ref h]) (n := 1) (Nat.le_of_ble_eq_true rfl)
  rw [lg_entry_eq]
  generalize (lg_sl ([.ref h]) ++ List.replicate (1 - (lg_sl ([.ref h])).length) Slot.unset).toArray = ls at hl ⊢
  refine bd_q_TextReader_init cI cC h ⟨B.exec, B.bytes, hml, hown, hts⟩ (Nat.le_refl _) (Nat.le_refl _) ⟨Nat.le_of_eq (Nat.zero_add _), Nat.le_of_eq (Nat.zero_add _)⟩ hin hK (fun q h => Or.inr h) (fun q7 pc ls H locs hd hP hD hS => ?_) ls _ _ hl hP hD (va_S.rf)
  exact W.vret B.exec B.bytes B.returns (fun t ht _ => ⟨⟨(fun k => match k with | 0 => q7 | _ => 0), rfl, trivial, by have h9 := hP; rw [← ht] at h9; exact h9, hD⟩, hS.F ht⟩) hS.2.2 hd
end
section
theorem d_q_Field_init_0 : decode b_q_Field_init 0 = .ok (.aload_n 0, 1) := by decide +kernel
theorem d_q_Field_init_1 : decode b_q_Field_init 1 = .ok (.invokespecial 1, 3) := by decide +kernel
theorem d_q_Field_init_4 : decode b_q_Field_init 4 = .ok (.aload_n 0, 1) := by decide +kernel
theorem d_q_Field_init_5 : decode b_q_Field_init 5 = .ok (.sipush 255, 3) := by decide +kernel
theorem d_q_Field_init_8 : decode b_q_Field_init 8 = .ok (.newarray .int, 2) := by decide +kernel
theorem d_q_Field_init_10 : decode b_q_Field_init 10 = .ok (.putfield 9, 3) := by decide +kernel
theorem d_q_Field_init_13 : decode b_q_Field_init 13 = .ok (.aload_n 0, 1) := by decide +kernel
theorem d_q_Field_init_14 : decode b_q_Field_init 14 = .ok (.sipush 256, 3) := by decide +kernel
theorem d_q_Field_init_17 : decode b_q_Field_init 17 = .ok (.newarray .int, 2) := by decide +kernel
theorem d_q_Field_init_19 : decode b_q_Field_init 19 = .ok (.putfield 13, 3) := by decide +kernel
theorem d_q_Field_init_22 : decode b_q_Field_init 22 = .ok (.iconst 1, 1) := by decide +kernel
theorem d_q_Field_init_23 : decode b_q_Field_init 23 = .ok (.istore_n 1, 1) := by decide +kernel
theorem d_q_Field_init_24 : decode b_q_Field_init 24 = .ok (.iconst 0, 1) := by decide +kernel
theorem d_q_Field_init_25 : decode b_q_Field_init 25 = .ok (.istore_n 2, 1) := by decide +kernel
theorem d_q_Field_init_26 : decode b_q_Field_init 26 = .ok (.iload_n 2, 1) := by decide +kernel
theorem d_q_Field_init_27 : decode b_q_Field_init 27 = .ok (.sipush 255, 3) := by decide +kernel
theorem d_q_Field_init_30 : decode b_q_Field_init 30 = .ok (.if_icmp .ge 40, 3) := by decide +kernel
theorem d_q_Field_init_33 : decode b_q_Field_init 33 = .ok (.aload_n 0, 1) := by decide +kernel
theorem d_q_Field_init_34 : decode b_q_Field_init 34 = .ok (.getfield 9, 3) := by decide +kernel
theorem d_q_Field_init_37 : decode b_q_Field_init 37 = .ok (.iload_n 2, 1) := by decide +kernel
theorem d_q_Field_init_38 : decode b_q_Field_init 38 = .ok (.iload_n 1, 1) := by decide +kernel
theorem d_q_Field_init_39 : decode b_q_Field_init 39 = .ok (.iastore, 1) := by decide +kernel
theorem d_q_Field_init_40 : decode b_q_Field_init 40 = .ok (.aload_n 0, 1) := by decide +kernel
theorem d_q_Field_init_41 : decode b_q_Field_init 41 = .ok (.getfield 13, 3) := by decide +kernel
theorem d_q_Field_init_44 : decode b_q_Field_init 44 = .ok (.iload_n 1, 1) := by decide +kernel
theorem d_q_Field_init_45 : decode b_q_Field_init 45 = .ok (.iload_n 2, 1) := by decide +kernel
theorem d_q_Field_init_46 : decode b_q_Field_init 46 = .ok (.iastore, 1) := by decide +kernel
theorem d_q_Field_init_47 : decode b_q_Field_init 47 = .ok (.iload_n 1, 1) := by decide +kernel
theorem d_q_Field_init_48 : decode b_q_Field_init 48 = .ok (.iconst 1, 1) := by decide +kernel
theorem d_q_Field_init_49 : decode b_q_Field_init 49 = .ok (.ishl, 1) := by decide +kernel
theorem d_q_Field_init_50 : decode b_q_Field_init 50 = .ok (.istore_n 1, 1) := by decide +kernel
theorem d_q_Field_init_51 : decode b_q_Field_init 51 = .ok (.iload_n 1, 1) := by decide +kernel
theorem d_q_Field_init_52 : decode b_q_Field_init 52 = .ok (.sipush 255, 3) := by decide +kernel
theorem d_q_Field_init_55 : decode b_q_Field_init 55 = .ok (.if_icmp .le 9, 3) := by decide +kernel
theorem d_q_Field_init_58 : decode b_q_Field_init 58 = .ok (.iload_n 1, 1) := by decide +kernel
theorem d_q_Field_init_59 : decode b_q_Field_init 59 = .ok (.sipush 285, 3) := by decide +kernel
theorem d_q_Field_init_62 : decode b_q_Field_init 62 = .ok (.ixor, 1) := by decide +kernel
theorem d_q_Field_init_63 : decode b_q_Field_init 63 = .ok (.istore_n 1, 1) := by decide +kernel
theorem d_q_Field_init_64 : decode b_q_Field_init 64 = .ok (.iinc 2 1, 3) := by decide +kernel
theorem d_q_Field_init_67 : decode b_q_Field_init 67 = .ok (.goto (-41), 3) := by decide +kernel
theorem d_q_Field_init_70 : decode b_q_Field_init 70 = .ok (.return_, 1) := by decide +kernel
end
section
variable {p : Program} {l : Launch} {e : Env} {R : Room} {s : State} {m : MethodId} {args : Array Value} {below : List Frame} {meth : Method} {c : Code} {cells slots : Nat} {Q : State → Prop} {A : Nat → Prop} {H0 : Heap} {D : va_G}
set_option maxHeartbeats 1000000 in
set_option maxRecDepth 100000 in
theorem lp_q_Field_init_26 (cI cC : ClassId) (h : Nat) (S : CallFix p m c b_q_Field_init 3 s args (cd_q_Field_init :: WS) R_Field) (hRf : 1 ≤ R.frames) (hRl : 12 ≤ R.locals) (hRc : cells ≤ R.cells ∧ slots ≤ R.slots) (hK : va_K D classes [(cI, .int), (cC, .char)] s) (hA : ∀ q, H0.size ≤ q → A q) (q8 q17 : Nat) (kx : ∀ (ls : Array Slot) (H : Heap) (locs : List Loc), lv_has ls 3 [(0, .ref h), (1, .int (nI (pw 255))), (2, .int (nI 255))] → va_P D classes [(h, .inr (1, [.ref q8, .ref q17])), (q8, .inl (cI, 255, .inl (fun j => nI ((fpo 255) j)))), (q17, .inl (cI, 256, .inl (fun j => nI ((flo 255) j))))] H → va_D A [(h, .inr (1, [.ref q8, .ref q17])), (q8, .inl (cI, 255, .inl (fun j => nI ((fpo 255) j)))), (q17, .inl (cI, 256, .inl (fun j => nI ((flo 255) j))))] → va_S A H0 H locs → W p l e R s m args below meth c H locs cells slots Q (F0 m 70 ls [])) :
    ∀ k, k ≤ 255 → ∀ (ls : Array Slot) (H : Heap) (locs : List Loc), lv_has ls 3 [(0, .ref h), (1, .int (nI (pw k))), (2, .int (nI k))] → va_P D classes [(h, .inr (1, [.ref q8, .ref q17])), (q8, .inl (cI, 255, .inl (fun j => nI ((fpo k) j)))), (q17, .inl (cI, 256, .inl (fun j => nI ((flo k) j))))] H → va_D A [(h, .inr (1, [.ref q8, .ref q17])), (q8, .inl (cI, 255, .inl (fun j => nI ((fpo k) j)))), (q17, .inl (cI, 256, .inl (fun j => nI ((flo k) j))))] → va_S A H0 H locs → W p l e R s m args below meth c H locs cells slots Q (F0 m 26 ls []) := by
  obtain ⟨hx, hb, hml, hown, hts⟩ := id S
  refine up_loop (fun k hkk ih => ?_)
  intro ls H locs hl hP hD hS
  have hpw := pw_lt k
  refine lv_iload_n hx hb d_q_Field_init_26 rfl (lv_at hl 2 rfl) ?_
  refine lv_sipush (v := nI 255) hx hb d_q_Field_init_27 (by decide) ?_
  refine n_icmp_ge hx hb d_q_Field_init_30 (tgt := 70) rfl (by omega) (by omega) (fun g30 => ?_) (fun g30 => ?_)
  · skip
    obtain rfl : k = 255 := by omega
    exact kx ls H locs (lv_sub hl [0, 1, 2] rfl) hP hD hS
  · skip
    refine lv_aload_n hx hb d_q_Field_init_33 rfl (lv_at hl 0 rfl) ?_
    refine n_get (C := R_Field) (T := F_Field) (N := 2) (v := .ref q8) hx hb hts u_Field_in hown hK hP 0 rfl rfl 0 (by decide) kw_101 rfl d_q_Field_init_34 ?_
    refine lv_iload_n hx hb d_q_Field_init_37 rfl (lv_at hl 2 rfl) ?_
    refine lv_iload_n hx hb d_q_Field_init_38 rfl (lv_at hl 1 rfl) ?_
    refine n_iast hx hb hK hP hD hS 1 0 rfl rfl (by omega) (by decide) d_q_Field_init_39 (fun H locs hP hD hS => ?_)
    have hP : va_P D classes [(h, .inr (1, [.ref q8, .ref q17])), (q8, .inl (cI, 255, .inl (fun j => nI ((va_up (fpo k) k (pw k)) j)))), (q17, .inl (cI, 256, .inl (fun j => nI ((flo k) j))))] H := hP
    have hD : va_D A [(h, .inr (1, [.ref q8, .ref q17])), (q8, .inl (cI, 255, .inl (fun j => nI ((va_up (fpo k) k (pw k)) j)))), (q17, .inl (cI, 256, .inl (fun j => nI ((flo k) j))))] := hD
    rw [show va_up (fpo k) k (pw k) = fpo (k + 1) from rfl] at hP hD
    refine lv_aload_n hx hb d_q_Field_init_40 rfl (lv_at hl 0 rfl) ?_
    refine n_get (C := R_Field) (T := F_Field) (N := 2) (v := .ref q17) hx hb hts u_Field_in hown hK hP 0 rfl rfl 1 (by decide) kw_102 rfl d_q_Field_init_41 ?_
    refine lv_iload_n hx hb d_q_Field_init_44 rfl (lv_at hl 1 rfl) ?_
    refine lv_iload_n hx hb d_q_Field_init_45 rfl (lv_at hl 2 rfl) ?_
    refine n_iast hx hb hK hP hD hS 2 0 rfl rfl (by omega) (by decide) d_q_Field_init_46 (fun H locs hP hD hS => ?_)
    have hP : va_P D classes [(h, .inr (1, [.ref q8, .ref q17])), (q8, .inl (cI, 255, .inl (fun j => nI ((fpo (k + 1)) j)))), (q17, .inl (cI, 256, .inl (fun j => nI ((va_up (flo k) (pw k) k) j))))] H := hP
    have hD : va_D A [(h, .inr (1, [.ref q8, .ref q17])), (q8, .inl (cI, 255, .inl (fun j => nI ((fpo (k + 1)) j)))), (q17, .inl (cI, 256, .inl (fun j => nI ((va_up (flo k) (pw k) k) j))))] := hD
    rw [show va_up (flo k) (pw k) k = flo (k + 1) from rfl] at hP hD
    refine lv_iload_n hx hb d_q_Field_init_47 rfl (lv_at hl 1 rfl) ?_
    refine lv_iconst (v := nI 1) hx hb d_q_Field_init_48 (by decide) ?_
    refine n_ishl hx hb d_q_Field_init_49 (by omega) ?_
    refine n_topn (show (pw k) * 2 ^ 1 = pw k * 2 from (by rw [Nat.pow_one])) ?_
    refine lv_istore_n hx hb d_q_Field_init_50 rfl hl (Nat.le_of_ble_eq_true rfl) rfl (fun ls hl => ?_)
    have hl : lv_has ls 3 [(1, .int (nI (pw k * 2))), (0, .ref h), (2, .int (nI k))] := hl
    refine lv_iload_n hx hb d_q_Field_init_51 rfl (lv_at hl 0 rfl) ?_
    refine lv_sipush (v := nI 255) hx hb d_q_Field_init_52 (by decide) ?_
    refine n_icmp_le hx hb d_q_Field_init_55 (tgt := 64) rfl (by omega) (by omega) (fun g55 => ?_) (fun g55 => ?_)
    · skip
      refine lv_iinc (k := 2) (v := nI (k + 1)) hx hb d_q_Field_init_64 hl rfl (nx_inc k 1) (Nat.le_of_ble_eq_true rfl) rfl (fun ls hl => ?_)
      have hl : lv_has ls 3 [(2, .int (nI (k + 1))), (1, .int (nI (pw k * 2))), (0, .ref h)] := hl
      refine lv_goto hx hb d_q_Field_init_67 (tgt := 26) rfl ?_
      have qb1 : pw k * 2 = pw (k + 1) := (by first | exact (pw_up g55).symm | exact (pw_dn g55).symm)
      exact ih (by omega) ls H locs (lv_re (l := [(0, .ref h), (1, .int (nI (pw k * 2))), (2, .int (nI (k + 1)))]) (lv_sub hl [2, 1, 0] rfl) (by rw [qb1])) hP hD hS
    · skip
      refine lv_iload_n hx hb d_q_Field_init_58 rfl (lv_at hl 0 rfl) ?_
      refine lv_sipush (v := nI 285) hx hb d_q_Field_init_59 (by decide) ?_
      refine n_ixor hx hb d_q_Field_init_62 ?_
      refine lv_istore_n hx hb d_q_Field_init_63 rfl hl (Nat.le_of_ble_eq_true rfl) rfl (fun ls hl => ?_)
      have hl : lv_has ls 3 [(1, .int (nI ((pw k * 2) ^^^ 285))), (0, .ref h), (2, .int (nI k))] := hl
      refine lv_iinc (k := 2) (v := nI (k + 1)) hx hb d_q_Field_init_64 hl rfl (nx_inc k 1) (Nat.le_of_ble_eq_true rfl) rfl (fun ls hl => ?_)
      have hl : lv_has ls 3 [(2, .int (nI (k + 1))), (1, .int (nI ((pw k * 2) ^^^ 285))), (0, .ref h)] := hl
      refine lv_goto hx hb d_q_Field_init_67 (tgt := 26) rfl ?_
      have qb1 : (pw k * 2) ^^^ 285 = pw (k + 1) := (by first | exact (pw_up g55).symm | exact (pw_dn g55).symm)
      exact ih (by omega) ls H locs (lv_re (l := [(0, .ref h), (1, .int (nI ((pw k * 2) ^^^ 285))), (2, .int (nI (k + 1)))]) (lv_sub hl [2, 1, 0] rfl) (by rw [qb1])) hP hD hS
set_option maxHeartbeats 4000000 in
set_option maxRecDepth 100000 in
theorem bd_q_Field_init (cI cC : ClassId) (h : Nat) (S : CallFix p m c b_q_Field_init 3 s args (cd_q_Field_init :: WS) R_Field) (hRf : 1 ≤ R.frames) (hRl : 12 ≤ R.locals) (hRm : cells + 2 ≤ R.cells ∧ slots + 511 ≤ R.slots) (hin : meth.name = "<init>") (hK : va_K D classes [(cI, .int), (cC, .char)] s) (hA : ∀ q, H0.size ≤ q → A q) (kr : ∀ (q8 q17 : Nat) (pc : Nat) (ls : Array Slot) (H : Heap) (locs : List Loc), decode b_q_Field_init pc = .ok (.return_, 1) → va_P D classes [(h, .inr (1, [.ref q8, .ref q17])), (q8, .inl (cI, 255, .inl (fun j => nI ((fpo 255) j)))), (q17, .inl (cI, 256, .inl (fun j => nI ((flo 255) j))))] H → va_D A [(h, .inr (1, [.ref q8, .ref q17])), (q8, .inl (cI, 255, .inl (fun j => nI ((fpo 255) j)))), (q17, .inl (cI, 256, .inl (fun j => nI ((flo 255) j))))] → va_S A H0 H locs → W p l e R s m args below meth c H locs (cells + 2) (slots + 511) Q (F0 m pc ls [])) : ∀ (ls : Array Slot) (H : Heap) (locs : List Loc), lv_has ls 3 [(0, .ref h)] → va_P D classes [(h, .inr (1, [.null, .null]))] H → va_D A [(h, .inr (1, [.null, .null]))] → va_S A H0 H locs → W p l e R s m args below meth c H locs cells slots Q (F0 m 0 ls []) := by
  obtain ⟨hx, hb, hml, hown, hts⟩ := id S
  have hRc : cells ≤ R.cells ∧ slots ≤ R.slots := ⟨by omega, by omega⟩
  intro ls H locs hl hP hD hS
  refine lv_aload_n hx hb d_q_Field_init_0 rfl (lv_at hl 0 rfl) ?_
  refine W.objInit hx hb hown (hts _ (List.mem_cons_of_mem _ kw_100)) (hts _ (List.mem_cons_of_mem _ kw_34)) (hts _ (List.mem_cons_of_mem _ kw_35)) rfl (by rw [hml]; exact hl.1) rfl d_q_Field_init_1 (Nat.le_trans (Nat.le_of_ble_eq_true rfl) hRf) (Nat.le_trans (Nat.le_of_ble_eq_true rfl) hRl) ?_
  refine W.eq (g2 := F0 m 4 ls []) rfl ?_
  refine lv_aload_n hx hb d_q_Field_init_4 rfl (lv_at hl 0 rfl) ?_
  refine lv_sipush (v := nI 255) hx hb d_q_Field_init_5 (by decide) ?_
  refine n_newi hx hb hts kw_47 hK hP hD hS hA (by decide) (by omega) (by omega) d_q_Field_init_8 (fun q8 H hP hD hS => ?_)
  have hP : va_P D classes [(h, .inr (1, [.null, .null])), (q8, .inl (cI, 255, .inl (fun j => nI (z0 j))))] H := hP
  have hD : va_D A [(h, .inr (1, [.null, .null])), (q8, .inl (cI, 255, .inl (fun j => nI (z0 j))))] := hD
  have hRc : cells + 1 ≤ R.cells ∧ slots + 255 ≤ R.slots := ⟨by omega, by omega⟩
  refine va_putF (D := D) (ci := 1) (v := .ref q8) (ty := (.array .int)) (C := R_Field) (T := F_Field) (N := 2) hx hb hts (fun w h => List.mem_cons_of_mem _ (u_Field_in w h)) t_Field t_Field_ok n_Field hown hK hP hD hS 0 rfl rfl 0 (by decide) (hts _ (List.mem_cons_of_mem _ kw_101)) (fun _ h9 => h9) rfl hin rfl (by decide +kernel) rfl rfl (Nat.le_of_ble_eq_true rfl) d_q_Field_init_10 (fun H locs hP hD hS => ?_)
  have hP : va_P D classes [(h, .inr (1, [.ref q8, .null])), (q8, .inl (cI, 255, .inl (fun j => nI (z0 j))))] H := hP
  have hD : va_D A [(h, .inr (1, [.ref q8, .null])), (q8, .inl (cI, 255, .inl (fun j => nI (z0 j))))] := hD
  refine lv_aload_n hx hb d_q_Field_init_13 rfl (lv_at hl 0 rfl) ?_
  refine lv_sipush (v := nI 256) hx hb d_q_Field_init_14 (by decide) ?_
  refine n_newi hx hb hts kw_47 hK hP hD hS hA (by decide) (by omega) (by omega) d_q_Field_init_17 (fun q17 H hP hD hS => ?_)
  have hP : va_P D classes [(h, .inr (1, [.ref q8, .null])), (q8, .inl (cI, 255, .inl (fun j => nI (z0 j)))), (q17, .inl (cI, 256, .inl (fun j => nI (z0 j))))] H := hP
  have hD : va_D A [(h, .inr (1, [.ref q8, .null])), (q8, .inl (cI, 255, .inl (fun j => nI (z0 j)))), (q17, .inl (cI, 256, .inl (fun j => nI (z0 j))))] := hD
  have hRc : cells + 2 ≤ R.cells ∧ slots + 511 ≤ R.slots := ⟨by omega, by omega⟩
  refine va_putF (D := D) (ci := 1) (v := .ref q17) (ty := (.array .int)) (C := R_Field) (T := F_Field) (N := 2) hx hb hts (fun w h => List.mem_cons_of_mem _ (u_Field_in w h)) t_Field t_Field_ok n_Field hown hK hP hD hS 0 rfl rfl 1 (by decide) (hts _ (List.mem_cons_of_mem _ kw_102)) (fun _ h9 => h9) rfl hin rfl (by decide +kernel) rfl rfl (Nat.le_of_ble_eq_true rfl) d_q_Field_init_19 (fun H locs hP hD hS => ?_)
  have hP : va_P D classes [(h, .inr (1, [.ref q8, .ref q17])), (q8, .inl (cI, 255, .inl (fun j => nI (z0 j)))), (q17, .inl (cI, 256, .inl (fun j => nI (z0 j))))] H := hP
  have hD : va_D A [(h, .inr (1, [.ref q8, .ref q17])), (q8, .inl (cI, 255, .inl (fun j => nI (z0 j)))), (q17, .inl (cI, 256, .inl (fun j => nI (z0 j))))] := hD
  refine lv_iconst (v := nI 1) hx hb d_q_Field_init_22 (by decide) ?_
  refine lv_istore_n hx hb d_q_Field_init_23 rfl hl (Nat.le_of_ble_eq_true rfl) rfl (fun ls hl => ?_)
  have hl : lv_has ls 3 [(1, .int (nI 1)), (0, .ref h)] := hl
  refine lv_iconst (v := nI 0) hx hb d_q_Field_init_24 (by decide) ?_
  refine lv_istore_n hx hb d_q_Field_init_25 rfl hl (Nat.le_of_ble_eq_true rfl) rfl (fun ls hl => ?_)
  have hl : lv_has ls 3 [(2, .int (nI 0)), (1, .int (nI 1)), (0, .ref h)] := hl
  refine lp_q_Field_init_26 cI cC h S hRf hRl hRc hK hA q8 q17 (fun ls H locs hl hP hD hS => ?_) 0 (by omega) ls H locs (lv_sub hl [2, 1, 0] rfl) hP hD hS
  exact kr q8 q17 _ ls H locs d_q_Field_init_70 (hP.sub [0, 1, 2] rfl) (hD.sub [0, 1, 2] rfl rfl) hS
set_option maxHeartbeats 4000000 in
set_option maxRecDepth 100000 in
theorem c_q_Field_init (l : Launch) (D : va_G) (cI cC : ClassId) (h : Nat) (sz : Nat) : Met l y_q_Field_init (cd_q_Field_init :: WS) { frames := 1, cells := 2, slots := 511, locals := 12 } (va_Pc [.ref h] (wP D [(h, .inr (1, [.null, .null]))] [(cI, .int), (cC, .char)] sz)) (cQ D (fun u => [(h, .inr (1, [.ref (u 0), .ref (u 1)])), ((u 0), .inl (cI, 255, .inl (fun j => nI ((fpo 255) j)))), ((u 1), .inl (cI, 256, .inl (fun j => nI ((flo 255) j))))]) [(h, .inr (1, [.null, .null]))] sz) 2 511 (va_A [(h, .inr (1, [.null, .null]))] sz) := by
  refine Met.ofW (cc := b_q_Field_init) (maxL := 3) (ret := none) (by decide) rfl ?_
  intro p e s m args below meth c s₁ B hml hv0
  obtain ⟨rfl, hP, hK, hD0, hsz⟩ := hv0
  have hts := atoms_spec (ws := cd_q_Field_init :: WS) B.pre
  have hown : s.vm.findClass R_Field = some m.cls := findClass_of_methodNamed B.named
  have hlocks := B.notSynchronized
  have hin : meth.name = "<init>" := (name_of_methodNamed B.named B.method).1
  subst hsz
  have hD := hD0.self (sz := s.heap.size)
  have hl := lv_entry ([.ref h]) (n := 3) (Nat.le_of_ble_eq_true rfl)
  rw [lg_entry_eq]
  generalize (lg_sl ([.ref h]) ++ List.replicate (3 - (lg_sl ([.ref h])).length) Slot.unset).toArray = ls at hl ⊢
  refine bd_q_Field_init cI cC h ⟨B.exec, B.bytes, hml, hown, hts⟩ (Nat.le_refl _) (Nat.le_refl _) ⟨Nat.le_of_eq (Nat.zero_add _), Nat.le_of_eq (Nat.zero_add _)⟩ hin hK (fun q h => Or.inr h) (fun q8 q17 pc ls H locs hd hP hD hS => ?_) ls _ _ hl hP hD (va_S.rf)
  exact W.vret B.exec B.bytes B.returns (fun t ht _ => ⟨⟨(fun k => match k with | 0 => q8 | 1 => q17 | _ => 0), rfl, trivial, by have h9 := hP; rw [← ht] at h9; exact h9, hD⟩, hS.F ht⟩) hS.2.2 hd
end
section
theorem d_q_Reading_init_0 : decode b_q_Reading_init 0 = .ok (.aload_n 0, 1) := by decide +kernel
theorem d_q_Reading_init_1 : decode b_q_Reading_init 1 = .ok (.invokespecial 3, 3) := by decide +kernel
theorem d_q_Reading_init_4 : decode b_q_Reading_init 4 = .ok (.aload_n 0, 1) := by decide +kernel
theorem d_q_Reading_init_5 : decode b_q_Reading_init 5 = .ok (.iconst 4, 1) := by decide +kernel
theorem d_q_Reading_init_6 : decode b_q_Reading_init 6 = .ok (.newarray .int, 2) := by decide +kernel
theorem d_q_Reading_init_8 : decode b_q_Reading_init 8 = .ok (.putfield 11, 3) := by decide +kernel
theorem d_q_Reading_init_11 : decode b_q_Reading_init 11 = .ok (.aload_n 0, 1) := by decide +kernel
theorem d_q_Reading_init_12 : decode b_q_Reading_init 12 = .ok (.bipush 26, 2) := by decide +kernel
theorem d_q_Reading_init_14 : decode b_q_Reading_init 14 = .ok (.newarray .int, 2) := by decide +kernel
theorem d_q_Reading_init_16 : decode b_q_Reading_init 16 = .ok (.putfield 15, 3) := by decide +kernel
theorem d_q_Reading_init_19 : decode b_q_Reading_init 19 = .ok (.aload_n 0, 1) := by decide +kernel
theorem d_q_Reading_init_20 : decode b_q_Reading_init 20 = .ok (.bipush 64, 2) := by decide +kernel
theorem d_q_Reading_init_22 : decode b_q_Reading_init 22 = .ok (.newarray .char, 2) := by decide +kernel
theorem d_q_Reading_init_24 : decode b_q_Reading_init 24 = .ok (.putfield 18, 3) := by decide +kernel
theorem d_q_Reading_init_27 : decode b_q_Reading_init 27 = .ok (.aload_n 0, 1) := by decide +kernel
theorem d_q_Reading_init_28 : decode b_q_Reading_init 28 = .ok (.getfield 11, 3) := by decide +kernel
theorem d_q_Reading_init_31 : decode b_q_Reading_init 31 = .ok (.iconst (-1), 1) := by decide +kernel
theorem d_q_Reading_init_32 : decode b_q_Reading_init 32 = .ok (.invokestatic 22, 3) := by decide +kernel
theorem d_q_Reading_init_35 : decode b_q_Reading_init 35 = .ok (.aload_n 0, 1) := by decide +kernel
theorem d_q_Reading_init_36 : decode b_q_Reading_init 36 = .ok (.getfield 15, 3) := by decide +kernel
theorem d_q_Reading_init_39 : decode b_q_Reading_init 39 = .ok (.iconst (-1), 1) := by decide +kernel
theorem d_q_Reading_init_40 : decode b_q_Reading_init 40 = .ok (.invokestatic 22, 3) := by decide +kernel
theorem d_q_Reading_init_43 : decode b_q_Reading_init 43 = .ok (.return_, 1) := by decide +kernel
end
section
variable {p : Program} {l : Launch} {e : Env} {R : Room} {s : State} {m : MethodId} {args : Array Value} {below : List Frame} {meth : Method} {c : Code} {cells slots : Nat} {Q : State → Prop} {A : Nat → Prop} {H0 : Heap} {D : va_G}
set_option maxHeartbeats 4000000 in
set_option maxRecDepth 100000 in
theorem bd_q_Reading_init (cI cC : ClassId) (h : Nat) (S : CallFix p m c b_q_Reading_init 1 s args (cd_q_Reading_init :: WS) R_Reading) (hRf : 1 ≤ R.frames) (hRl : 23 ≤ R.locals) (hRm : cells + 3 ≤ R.cells ∧ slots + 94 ≤ R.slots) (hin : meth.name = "<init>") (hK : va_K D classes [(cI, .int), (cC, .char)] s) (hA : ∀ q, H0.size ≤ q → A q) (kr : ∀ (q6 q14 q22 : Nat) (pc : Nat) (ls : Array Slot) (H : Heap) (locs : List Loc), decode b_q_Reading_init pc = .ok (.return_, 1) → va_P D classes [(h, .inr (4, [.ref q6, .ref q14, .ref q22, .int (nI 0)])), (q6, .inl (cI, 4, .inl (fun j => nI ((flL z0 4294967295 4) j)))), (q14, .inl (cI, 26, .inl (fun j => nI ((flL z0 4294967295 26) j)))), (q22, .inl (cC, 64, .inl (fun j => nI (z0 j))))] H → va_D A [(h, .inr (4, [.ref q6, .ref q14, .ref q22, .int (nI 0)])), (q6, .inl (cI, 4, .inl (fun j => nI ((flL z0 4294967295 4) j)))), (q14, .inl (cI, 26, .inl (fun j => nI ((flL z0 4294967295 26) j)))), (q22, .inl (cC, 64, .inl (fun j => nI (z0 j))))] → va_S A H0 H locs → W p l e R s m args below meth c H locs (cells + 3) (slots + 94) Q (F0 m pc ls [])) : ∀ (ls : Array Slot) (H : Heap) (locs : List Loc), lv_has ls 1 [(0, .ref h)] → va_P D classes [(h, .inr (4, [.null, .null, .null, .int (nI 0)]))] H → va_D A [(h, .inr (4, [.null, .null, .null, .int (nI 0)]))] → va_S A H0 H locs → W p l e R s m args below meth c H locs cells slots Q (F0 m 0 ls []) := by
  obtain ⟨hx, hb, hml, hown, hts⟩ := id S
  have hRc : cells ≤ R.cells ∧ slots ≤ R.slots := ⟨by omega, by omega⟩
  intro ls H locs hl hP hD hS
  refine lv_aload_n hx hb d_q_Reading_init_0 rfl (lv_at hl 0 rfl) ?_
  refine W.objInit hx hb hown (hts _ (List.mem_cons_of_mem _ kw_167)) (hts _ (List.mem_cons_of_mem _ kw_34)) (hts _ (List.mem_cons_of_mem _ kw_35)) rfl (by rw [hml]; exact hl.1) rfl d_q_Reading_init_1 (Nat.le_trans (Nat.le_of_ble_eq_true rfl) hRf) (Nat.le_trans (Nat.le_of_ble_eq_true rfl) hRl) ?_
  refine W.eq (g2 := F0 m 4 ls []) rfl ?_
  refine lv_aload_n hx hb d_q_Reading_init_4 rfl (lv_at hl 0 rfl) ?_
  refine lv_iconst (v := nI 4) hx hb d_q_Reading_init_5 (by decide) ?_
  refine n_newi hx hb hts kw_47 hK hP hD hS hA (by decide) (by omega) (by omega) d_q_Reading_init_6 (fun q6 H hP hD hS => ?_)
  have hP : va_P D classes [(h, .inr (4, [.null, .null, .null, .int (nI 0)])), (q6, .inl (cI, 4, .inl (fun j => nI (z0 j))))] H := hP
  have hD : va_D A [(h, .inr (4, [.null, .null, .null, .int (nI 0)])), (q6, .inl (cI, 4, .inl (fun j => nI (z0 j))))] := hD
  have hRc : cells + 1 ≤ R.cells ∧ slots + 4 ≤ R.slots := ⟨by omega, by omega⟩
  refine va_putF (D := D) (ci := 4) (v := .ref q6) (ty := (.array .int)) (C := R_Reading) (T := F_Reading) (N := 4) hx hb hts (fun w h => List.mem_cons_of_mem _ (u_Reading_in w h)) t_Reading t_Reading_ok n_Reading hown hK hP hD hS 0 rfl rfl 0 (by decide) (hts _ (List.mem_cons_of_mem _ kw_171)) (fun _ h9 => h9) rfl hin rfl (by decide +kernel) rfl rfl (Nat.le_of_ble_eq_true rfl) d_q_Reading_init_8 (fun H locs hP hD hS => ?_)
  have hP : va_P D classes [(h, .inr (4, [.ref q6, .null, .null, .int (nI 0)])), (q6, .inl (cI, 4, .inl (fun j => nI (z0 j))))] H := hP
  have hD : va_D A [(h, .inr (4, [.ref q6, .null, .null, .int (nI 0)])), (q6, .inl (cI, 4, .inl (fun j => nI (z0 j))))] := hD
  refine lv_aload_n hx hb d_q_Reading_init_11 rfl (lv_at hl 0 rfl) ?_
  refine lv_bipush (v := nI 26) hx hb d_q_Reading_init_12 (by decide) ?_
  refine n_newi hx hb hts kw_47 hK hP hD hS hA (by decide) (by omega) (by omega) d_q_Reading_init_14 (fun q14 H hP hD hS => ?_)
  have hP : va_P D classes [(h, .inr (4, [.ref q6, .null, .null, .int (nI 0)])), (q6, .inl (cI, 4, .inl (fun j => nI (z0 j)))), (q14, .inl (cI, 26, .inl (fun j => nI (z0 j))))] H := hP
  have hD : va_D A [(h, .inr (4, [.ref q6, .null, .null, .int (nI 0)])), (q6, .inl (cI, 4, .inl (fun j => nI (z0 j)))), (q14, .inl (cI, 26, .inl (fun j => nI (z0 j))))] := hD
  have hRc : cells + 2 ≤ R.cells ∧ slots + 30 ≤ R.slots := ⟨by omega, by omega⟩
  refine va_putF (D := D) (ci := 4) (v := .ref q14) (ty := (.array .int)) (C := R_Reading) (T := F_Reading) (N := 4) hx hb hts (fun w h => List.mem_cons_of_mem _ (u_Reading_in w h)) t_Reading t_Reading_ok n_Reading hown hK hP hD hS 0 rfl rfl 1 (by decide) (hts _ (List.mem_cons_of_mem _ kw_172)) (fun _ h9 => h9) rfl hin rfl (by decide +kernel) rfl rfl (Nat.le_of_ble_eq_true rfl) d_q_Reading_init_16 (fun H locs hP hD hS => ?_)
  have hP : va_P D classes [(h, .inr (4, [.ref q6, .ref q14, .null, .int (nI 0)])), (q6, .inl (cI, 4, .inl (fun j => nI (z0 j)))), (q14, .inl (cI, 26, .inl (fun j => nI (z0 j))))] H := hP
  have hD : va_D A [(h, .inr (4, [.ref q6, .ref q14, .null, .int (nI 0)])), (q6, .inl (cI, 4, .inl (fun j => nI (z0 j)))), (q14, .inl (cI, 26, .inl (fun j => nI (z0 j))))] := hD
  refine lv_aload_n hx hb d_q_Reading_init_19 rfl (lv_at hl 0 rfl) ?_
  refine lv_bipush (v := nI 64) hx hb d_q_Reading_init_20 (by decide) ?_
  refine n_newc hx hb hts kw_46 hK hP hD hS hA (by decide) (by omega) (by omega) d_q_Reading_init_22 (fun q22 H hP hD hS => ?_)
  have hP : va_P D classes [(h, .inr (4, [.ref q6, .ref q14, .null, .int (nI 0)])), (q6, .inl (cI, 4, .inl (fun j => nI (z0 j)))), (q14, .inl (cI, 26, .inl (fun j => nI (z0 j)))), (q22, .inl (cC, 64, .inl (fun j => nI (z0 j))))] H := hP
  have hD : va_D A [(h, .inr (4, [.ref q6, .ref q14, .null, .int (nI 0)])), (q6, .inl (cI, 4, .inl (fun j => nI (z0 j)))), (q14, .inl (cI, 26, .inl (fun j => nI (z0 j)))), (q22, .inl (cC, 64, .inl (fun j => nI (z0 j))))] := hD
  have hRc : cells + 3 ≤ R.cells ∧ slots + 94 ≤ R.slots := ⟨by omega, by omega⟩
  refine va_putF (D := D) (ci := 4) (v := .ref q22) (ty := (.array .char)) (C := R_Reading) (T := F_Reading) (N := 4) hx hb hts (fun w h => List.mem_cons_of_mem _ (u_Reading_in w h)) t_Reading t_Reading_ok n_Reading hown hK hP hD hS 0 rfl rfl 2 (by decide) (hts _ (List.mem_cons_of_mem _ kw_173)) (fun _ h9 => h9) rfl hin rfl (by decide +kernel) rfl rfl (Nat.le_of_ble_eq_true rfl) d_q_Reading_init_24 (fun H locs hP hD hS => ?_)
  have hP : va_P D classes [(h, .inr (4, [.ref q6, .ref q14, .ref q22, .int (nI 0)])), (q6, .inl (cI, 4, .inl (fun j => nI (z0 j)))), (q14, .inl (cI, 26, .inl (fun j => nI (z0 j)))), (q22, .inl (cC, 64, .inl (fun j => nI (z0 j))))] H := hP
  have hD : va_D A [(h, .inr (4, [.ref q6, .ref q14, .ref q22, .int (nI 0)])), (q6, .inl (cI, 4, .inl (fun j => nI (z0 j)))), (q14, .inl (cI, 26, .inl (fun j => nI (z0 j)))), (q22, .inl (cC, 64, .inl (fun j => nI (z0 j))))] := hD
  refine lv_aload_n hx hb d_q_Reading_init_27 rfl (lv_at hl 0 rfl) ?_
  refine n_get (C := R_Reading) (T := F_Reading) (N := 4) (v := .ref q6) hx hb hts u_Reading_in hown hK hP 0 rfl rfl 0 (by decide) kw_171 rfl d_q_Reading_init_28 ?_
  refine lv_iconst (v := (-1)) hx hb d_q_Reading_init_31 (by decide) ?_
  refine n_top (show (-1) = (nI 4294967295) from nx_m1.symm) ?_
  refine q_writeSv (n := 2) (As := [.ref q6, .int (nI 4294967295)]) (rest := []) (wc := [(q6, .inl (cI, 4, .inl (fun j => nI (z0 j))))]) (wr := [(h, .inr (4, [.ref q6, .ref q14, .ref q22, .int (nI 0)])), (q14, .inl (cI, 26, .inl (fun j => nI (z0 j)))), (q22, .inl (cC, 64, .inl (fun j => nI (z0 j))))]) (w1 := [(q6, .inl (cI, 4, .inl (fun j => nI ((flL z0 4294967295 4) j))))]) S (c_j_Arrays_fill l D cI cC q6 4 z0 4294967295 (by decide) H.size) hK hP hD hA [1] [0, 2, 3] rfl rfl rfl rfl (by decide) rfl (q_goodS kw_168 kw_169 kw_9 kw_170) (by decide +kernel) rfl rfl ⟨Nat.le_trans (Nat.le_of_ble_eq_true rfl) hRf, Nat.le_trans (Nat.le_of_ble_eq_true rfl) hRl⟩ rfl hl.1 rfl (Nat.le_of_ble_eq_true rfl) d_q_Reading_init_32 hRc hS (fun H locs hP hD hS => ?_)
  replace hP : va_P D classes [(h, .inr (4, [.ref q6, .ref q14, .ref q22, .int (nI 0)])), (q6, .inl (cI, 4, .inl (fun j => nI ((flL z0 4294967295 4) j)))), (q14, .inl (cI, 26, .inl (fun j => nI (z0 j)))), (q22, .inl (cC, 64, .inl (fun j => nI (z0 j))))] H := hP.sub [0, 3, 1, 2] rfl
  replace hD : va_D A [(h, .inr (4, [.ref q6, .ref q14, .ref q22, .int (nI 0)])), (q6, .inl (cI, 4, .inl (fun j => nI ((flL z0 4294967295 4) j)))), (q14, .inl (cI, 26, .inl (fun j => nI (z0 j)))), (q22, .inl (cC, 64, .inl (fun j => nI (z0 j))))] := hD.sub [0, 3, 1, 2] rfl rfl
  refine lv_aload_n hx hb d_q_Reading_init_35 rfl (lv_at hl 0 rfl) ?_
  refine n_get (C := R_Reading) (T := F_Reading) (N := 4) (v := .ref q14) hx hb hts u_Reading_in hown hK hP 0 rfl rfl 1 (by decide) kw_172 rfl d_q_Reading_init_36 ?_
  refine lv_iconst (v := (-1)) hx hb d_q_Reading_init_39 (by decide) ?_
  refine n_top (show (-1) = (nI 4294967295) from nx_m1.symm) ?_
  refine q_writeSv (n := 2) (As := [.ref q14, .int (nI 4294967295)]) (rest := []) (wc := [(q14, .inl (cI, 26, .inl (fun j => nI (z0 j))))]) (wr := [(h, .inr (4, [.ref q6, .ref q14, .ref q22, .int (nI 0)])), (q6, .inl (cI, 4, .inl (fun j => nI ((flL z0 4294967295 4) j)))), (q22, .inl (cC, 64, .inl (fun j => nI (z0 j))))]) (w1 := [(q14, .inl (cI, 26, .inl (fun j => nI ((flL z0 4294967295 26) j))))]) S (c_j_Arrays_fill l D cI cC q14 26 z0 4294967295 (by decide) H.size) hK hP hD hA [2] [0, 1, 3] rfl rfl rfl rfl (by decide) rfl (q_goodS kw_168 kw_169 kw_9 kw_170) (by decide +kernel) rfl rfl ⟨Nat.le_trans (Nat.le_of_ble_eq_true rfl) hRf, Nat.le_trans (Nat.le_of_ble_eq_true rfl) hRl⟩ rfl hl.1 rfl (Nat.le_of_ble_eq_true rfl) d_q_Reading_init_40 hRc hS (fun H locs hP hD hS => ?_)
  replace hP : va_P D classes [(h, .inr (4, [.ref q6, .ref q14, .ref q22, .int (nI 0)])), (q6, .inl (cI, 4, .inl (fun j => nI ((flL z0 4294967295 4) j)))), (q14, .inl (cI, 26, .inl (fun j => nI ((flL z0 4294967295 26) j)))), (q22, .inl (cC, 64, .inl (fun j => nI (z0 j))))] H := hP.sub [0, 1, 3, 2] rfl
  replace hD : va_D A [(h, .inr (4, [.ref q6, .ref q14, .ref q22, .int (nI 0)])), (q6, .inl (cI, 4, .inl (fun j => nI ((flL z0 4294967295 4) j)))), (q14, .inl (cI, 26, .inl (fun j => nI ((flL z0 4294967295 26) j)))), (q22, .inl (cC, 64, .inl (fun j => nI (z0 j))))] := hD.sub [0, 1, 3, 2] rfl rfl
  exact kr q6 q14 q22 _ ls H locs d_q_Reading_init_43 (hP.sub [0, 1, 2, 3] rfl) (hD.sub [0, 1, 2, 3] rfl rfl) hS
set_option maxHeartbeats 4000000 in
set_option maxRecDepth 100000 in
theorem c_q_Reading_init (l : Launch) (D : va_G) (cI cC : ClassId) (h : Nat) (sz : Nat) : Met l y_q_Reading_init (cd_q_Reading_init :: WS) { frames := 1, cells := 3, slots := 94, locals := 23 } (va_Pc [.ref h] (wP D [(h, .inr (4, [.null, .null, .null, .int (nI 0)]))] [(cI, .int), (cC, .char)] sz)) (cQ D (fun u => [(h, .inr (4, [.ref (u 0), .ref (u 1), .ref (u 2), .int (nI 0)])), ((u 0), .inl (cI, 4, .inl (fun j => nI ((flL z0 4294967295 4) j)))), ((u 1), .inl (cI, 26, .inl (fun j => nI ((flL z0 4294967295 26) j)))), ((u 2), .inl (cC, 64, .inl (fun j => nI (z0 j))))]) [(h, .inr (4, [.null, .null, .null, .int (nI 0)]))] sz) 3 94 (va_A [(h, .inr (4, [.null, .null, .null, .int (nI 0)]))] sz) := by
  refine Met.ofW (cc := b_q_Reading_init) (maxL := 1) (ret := none) (by decide) rfl ?_
  intro p e s m args below meth c s₁ B hml hv0
  obtain ⟨rfl, hP, hK, hD0, hsz⟩ := hv0
  have hts := atoms_spec (ws := cd_q_Reading_init :: WS) B.pre
  have hown : s.vm.findClass R_Reading = some m.cls := findClass_of_methodNamed B.named
  have hlocks := B.notSynchronized
  have hin : meth.name = "<init>" := (name_of_methodNamed B.named B.method).1
  subst hsz
  have hD := hD0.self (sz := s.heap.size)
  have hl := lv_entry ([.ref h]) (n := 1) (Nat.le_of_ble_eq_true rfl)
  rw [lg_entry_eq]
  generalize (lg_sl ([.ref h]) ++ List.replicate (1 - (lg_sl ([.ref h])).length) Slot.unset).toArray = ls at hl ⊢
  refine bd_q_Reading_init cI cC h ⟨B.exec, B.bytes, hml, hown, hts⟩ (Nat.le_refl _) (Nat.le_refl _) ⟨Nat.le_of_eq (Nat.zero_add _), Nat.le_of_eq (Nat.zero_add _)⟩ hin hK (fun q h => Or.inr h) (fun q6 q14 q22 pc ls H locs hd hP hD hS => ?_) ls _ _ hl hP hD (va_S.rf)
  exact W.vret B.exec B.bytes B.returns (fun t ht _ => ⟨⟨(fun k => match k with | 0 => q6 | 1 => q14 | 2 => q22 | _ => 0), rfl, trivial, by have h9 := hP; rw [← ht] at h9; exact h9, hD⟩, hS.F ht⟩) hS.2.2 hd
end
