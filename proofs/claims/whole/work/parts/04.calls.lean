section OWN_CALL
/-- nothing is written -/
def noA : Nat → Prop := fun _ => False
/-- the end of a method that answers v and changes nothing -/
abbrev pQ (v : Int32) : Array Value → State → Outcome → State → Prop := va_Qi (fun r (_ : Unit) => r = v) (fun _ _ => True) noA
theorem q_good {c0 c1 : Cond} (h : c1 ∈ WS) : GoodIn (c0 :: WS) (c1 :: WS) := by
  intro w hw
  rcases List.mem_cons.mp hw with h1 | h1
  · subst h1; exact ⟨List.mem_cons_of_mem _ h, WS_good _ h⟩
  · exact ⟨List.mem_cons_of_mem _ h1, WS_good _ h1⟩
theorem q_goodS {c0 c1 : Cond} {own : String} {idx : Nat} {y : MethodName} (h1 : Cond.methodLink own idx y ∈ WS) (h2 : Cond.static y ∈ WS) (h3 : Cond.initialized y.cls ∈ WS) (h : c1 ∈ WS) : GoodIn (c0 :: WS) (va_wsS own idx y (c1 :: WS)) := by
  intro w hw
  unfold va_wsS at hw
  rcases List.mem_append.mp hw with q | q
  · have hin : w ∈ WS := by
      rcases List.mem_cons.mp q with r | r
      · rw [r]; exact h1
      · rcases List.mem_cons.mp r with r | r
        · rw [r]; exact h2
        · rw [List.mem_singleton.mp r]; exact h3
    exact ⟨List.mem_cons_of_mem _ hin, WS_good _ hin⟩
  · exact q_good h w q
variable {p : Program} {l : Launch} {e : Env} {R : Room} {s : State} {m : MethodId} {args : Array Value} {below : List Frame} {meth : Method} {c : Code} {H : Heap} {locs : List Loc} {cells slots : Nat} {Q : State → Prop}
variable {cc : ByteArray} {pc : Nat} {ls : Array Slot} {rest : List Value} {A : Nat → Prop} {H0 : Heap}
/-- a static method that answers v and changes nothing -/
theorem q_pureS {c0 : Cond} {own : String} {index maxL n nL : Nat} {y : MethodName} {bytes : ByteArray} {ret : Option FieldType} {rm : Room} {As st0 : List Value} {v : Int32} (S : CallFix p m c cc nL s args (c0 :: WS) own) (hM : Met l y (Cond.code y bytes maxL ret :: WS) rm (va_Pc As (fun _ => True)) (pQ v) 0 0 noA)
    (g : GoodIn (c0 :: WS) (va_wsS own index y (Cond.code y bytes maxL ret :: WS))) (hd : y.cls ≠ "java/lang/invoke/MethodHandle" ∧ y.cls ≠ "java/lang/invoke/VarHandle" ∧ (parseMethodDescriptor y.desc).map (fun d => d.parameters.length) = some n) (hrc : rm.cells = 0) (hrs : rm.slots = 0) (hR : rm.frames + 1 ≤ R.frames ∧ 8 + (maxL + 11) + rm.locals ≤ R.locals)
    (hn : As.length = n) (hsize : ls.size = nL) (hst : st0 = As.reverse ++ rest) (hW : (rest.map fun v => v.category).sum ≤ 8) (hdg : decode cc pc = .ok (.invokestatic index, 3)) (hf : cells ≤ R.cells ∧ slots ≤ R.slots) (hS : va_S A H0 H locs)
    (kk : ∀ (H1 : Heap) (locs1 : List Loc), (∀ q : Nat, q < H.size → H1[q]? = H[q]?) → va_S A H0 H1 locs1 → W p l e R s m args below meth c H1 locs1 cells slots Q (F0 m (pc + 3) ls (.int v :: rest))) : W p l e R s m args below meth c H locs cells slots Q (F0 m pc ls st0) := by
  refine va_calli (va_runS (rest := rest) S hM (va_cwS n S.2.2.2.2 g rfl hrc hrs hd hR) ⟨fun a U gg mk q => q, fun U hU hW => ⟨rfl, trivial⟩⟩ rfl hn hsize hst (lv_room hW) hdg hf) hS (fun q _ h => h.elim) (fun q h => h.elim) (fun r u t H1 locs1 ht hvm hw hB hz1 hk1 hS1 => ?_)
  cases hw
  exact kk H1 locs1 (fun q hq => hk1 q hq (fun h => h)) hS1
end OWN_CALL
section OWN_OBJ
variable {p : Program} {l : Launch} {e : Env} {R : Room} {s : State} {m : MethodId} {args : Array Value} {below : List Frame} {meth : Method} {c : Code} {H : Heap} {locs : List Loc} {cells slots : Nat} {Q : State → Prop}
variable {cc : ByteArray} {pc : Nat} {ls : Array Slot} {rest : List Value} {D : va_G} {cl : List vw_C} {A : Nat → Prop} {a : Nat} {tys : List (ClassId × FieldType)} {ws : va_W} {H0 : Heap}
theorem n_get {c0 : Cond} {own C : String} {T : u_T} {N ci index : Nat} (hx : p.tables.exec = Jvm.exec) (hb : c.code = cc) (hts : ∀ w ∈ c0 :: WS, w.before args s = true) (hin : ∀ w ∈ u_ws C T N, w ∈ WS) (hown : s.vm.findClass own = some m.cls) (hK : va_K D cl tys s) (hP : va_P D cl ws H) (q0 : Nat) {fs : List Value} (he : ws[q0]? = some (a, .inr (ci, fs))) (hc : cl[ci]? = some (C, T, N)) (k : Nat) (hk : k < N) (hlink : Cond.fieldLink own index (T k).1 (T k).2.1 (T k).2.2.1 ∈ WS) {v : Value} (hv : fs[k]? = some v) (hdg : decode cc pc = .ok (.getfield index, 3))
    (kk : W p l e R s m args below meth c H locs cells slots Q (F0 m (pc + 3) ls (v :: rest))) : W p l e R s m args below meth c H locs cells slots Q (F0 m pc ls (.ref a :: rest)) :=
  va_get hx hb hts (fun w h => List.mem_cons_of_mem _ (hin w h)) hown hK hP q0 he hc k hk (hts _ (List.mem_cons_of_mem _ hlink)) (fun _ h => h) hv hdg kk
theorem n_put {c0 : Cond} {own C : String} {T : u_T} {N ci index : Nat} (hx : p.tables.exec = Jvm.exec) (hb : c.code = cc) (hts : ∀ w ∈ c0 :: WS, w.before args s = true) (hin : ∀ w ∈ u_ws C T N, w ∈ WS) (ty0 : Nat → FieldType) (hty : ∀ k, k < N → parseFieldDescriptor (T k).2.2.1 = some (ty0 k)) (hnm : ∀ a, a < N → ∀ b, b < N → a ≠ b → (T a).2.1 ≠ (T b).2.1) (hown : s.vm.findClass own = some m.cls) (hK : va_K D cl tys s) (hP : va_P D cl ws H) (hD : va_D A ws) (hS0 : va_S A H0 H locs) (q0 : Nat) {fs : List Value} (he : ws[q0]? = some (a, .inr (ci, fs))) (hc : cl[ci]? = some (C, T, N)) (k : Nat) (hk : k < N) (hlink : Cond.fieldLink own index (T k).1 (T k).2.1 (T k).2.2.1 ∈ WS) (hfin : (T k).2.2.2 = false) {v : Value} (hn : narrow (ty0 k) v = v) (hfit : fits (ty0 k) v = true) (hl : k < fs.length) (hdg : decode cc pc = .ok (.putfield index, 3))
    (kk : ∀ (H1 : Heap) (locs1 : List Loc), va_P D cl (ws.set q0 (a, .inr (ci, fs.set k v))) H1 → va_D A (ws.set q0 (a, .inr (ci, fs.set k v))) → va_S A H0 H1 locs1 → W p l e R s m args below meth c H1 locs1 cells slots Q (F0 m (pc + 3) ls rest)) : W p l e R s m args below meth c H locs cells slots Q (F0 m pc ls (v :: .ref a :: rest)) :=
  va_put hx hb hts (fun w h => List.mem_cons_of_mem _ (hin w h)) ty0 hty hnm hown hK hP hD hS0 q0 he hc k hk (hts _ (List.mem_cons_of_mem _ hlink)) (fun _ h => h) hfin (hty k hk) hn hfit hl hdg kk
end OWN_OBJ
section OWN_CALLV
/-- a reader's start: its cells, its classes -/
abbrev rP (D : va_G) (ws : va_W) (tys : List (ClassId × FieldType)) : State → Prop := fun U => va_P D classes ws U.heap ∧ va_K D classes tys U
theorem rP_blind {D : va_G} {ws : va_W} {tys : List (ClassId × FieldType)} {As : List Value} : FrameBlind (va_Pc As (rP D ws tys)) := by
  intro a U g mk q
  exact ⟨q.1, q.2.1, va_K.moved (u := U) (U := U.calling g mk a) (Vm.Alike.refl U.vm) q.2.2⟩
/-- a writer's start -/
abbrev wP (D : va_G) (ws : va_W) (tys : List (ClassId × FieldType)) (sz : Nat) : State → Prop := fun U => va_P D classes ws U.heap ∧ va_K D classes tys U ∧ va_D (fun _ => True) ws ∧ U.heap.size = sz
theorem wP_blind {D : va_G} {ws : va_W} {tys : List (ClassId × FieldType)} {As : List Value} {sz : Nat} : FrameBlind (va_Pc As (wP D ws tys sz)) := by
  intro a U g mk q
  exact ⟨q.1, q.2.1, va_K.moved (u := U) (U := U.calling g mk a) (Vm.Alike.refl U.vm) q.2.2.1, q.2.2.2.1, q.2.2.2.2⟩
/-- a writer's end: it answers v, and its cells hold w1 -/
abbrev wQi (D : va_G) (v : Int32) (ws w1 : va_W) (sz : Nat) : Array Value → State → Outcome → State → Prop := va_Qi (fun r (_ : Unit) => r = v) (fun _ t => va_P D classes w1 t.heap) (va_A ws sz)
abbrev wQv (D : va_G) (ws w1 : va_W) (sz : Nat) : Array Value → State → Outcome → State → Prop := va_Qv (fun (_ : Unit) => True) (fun _ t => va_P D classes w1 t.heap) (va_A ws sz)
theorem q_goodV {c0 c1 : Cond} {own C : String} {idx : Nat} {y : MethodName} (h1 : Cond.methodLink own idx y ∈ WS) (h2 : Cond.instanceMethod y ∈ WS) (h3 : Cond.selects C y y ∈ WS) (h4 : Cond.initialized C ∈ WS) (h : c1 ∈ WS) : GoodIn (c0 :: WS) (wsV own idx C y (c1 :: WS)) := by
  intro w hw
  unfold wsV at hw
  rcases List.mem_append.mp hw with q | q
  · have hin : w ∈ WS := by
      rcases List.mem_cons.mp q with r | r
      · rw [r]; exact h1
      · rcases List.mem_cons.mp r with r | r
        · rw [r]; exact h2
        · rcases List.mem_cons.mp r with r | r
          · rw [r]; exact h3
          · rw [List.mem_singleton.mp r]; exact h4
    exact ⟨List.mem_cons_of_mem _ hin, WS_good _ hin⟩
  · exact q_good h w q
variable {p : Program} {l : Launch} {e : Env} {R : Room} {s : State} {m : MethodId} {args : Array Value} {below : List Frame} {meth : Method} {c : Code} {H : Heap} {locs : List Loc} {cells slots : Nat} {Q : State → Prop}
variable {cc : ByteArray} {pc : Nat} {ls : Array Slot} {rest : List Value} {D : va_G} {A : Nat → Prop} {H0 : Heap} {tys : List (ClassId × FieldType)} {ws wc wr w1 : va_W}
/-- an instance method that reads: it answers v and changes nothing -/
theorem q_readV {c0 : Cond} {own C : String} {T : u_T} {N ci q0 : Nat} {fs : List Value} {index maxL n nL : Nat} {y : MethodName} {bytes : ByteArray} {ret : Option FieldType} {rm : Room} {b : Nat} {As st0 : List Value} {v : Int32} (S : CallFix p m c cc nL s args (c0 :: WS) own) (hM : Met l y (Cond.code y bytes maxL ret :: WS) rm (va_Pc (.ref b :: As) (rP D wc tys)) (pQ v) 0 0 noA)
    (hK : va_K D classes tys s) (hP : va_P D classes ws H) (he : ws[q0]? = some (b, .inr (ci, fs))) (hc : classes[ci]? = some (C, T, N)) (isC : List Nat) (hC : isC.filterMap (fun i => ws[i]?) = wc) (g : GoodIn (c0 :: WS) (wsV own index C y (Cond.code y bytes maxL ret :: WS)))
    (hd : y.cls ≠ "java/lang/invoke/MethodHandle" ∧ y.cls ≠ "java/lang/invoke/VarHandle" ∧ (parseMethodDescriptor y.desc).map (fun d => d.parameters.length) = some n) (hcl : y.cls = C) (hrc : rm.cells = 0) (hrs : rm.slots = 0) (hR : rm.frames + 1 ≤ R.frames ∧ 8 + (maxL + 11) + rm.locals ≤ R.locals)
    (hn : As.length = n) (hsize : ls.size = nL) (hst : st0 = As.reverse ++ .ref b :: rest) (hW : (rest.map fun v => v.category).sum ≤ 8) (hdg : decode cc pc = .ok (.invokevirtual index, 3)) (hf : cells ≤ R.cells ∧ slots ≤ R.slots) (hS : va_S A H0 H locs)
    (kk : ∀ (H1 : Heap) (locs1 : List Loc), va_P D classes ws H1 → va_S A H0 H1 locs1 → W p l e R s m args below meth c H1 locs1 cells slots Q (F0 m (pc + 3) ls (.int v :: rest))) : W p l e R s m args below meth c H locs cells slots Q (F0 m pc ls st0) := by
  have hPc := hP.sub isC hC
  refine va_calli (va_runV (rest := rest) (C := C) S hM (cwV n S.2.2.2.2 g rfl hrc hrs ⟨hcl, hd⟩ hR) ⟨rP_blind, va_recv hK hP hc he, fun U hU hW => ⟨rfl, by rw [hU]; exact hPc, va_K.moved hW.alike hK⟩⟩ rfl hn hsize hst (lv_room hW) hdg hf) hS (fun q _ h => h.elim) (fun q h => h.elim) (fun r u t H1 locs1 ht hvm hw hB hz1 hk1 hS1 => ?_)
  cases hw
  exact kk H1 locs1 (hP.kept (fun k q hq => hk1 q.1 (hP k q hq).lt (fun h => h))) hS1
theorem q_subm {ws wc : va_W} {is : List Nat} (h : is.map (fun i => ws[i]?) = wc.map some) : is.filterMap (fun i => ws[i]?) = wc := by
  have h1 : is.filterMap (fun i => ws[i]?) = (is.map (fun i => ws[i]?)).filterMap id := by rw [List.filterMap_map]; rfl
  rw [h1, h]
  rw [List.filterMap_map]
  exact List.filterMap_some
/-- an instance method that writes its cells -/
theorem q_writeVv {c0 : Cond} {own C : String} {T : u_T} {N ci q0 : Nat} {fs : List Value} {index maxL n nL : Nat} {y : MethodName} {bytes : ByteArray} {ret : Option FieldType} {rm : Room} {b : Nat} {As st0 : List Value} (S : CallFix p m c cc nL s args (c0 :: WS) own) (hM : Met l y (Cond.code y bytes maxL ret :: WS) rm (va_Pc (.ref b :: As) (wP D wc tys H.size)) (wQv D wc w1 H.size) 0 0 (va_A wc H.size))
    (hK : va_K D classes tys s) (hP : va_P D classes ws H) (hD : va_D A ws) (hA : ∀ q, H0.size ≤ q → A q) (he : ws[q0]? = some (b, .inr (ci, fs))) (hc : classes[ci]? = some (C, T, N)) (isC isR : List Nat) (hC : isC.map (fun i => ws[i]?) = wc.map some) (hnC : va_nd isC = true) (hRr : isR.map (fun i => ws[i]?) = wr.map some) (hnd : va_nd isR = true) (hdis : ∀ i ∈ isR, i ∉ isC) (hw1 : wc.map Prod.fst = w1.map Prod.fst)
    (g : GoodIn (c0 :: WS) (wsV own index C y (Cond.code y bytes maxL ret :: WS)))
    (hd : y.cls ≠ "java/lang/invoke/MethodHandle" ∧ y.cls ≠ "java/lang/invoke/VarHandle" ∧ (parseMethodDescriptor y.desc).map (fun d => d.parameters.length) = some n) (hcl : y.cls = C) (hrc : rm.cells = 0) (hrs : rm.slots = 0) (hR : rm.frames + 1 ≤ R.frames ∧ 8 + (maxL + 11) + rm.locals ≤ R.locals)
    (hn : As.length = n) (hsize : ls.size = nL) (hst : st0 = As.reverse ++ .ref b :: rest) (hW : (rest.map fun v => v.category).sum ≤ 8) (hdg : decode cc pc = .ok (.invokevirtual index, 3)) (hf : cells ≤ R.cells ∧ slots ≤ R.slots) (hS : va_S A H0 H locs)
    (kk : ∀ (H1 : Heap) (locs1 : List Loc), va_P D classes (wr ++ w1) H1 → va_D A (wr ++ w1) → va_S A H0 H1 locs1 → W p l e R s m args below meth c H1 locs1 cells slots Q (F0 m (pc + 3) ls (rest))) : W p l e R s m args below meth c H locs cells slots Q (F0 m pc ls st0) := by
  have hPc := hP.sub isC (q_subm hC)
  have hDc := hD.sub isC hnC hC
  have hFc := va_free (wc := wc) hD hS hA isC hC
  refine va_callv (va_runV (rest := rest) (C := C) S hM (cwV n S.2.2.2.2 g rfl hrc hrs ⟨hcl, hd⟩ hR) ⟨wP_blind, va_recv hK hP hc he, fun U hU hW => ⟨rfl, by rw [hU]; exact hPc, va_K.moved hW.alike hK, hDc.weaken (fun _ _ _ _ => trivial), by rw [hU]⟩⟩ rfl hn hsize hst (lv_room hW) hdg hf) hS (fun q _ h => hFc q h) hFc (fun u t H1 locs1 ht hvm hw hB hz1 hk1 hS1 => ?_)
  skip
  rw [ht] at hB
  obtain ⟨hP9, hD9⟩ := va_join hP hD isC isR hC hRr hnd hdis hk1 hFc hB (n_D hDc.self hw1)
  exact kk H1 locs1 hP9 hD9 hS1
theorem q_writeVi {c0 : Cond} {own C : String} {T : u_T} {N ci q0 : Nat} {fs : List Value} {index maxL n nL : Nat} {y : MethodName} {bytes : ByteArray} {ret : Option FieldType} {rm : Room} {b : Nat} {As st0 : List Value} {v : Int32} (S : CallFix p m c cc nL s args (c0 :: WS) own) (hM : Met l y (Cond.code y bytes maxL ret :: WS) rm (va_Pc (.ref b :: As) (wP D wc tys H.size)) (wQi D v wc w1 H.size) 0 0 (va_A wc H.size))
    (hK : va_K D classes tys s) (hP : va_P D classes ws H) (hD : va_D A ws) (hA : ∀ q, H0.size ≤ q → A q) (he : ws[q0]? = some (b, .inr (ci, fs))) (hc : classes[ci]? = some (C, T, N)) (isC isR : List Nat) (hC : isC.map (fun i => ws[i]?) = wc.map some) (hnC : va_nd isC = true) (hRr : isR.map (fun i => ws[i]?) = wr.map some) (hnd : va_nd isR = true) (hdis : ∀ i ∈ isR, i ∉ isC) (hw1 : wc.map Prod.fst = w1.map Prod.fst)
    (g : GoodIn (c0 :: WS) (wsV own index C y (Cond.code y bytes maxL ret :: WS)))
    (hd : y.cls ≠ "java/lang/invoke/MethodHandle" ∧ y.cls ≠ "java/lang/invoke/VarHandle" ∧ (parseMethodDescriptor y.desc).map (fun d => d.parameters.length) = some n) (hcl : y.cls = C) (hrc : rm.cells = 0) (hrs : rm.slots = 0) (hR : rm.frames + 1 ≤ R.frames ∧ 8 + (maxL + 11) + rm.locals ≤ R.locals)
    (hn : As.length = n) (hsize : ls.size = nL) (hst : st0 = As.reverse ++ .ref b :: rest) (hW : (rest.map fun v => v.category).sum ≤ 8) (hdg : decode cc pc = .ok (.invokevirtual index, 3)) (hf : cells ≤ R.cells ∧ slots ≤ R.slots) (hS : va_S A H0 H locs)
    (kk : ∀ (H1 : Heap) (locs1 : List Loc), va_P D classes (wr ++ w1) H1 → va_D A (wr ++ w1) → va_S A H0 H1 locs1 → W p l e R s m args below meth c H1 locs1 cells slots Q (F0 m (pc + 3) ls (.int v :: rest))) : W p l e R s m args below meth c H locs cells slots Q (F0 m pc ls st0) := by
  have hPc := hP.sub isC (q_subm hC)
  have hDc := hD.sub isC hnC hC
  have hFc := va_free (wc := wc) hD hS hA isC hC
  refine va_calli (va_runV (rest := rest) (C := C) S hM (cwV n S.2.2.2.2 g rfl hrc hrs ⟨hcl, hd⟩ hR) ⟨wP_blind, va_recv hK hP hc he, fun U hU hW => ⟨rfl, by rw [hU]; exact hPc, va_K.moved hW.alike hK, hDc.weaken (fun _ _ _ _ => trivial), by rw [hU]⟩⟩ rfl hn hsize hst (lv_room hW) hdg hf) hS (fun q _ h => hFc q h) hFc (fun r u t H1 locs1 ht hvm hw hB hz1 hk1 hS1 => ?_)
  cases hw
  rw [ht] at hB
  obtain ⟨hP9, hD9⟩ := va_join hP hD isC isR hC hRr hnd hdis hk1 hFc hB (n_D hDc.self hw1)
  exact kk H1 locs1 hP9 hD9 hS1
end OWN_CALLV
