/-! More rows: static methods with cells, shifts without sign, constants, copies -/
section OWN2
variable {p : Program} {l : Launch} {e : Env} {R : Room} {s : State} {m : MethodId} {args : Array Value} {below : List Frame} {meth : Method} {c : Code} {H : Heap} {locs : List Loc} {cells slots : Nat} {Q : State → Prop}
variable {cc : ByteArray} {pc : Nat} {ls : Array Slot} {rest : List Value} {D : va_G} {A : Nat → Prop} {H0 : Heap} {tys : List (ClassId × FieldType)} {ws wc wr w1 : va_W}
theorem q_readS {c0 : Cond} {own : String} {index maxL n nL : Nat} {y : MethodName} {bytes : ByteArray} {ret : Option FieldType} {rm : Room} {As st0 : List Value} {v : Int32} (S : CallFix p m c cc nL s args (c0 :: WS) own) (hM : Met l y (Cond.code y bytes maxL ret :: WS) rm (va_Pc As (rP D wc tys)) (pQ v) 0 0 noA)
    (hK : va_K D classes tys s) (hP : va_P D classes ws H) (isC : List Nat) (hC : isC.filterMap (fun i => ws[i]?) = wc) (g : GoodIn (c0 :: WS) (va_wsS own index y (Cond.code y bytes maxL ret :: WS)))
    (hd : y.cls ≠ "java/lang/invoke/MethodHandle" ∧ y.cls ≠ "java/lang/invoke/VarHandle" ∧ (parseMethodDescriptor y.desc).map (fun d => d.parameters.length) = some n) (hrc : rm.cells = 0) (hrs : rm.slots = 0) (hR : rm.frames + 1 ≤ R.frames ∧ 8 + (maxL + 11) + rm.locals ≤ R.locals)
    (hn : As.length = n) (hsize : ls.size = nL) (hst : st0 = As.reverse ++ rest) (hW : (rest.map fun v => v.category).sum ≤ 8) (hdg : decode cc pc = .ok (.invokestatic index, 3)) (hf : cells ≤ R.cells ∧ slots ≤ R.slots) (hS : va_S A H0 H locs)
    (kk : ∀ (H1 : Heap) (locs1 : List Loc), va_P D classes ws H1 → va_S A H0 H1 locs1 → W p l e R s m args below meth c H1 locs1 cells slots Q (F0 m (pc + 3) ls (.int v :: rest))) : W p l e R s m args below meth c H locs cells slots Q (F0 m pc ls st0) := by
  have hPc := hP.sub isC hC
  refine va_calli (va_runS (rest := rest) S hM (va_cwS n S.2.2.2.2 g rfl hrc hrs hd hR) ⟨rP_blind, fun U hU hW => ⟨rfl, by rw [hU]; exact hPc, va_K.moved hW.alike hK⟩⟩ rfl hn hsize hst (lv_room hW) hdg hf) hS (fun q _ h => h.elim) (fun q h => h.elim) (fun r u t H1 locs1 ht hvm hw hB hz1 hk1 hS1 => ?_)
  cases hw
  exact kk H1 locs1 (hP.kept (fun k q hq => hk1 q.1 (hP k q hq).lt (fun h => h))) hS1
theorem q_writeSv {c0 : Cond} {own : String} {index maxL n nL : Nat} {y : MethodName} {bytes : ByteArray} {ret : Option FieldType} {rm : Room} {As st0 : List Value} (S : CallFix p m c cc nL s args (c0 :: WS) own) (hM : Met l y (Cond.code y bytes maxL ret :: WS) rm (va_Pc As (wP D wc tys H.size)) (wQv D wc w1 H.size) 0 0 (va_A wc H.size))
    (hK : va_K D classes tys s) (hP : va_P D classes ws H) (hD : va_D A ws) (hA : ∀ q, H0.size ≤ q → A q) (isC isR : List Nat) (hC : isC.map (fun i => ws[i]?) = wc.map some) (hnC : va_nd isC = true) (hRr : isR.map (fun i => ws[i]?) = wr.map some) (hnd : va_nd isR = true) (hdis : ∀ i ∈ isR, i ∉ isC) (hw1 : wc.map Prod.fst = w1.map Prod.fst)
    (g : GoodIn (c0 :: WS) (va_wsS own index y (Cond.code y bytes maxL ret :: WS)))
    (hd : y.cls ≠ "java/lang/invoke/MethodHandle" ∧ y.cls ≠ "java/lang/invoke/VarHandle" ∧ (parseMethodDescriptor y.desc).map (fun d => d.parameters.length) = some n) (hrc : rm.cells = 0) (hrs : rm.slots = 0) (hR : rm.frames + 1 ≤ R.frames ∧ 8 + (maxL + 11) + rm.locals ≤ R.locals)
    (hn : As.length = n) (hsize : ls.size = nL) (hst : st0 = As.reverse ++ rest) (hW : (rest.map fun v => v.category).sum ≤ 8) (hdg : decode cc pc = .ok (.invokestatic index, 3)) (hf : cells ≤ R.cells ∧ slots ≤ R.slots) (hS : va_S A H0 H locs)
    (kk : ∀ (H1 : Heap) (locs1 : List Loc), va_P D classes (wr ++ w1) H1 → va_D A (wr ++ w1) → va_S A H0 H1 locs1 → W p l e R s m args below meth c H1 locs1 cells slots Q (F0 m (pc + 3) ls (rest))) : W p l e R s m args below meth c H locs cells slots Q (F0 m pc ls st0) := by
  have hPc := hP.sub isC (q_subm hC)
  have hDc := hD.sub isC hnC hC
  have hFc := va_free (wc := wc) hD hS hA isC hC
  refine va_callv (va_runS (rest := rest) S hM (va_cwS n S.2.2.2.2 g rfl hrc hrs hd hR) ⟨wP_blind, fun U hU hW => ⟨rfl, by rw [hU]; exact hPc, va_K.moved hW.alike hK, hDc.weaken (fun _ _ _ _ => trivial), by rw [hU]⟩⟩ rfl hn hsize hst (lv_room hW) hdg hf) hS (fun q _ h => hFc q h) hFc (fun u t H1 locs1 ht hvm hw hB hz1 hk1 hS1 => ?_)
  skip
  rw [ht] at hB
  obtain ⟨hP9, hD9⟩ := va_join hP hD isC isR hC hRr hnd hdis hk1 hFc hB (n_D hDc.self hw1)
  exact kk H1 locs1 hP9 hD9 hS1
theorem q_writeSi {c0 : Cond} {own : String} {index maxL n nL : Nat} {y : MethodName} {bytes : ByteArray} {ret : Option FieldType} {rm : Room} {As st0 : List Value} {v : Int32} (S : CallFix p m c cc nL s args (c0 :: WS) own) (hM : Met l y (Cond.code y bytes maxL ret :: WS) rm (va_Pc As (wP D wc tys H.size)) (wQi D v wc w1 H.size) 0 0 (va_A wc H.size))
    (hK : va_K D classes tys s) (hP : va_P D classes ws H) (hD : va_D A ws) (hA : ∀ q, H0.size ≤ q → A q) (isC isR : List Nat) (hC : isC.map (fun i => ws[i]?) = wc.map some) (hnC : va_nd isC = true) (hRr : isR.map (fun i => ws[i]?) = wr.map some) (hnd : va_nd isR = true) (hdis : ∀ i ∈ isR, i ∉ isC) (hw1 : wc.map Prod.fst = w1.map Prod.fst)
    (g : GoodIn (c0 :: WS) (va_wsS own index y (Cond.code y bytes maxL ret :: WS)))
    (hd : y.cls ≠ "java/lang/invoke/MethodHandle" ∧ y.cls ≠ "java/lang/invoke/VarHandle" ∧ (parseMethodDescriptor y.desc).map (fun d => d.parameters.length) = some n) (hrc : rm.cells = 0) (hrs : rm.slots = 0) (hR : rm.frames + 1 ≤ R.frames ∧ 8 + (maxL + 11) + rm.locals ≤ R.locals)
    (hn : As.length = n) (hsize : ls.size = nL) (hst : st0 = As.reverse ++ rest) (hW : (rest.map fun v => v.category).sum ≤ 8) (hdg : decode cc pc = .ok (.invokestatic index, 3)) (hf : cells ≤ R.cells ∧ slots ≤ R.slots) (hS : va_S A H0 H locs)
    (kk : ∀ (H1 : Heap) (locs1 : List Loc), va_P D classes (wr ++ w1) H1 → va_D A (wr ++ w1) → va_S A H0 H1 locs1 → W p l e R s m args below meth c H1 locs1 cells slots Q (F0 m (pc + 3) ls (.int v :: rest))) : W p l e R s m args below meth c H locs cells slots Q (F0 m pc ls st0) := by
  have hPc := hP.sub isC (q_subm hC)
  have hDc := hD.sub isC hnC hC
  have hFc := va_free (wc := wc) hD hS hA isC hC
  refine va_calli (va_runS (rest := rest) S hM (va_cwS n S.2.2.2.2 g rfl hrc hrs hd hR) ⟨wP_blind, fun U hU hW => ⟨rfl, by rw [hU]; exact hPc, va_K.moved hW.alike hK, hDc.weaken (fun _ _ _ _ => trivial), by rw [hU]⟩⟩ rfl hn hsize hst (lv_room hW) hdg hf) hS (fun q _ h => hFc q h) hFc (fun r u t H1 locs1 ht hvm hw hB hz1 hk1 hS1 => ?_)
  cases hw
  rw [ht] at hB
  obtain ⟨hP9, hD9⟩ := va_join hP hD isC isR hC hRr hnd hdis hk1 hFc hB (n_D hDc.self hw1)
  exact kk H1 locs1 hP9 hD9 hS1
theorem nx_su : ∀ n, n < 32 → (((nI n).toUInt32 &&& Int32.toUInt32 31).toBitVec % 32).toNat = n := by decide +kernel
theorem n_iushr (hx : p.tables.exec = Jvm.exec) (hb : c.code = cc) {a b : Nat} (hdg : decode cc pc = .ok (.iushr, 1)) (ha : a < 2 ^ 32) (h : b < 32) (k : W p l e R s m args below meth c H locs cells slots Q (F0 m (pc + 1) ls (.int (nI (a / 2 ^ b)) :: rest))) : W p l e R s m args below meth c H locs cells slots Q (F0 m pc ls (.int (nI b) :: .int (nI a) :: rest)) :=
  lv_iushr hx hb hdg (pk_ushrN ha _ b (nx_su b h)) k
/-- System.arraycopy between two int arrays of the world -/
theorem n_copyi {c0 : Cond} {nL : Nat} {own : String} {index : Nat} (S : CallFix p m c cc nL s args (c0 :: WS) own) (hl : ls.size = nL) (hlink : Cond.methodLink own index arraycopyName ∈ WS) (hnat : Cond.native arraycopyName ∈ WS) (hstat : Cond.static arraycopyName ∈ WS) (hini : Cond.initialized "java/lang/System" ∈ WS)
    (hK : va_K D classes tys s) (hP : va_P D classes ws H) (hD : va_D A ws) (hS : va_S A H0 H locs) (q0 q1 t0 : Nat) {a0 a : Nat} {c0' c1 : ClassId} {n0 n1 : Nat} {f g : Nat → Nat} (ha0 : ws[q0]? = some (a0, .inl (c0', n0, .inl (fun j => nI (f j))))) (ha1 : ws[q1]? = some (a, .inl (c1, n1, .inl (fun j => nI (g j))))) (ht0 : tys[t0]? = some (c0', .int)) (ht1 : tys[t0]? = some (c1, .int))
    {sp dp n : Nat} (h4 : sp + n ≤ n0) (h5 : dp + n ≤ n1) (hb0 : n0 < 2 ^ 31) (hb1 : n1 < 2 ^ 31) (hfr : 1 ≤ R.frames) (hlo : (rest.map fun v => v.category).sum + (nativeFrameWords "java/lang/System" "arraycopy" 5 + 11) ≤ R.locals) (hdg : decode cc pc = .ok (.invokestatic index, 3))
    (kk : ∀ (H1 : Heap) (locs1 : List Loc), va_P D classes (ws.set q1 (a, .inl (c1, n1, .inl (fun j => nI (va_cpy f g sp dp n j))))) H1 → va_D A (ws.set q1 (a, .inl (c1, n1, .inl (fun j => nI (va_cpy f g sp dp n j))))) → va_S A H0 H1 locs1 → W p l e R s m args below meth c H1 locs1 cells slots Q (F0 m (pc + 3) ls rest)) : W p l e R s m args below meth c H locs cells slots Q (F0 m pc ls (.int (nI n) :: .int (nI dp) :: .ref a :: .int (nI sp) :: .ref a0 :: rest)) := by
  obtain ⟨hx, hb, hml, hown, hts⟩ := S
  have e1 : (nI sp).toNatClampNeg = sp := nI_clamp (by omega)
  have e2 : (nI dp).toNatClampNeg = dp := nI_clamp (by omega)
  have e3 : (nI n).toNatClampNeg = n := nI_clamp (by omega)
  have e4 : va_cpy (fun j => nI (f j)) (fun j => nI (g j)) sp dp n = fun j => nI (va_cpy f g sp dp n j) := by
    funext j
    unfold va_cpy
    split <;> rfl
  refine va_copyi hx hb (hml.trans hl.symm) hown (hts _ (List.mem_cons_of_mem _ hlink)) (hts _ (List.mem_cons_of_mem _ hnat)) (hts _ (List.mem_cons_of_mem _ hstat)) (hts _ (List.mem_cons_of_mem _ hini)) hK hP hD hS q0 q1 t0 t0 ha0 ha1 ht0 ht1 rfl (nI_pos (by omega)) (nI_pos (by omega)) (nI_pos (by omega)) (by rw [e1, e3]; exact h4) (by rw [e2, e3]; exact h5) (fun i _ => rfl) hfr hlo hdg ?_
  rw [e1, e2, e3, e4]
  exact kk
end OWN2
section OWN2_NUM
theorem fm_neg : ∀ a, a < 1000 → -(nI a) - -(nI a) / nI 255 * nI 255 = -(nI (a % 255)) := by decide +kernel
theorem fm_ge : ∀ a, a < 255 → 0 ≤ -(nI a) ^^^ nI 255 → -(nI a) = nI ((255 - a) % 255) := by decide +kernel
theorem fm_e : ∀ a, a < 255 → -(nI a) = 0 → -(nI a) = nI ((255 - a) % 255) := by decide +kernel
theorem fm_add : ∀ a, a < 255 → ¬ -(nI a) = 0 → -(nI a) + nI 255 = nI ((255 - a) % 255) := by decide +kernel
end OWN2_NUM
