/-! A call that throws, and its catch -/
section OWN_CATCH
def PostOfT (Qc : Array Value → State → Outcome → State → Prop) (mc ms : Nat) (free : Addr → Prop) : Pt → Array Value → Addr → Pt → Prop := fun A a x B =>
  ∃ (g : JFrame) (mk : MethodId) (t : State) (L : List Loc), B.U.heap = t.heap ∧ B.U.vm = t.vm ∧ Qc a (A.U.calling g mk a) (.threw x) t ∧ B.locs = A.locs ++ L ∧ (∀ q ∈ L, free q.base) ∧ B.cells = A.cells + mc ∧ B.slots = A.slots + ms
theorem backT_of {l : Launch} {R : Room} {p : Program} {e : Env} {below : List Frame} {s : State} {sargs : Array Value} {y : MethodName} {len W : Nat} {ws : List Cond} {rm : Room} {Pc : Array Value → State → Prop} {Qc : Array Value → State → Outcome → State → Prop} {mc ms : Nat} {free : Addr → Prop} {bytes : ByteArray} {maxL : Nat} {ret : Option FieldType}
    (hM : MetT l y ws rm Pc Qc mc ms free) (hblind : FrameBlind Pc) (hrc : rm.cells = mc) (hrs : rm.slots = ms) (hframes : rm.frames + 1 ≤ R.frames) (hlocals : W + (maxL + 11) + rm.locals ≤ R.locals)
    (hws : ∀ w ∈ ws, ∀ a' U, s.WarmedH U.vm → w.before a' U = true) (hcode : Cond.code y bytes maxL ret ∈ ws) (hinit : ∀ a' U, s.WarmedH U.vm → (Cond.initialized y.cls).before a' U = true) :
    BackT l R p e below s sargs y len W (PreOf R mc ms Pc) (PostOfT Qc mc ms free) := by
  refine BackT.of_free (S := headSpec ws rm) (P := Pc) (K := fun _ _ _ _ _ => True) (Q := fun a st o t => Qc a st o t ∧ ∃ L, FrameEndT st o t L mc ms ∧ ∀ q ∈ L, free q.base) (bytes := bytes) (maxL := maxL) (ret := ret)
    (E := fun a st o t L k n => k = mc ∧ n = ms ∧ ∀ q ∈ L, free q.base) hM hframes hlocals ?_ ?_ (fun _ _ _ _ _ _ _ _ _ => trivial) ?_ ?_
  · intro m meth c A a X hp
    exact ⟨atoms_intro fun w hw => hws w hw _ _ X.warmed, hws _ hcode _ _ X.warmed, hinit _ _ X.warmed, by rw [show (headSpec ws rm).room.cells = mc from hrc]; exact hp.1, by rw [show (headSpec ws rm).room.slots = ms from hrs]; exact hp.2.1⟩
  · intro m meth c A a g mk X hp
    exact hblind _ _ _ _ hp.2.2
  · intro a st o t ⟨hq, L, hF, hL⟩
    exact ⟨L, mc, ms, hF, rfl, rfl, hL⟩
  · intro m meth c A a g mk v t L k n X hp hq hF ⟨e1, e2, hL⟩
    subst e1; subst e2
    exact ⟨g, mk, t, L, rfl, rfl, hq.1, rfl, hL, rfl, rfl⟩
variable {p : Program} {l : Launch} {e : Env} {R : Room} {s : State} {m : MethodId} {args : Array Value} {below : List Frame} {meth : Method} {c : Code} {H : Heap} {locs : List Loc} {cells slots : Nat} {Q : State → Prop}
variable {cc : ByteArray} {pc : Nat} {ls : Array Slot} {rest : List Value} {D : va_G} {A : Nat → Prop} {tys tys2 : List (ClassId × FieldType)} {ws wc wr w1 : va_W} {t : Nat → Nat}
/-- a virtual call that throws, caught in the calling method -/
theorem q_catchV {c0 : Cond} {own C cls : String} {T : u_T} {N ci q0 : Nat} {fs : List Value} {index maxL n nL mc ms : Nat} {y : MethodName} {bytes : ByteArray} {ret : Option FieldType} {rm : Room} {b : Nat} {As st0 : List Value} (S : CallFix p m c cc nL s args (c0 :: WS) own)
    (hM : MetT l y (Cond.code y bytes maxL ret :: WS) rm (va_Pc (.ref b :: As) (twP t D wc tys2 H.size)) (tQ D cls w1 wc H.size) mc ms (va_A wc H.size))
    (hSt : SB t A s s.heap) (hTB : TB A s s.heap) (hK : va_K D classes tys s) (hK2 : va_K D classes tys2 s) (hP : va_P D classes ws H) (hD : va_D A ws) (hA : ∀ q, s.heap.size ≤ q → A q) (he : ws[q0]? = some (b, .inr (ci, fs))) (hc : classes[ci]? = some (C, T, N)) (isC isR : List Nat) (hC : isC.map (fun i => ws[i]?) = wc.map some) (hnC : va_nd isC = true) (hRr : isR.map (fun i => ws[i]?) = wr.map some) (hnd : va_nd isR = true) (hdis : ∀ i ∈ isR, i ∉ isC)
    (g : GoodIn (c0 :: WS) (wsV own index C y (Cond.code y bytes maxL ret :: WS)))
    (hd : y.cls ≠ "java/lang/invoke/MethodHandle" ∧ y.cls ≠ "java/lang/invoke/VarHandle" ∧ (parseMethodDescriptor y.desc).map (fun d => d.parameters.length) = some n) (hcl : y.cls = C) (hrc : rm.cells = mc) (hrs : rm.slots = ms) (hR : rm.frames + 1 ≤ R.frames ∧ 8 + (maxL + 11) + rm.locals ≤ R.locals)
    (hn : As.length = n) (hsize : ls.size = nL) (hst : st0 = As.reverse ++ .ref b :: rest) (hW : (rest.map fun v => v.category).sum ≤ 8) (hdg : decode cc pc = .ok (.invokevirtual index, 3)) (hf : cells + mc ≤ R.cells ∧ slots + ms ≤ R.slots) (hS : va_S A s.heap H locs)
    (pre : List ExceptionTableEntry) (x : ExceptionTableEntry) (post : List ExceptionTableEntry) (htab : c.exceptionTable.toList = pre ++ x :: post) (hpass : ∀ z ∈ pre, z.catchType ≠ 0 ∧ ∃ nm : String, Cond.classLink own z.catchType nm ∈ WS ∧ (Cond.not (.castable cls nm)).before args s = true)
    (hcov : covers x pc = true) (h0 : x.catchType ≠ 0) (hlk : Cond.classLink own x.catchType cls ∈ WS) (hcast : (Cond.castable cls cls).before args s = true)
    (kk : ∀ (a : Nat) (H1 : Heap) (locs1 : List Loc), va_P D classes (wr ++ w1) H1 → va_D A (wr ++ w1) → va_S A s.heap H1 locs1 → W p l e R s m args below meth c H1 locs1 (cells + mc) (slots + ms) Q (F0 m x.handlerPc ls [.ref a])) : W p l e R s m args below meth c H locs cells slots Q (F0 m pc ls st0) := by
  have hPc := hP.sub isC (q_subm hC)
  have hDc := hD.sub isC hnC hC
  have hFc := va_free (wc := wc) hD hS hA isC hC
  obtain ⟨⟨-, -, hfr, hlo, hws, hcm, hcode, hini, hy, hlen, hl⟩, hin, hse⟩ := cwV n S.2.2.2.2 g rfl hrc hrs ⟨hcl, hd⟩ hR
  obtain ⟨hx, hb, hml, hown, hts⟩ := S
  obtain ⟨cellB, hcB, hoB, hclB⟩ := va_recv hK hP hc he
  intro T0 hT X
  have hBk : BackT l R p e below s args y 3 8 (PreOf R mc ms (va_Pc (.ref b :: As) (twP t D wc tys2 H.size))) (PostOfT (tQ D cls w1 wc H.size) mc ms (va_A wc H.size)) :=
    backT_of (bytes := bytes) (maxL := maxL) (ret := ret) hM twP_blind hrc hrs hfr hlo hws hcm (fun a' U hW => word_at hW (Or.inl (by first | rfl | simp [Cond.onTables, Cond.keeps, Cond.steady])) hini)
  obtain ⟨mk, methM, hnamed, hmethM, hstM, habM⟩ := Cond.instanceMethod_spec hin
  obtain ⟨methM', cM, hmethM', -, -, -, -, -, -, hsigM⟩ := Cond.code_spec hnamed hcode
  cases hmethM.symm.trans hmethM'
  obtain ⟨c2, r2, m2, q1, q2, q3, q4, kP, hkP, hkPi⟩ := Cond.selects_spec hse
  cases hclB.symm.trans q1
  cases (State.methodFound?_of_named hnamed hy).symm.trans q2
  cases hnamed.symm.trans q3
  have hselP : selectMethod e.platform s.vm cellB.cls mk = .method mk := by rw [Launch.admits_selectMethod X.admits]; exact q4
  obtain ⟨vm₁, X₁, hstep₁⟩ := X.invokevirtual hx hown hl hnamed hmethM hstM hkP hkPi hy (a := b) (cell := cellB) (by rw [hT]; exact hcB)
    (fun z h => by rw [h] at hoB; cases hoB) hselP hmethM habM hkP hkPi (g := F0 m pc ls st0) rfl (argsL := As) (rest := rest) (hn.trans (hlen _ hsigM)) hst (by rw [hb]; exact hdg)
  obtain ⟨xa, B, X', ⟨g', mk', t9, L, e1, e2, hq, h1, hL, h2, h3⟩, hsteps⟩ := hBk m meth c ⟨T0.setVm vm₁, locs, cells, slots⟩ { F0 m pc ls st0 with stack := rest } (.invokevirtual index) mk (Value.ref b :: As).toArray X₁ rfl (hsize.trans hml.symm) (by rw [hb]; exact hdg) (lv_room hW) (X₁.named hnamed)
    ⟨hf.1, hf.2, rfl, ⟨⟨by show va_P D classes wc T0.heap; rw [hT]; exact hPc, va_K.moved X₁.warmed.alike hK2, hDc.weaken (fun _ _ _ _ => trivial), by show T0.heap.size = H.size; rw [hT]⟩, SB_at hSt hS X₁.warmed (show (T0.setVm vm₁).heap = H from hT) hFc⟩, TB_at hTB hS X₁.warmed (show (T0.setVm vm₁).heap = H from hT) hFc⟩
  obtain ⟨U', l2, c2', s2⟩ := B
  dsimp only [Pt.U, Pt.locs, Pt.cells, Pt.slots] at X' e1 e2 h1 h2 h3 hsteps
  subst h1; subst h2; subst h3
  obtain ⟨⟨xa', ce, hxe, hce, hcc, hcv, hP1, hD1⟩, hz, hk⟩ := hq
  cases hxe
  have hsm : ∀ q : Nat, q < H.size → ¬ va_A wc H.size q → U'.heap[q]? = H[q]? := fun q a1 a2 => by
    rw [e1, ← hT]; exact hk q (by show q < T0.heap.size; rw [hT]; exact a1) a2
  have hzz : H.size ≤ U'.heap.size := by rw [e1, ← hT]; exact hz
  have hfc : s.vm.findClass cls = some ce.cls := by
    have : (T0.setVm vm₁).vm.findClass cls = some ce.cls := hcc
    rwa [X₁.warmed.alike.findClass] at this
  obtain ⟨c3, cT, hc3, hcT, hasg⟩ := Cond.castable_spec hcast
  cases hfc.symm.trans hc3
  obtain ⟨hend, hk0⟩ := X'.catches_of_link hown h0 (hts _ (List.mem_cons_of_mem _ hlk)) hcT hasg
  obtain ⟨vm', XV, hcome⟩ := X'.thenCaughtThrough xa (g := { F0 m pc ls st0 with stack := rest }) rfl hsteps (cell := ce) (by rw [e1]; exact hce) (by rw [hcv]; rfl) hk0 pre x post htab
    (fun z hz9 => by obtain ⟨z1, nm, z2, z3⟩ := hpass z hz9; exact RowPassed.of_words (by rw [X.admits.platform]) hown z1 (hts _ (List.mem_cons_of_mem _ z2)) hfc z3) hcov hend
  obtain ⟨hP9, hD9⟩ := va_join hP hD isC isR hC hRr hnd hdis hsm hFc (by rw [e1]; exact hP1) hD1
  obtain ⟨tt, a1, b1⟩ := kk xa U'.heap (locs ++ L) hP9 hD9 ⟨Nat.le_trans hS.1 hzz, fun q a1 a2 => (hsm q (Nat.lt_of_lt_of_le a1 hS.1) (fun z => a2 (hFc q z))).trans (hS.2.1 q a1 a2), fun q hq9 => by
      rcases List.mem_append.mp hq9 with h | h
      · exact hS.2.2 q h
      · exact hFc _ (hL q h)⟩ (U'.setVm vm') rfl XV
  refine ⟨tt, hstep₁ _ (fun acts => ?_), b1⟩
  rw [doInvoke_state]
  exact hcome.trans a1
/-- a static call of a method with an exception table -/
theorem q_runSW {c0 : Cond} {own : String} {index maxL n nL mc ms : Nat} {y : MethodName} {bytes : ByteArray} {ret : Option FieldType} {hh : List (Nat × Nat × Nat × Nat)} {rm : Room} {Pc : Array Value → State → Prop} {Qc : Array Value → State → Outcome → State → Prop} {free : Addr → Prop} {As st0 : List Value} (S : CallFix p m c cc nL s args (c0 :: WS) own) (hM : Met l y (Cond.codeWith y bytes maxL ret hh :: WS) rm Pc Qc mc ms free) (hblind : FrameBlind Pc)
    (hrc : rm.cells = mc) (hrs : rm.slots = ms) (hR : rm.frames + 1 ≤ R.frames ∧ 8 + (maxL + 11) + rm.locals ≤ R.locals) (hcw : Cond.codeWith y bytes maxL ret hh ∈ WS) (hlk : Cond.methodLink own index y ∈ WS) (hst : Cond.static y ∈ WS) (hin : Cond.initialized y.cls ∈ WS)
    (hd : y.cls ≠ "java/lang/invoke/MethodHandle" ∧ y.cls ≠ "java/lang/invoke/VarHandle" ∧ (parseMethodDescriptor y.desc).map (fun d => d.parameters.length) = some n) (hp : ∀ U : State, U.heap = H → s.WarmedH U.vm → Pc As.toArray U)
    (hn : As.length = n) (hsize : ls.size = nL) (hst0 : st0 = As.reverse ++ rest) (hW : (rest.map fun v => v.category).sum ≤ 8) (hdg : decode cc pc = .ok (.invokestatic index, 3)) (hf : cells + mc ≤ R.cells ∧ slots + ms ≤ R.slots) : va_Run p l e R s m args below meth c H locs cells slots mc ms (F0 m pc ls st0) rest (Qc As.toArray) free := by
  obtain ⟨hx, hb, hml, hown, hts⟩ := S
  have hin' := hts _ (List.mem_cons_of_mem _ hin)
  have hK : Back l R p e below s args y 3 8 (PreOf R mc ms Pc) (PostOf Qc mc ms free) := va_backW (hh := hh) (bytes := bytes) (maxL := maxL) (ret := ret) hM hblind hrc hrs hR.1 hR.2 (fun w hw a' U hW => by
      rcases List.mem_cons.mp hw with rfl | hw
      · exact word_at hW (WS_good _ hcw) (hts _ (List.mem_cons_of_mem _ hcw))
      · exact word_at hW (WS_good _ hw) (hts _ (List.mem_cons_of_mem _ hw))) List.mem_cons_self (fun a' U hW => word_at hW (WS_good _ hin) hin')
  intro T hT X
  obtain ⟨m9, methM, cM, hnamed, hmethM, -, -, -, -, -, -, hsig⟩ := Cond.codeWith_spec (hts _ (List.mem_cons_of_mem _ hcw))
  have hstatic : methM.isStatic = true := Cond.static_spec hnamed hmethM (hts _ (List.mem_cons_of_mem _ hst))
  obtain ⟨kP, hkP, -⟩ := className_of_methodNamed hnamed
  have hinitP : kP.init = .initialized := Cond.initialized_spec (findClass_of_methodNamed hnamed) hkP hin'
  have hlen : As.length = methM.sig.parameters.length := by
    have h2 := hd.2.2
    rw [hsig] at h2
    exact hn.trans (Option.some.inj h2).symm
  obtain ⟨vm₁, X₁, hstep₁⟩ := X.invokestatic hx hown (hts _ (List.mem_cons_of_mem _ hlk)) hnamed hmethM hstatic hkP hinitP ⟨hd.1, hd.2.1⟩ (g := F0 m pc ls st0) rfl (argsL := As) (rest := rest) hlen hst0 (by rw [hb]; exact hdg)
  obtain ⟨v, B, X', ⟨g', mk, t, L, e1, e2, hq, h1, hL, h2, h3⟩, hsteps⟩ := hK m meth c ⟨T.setVm vm₁, locs, cells, slots⟩ { F0 m pc ls st0 with stack := rest } (.invokestatic index) m9 As.toArray X₁ rfl (hsize.trans hml.symm) (by rw [hb]; exact hdg) (lv_room hW) (X₁.named hnamed) ⟨hf.1, hf.2, hp _ hT X₁.warmed⟩
  obtain ⟨U', l2, c2, s2⟩ := B
  dsimp only [Pt.U, Pt.locs, Pt.cells, Pt.slots] at X' e1 e2 h1 h2 h3 hsteps
  subst h1; subst h2; subst h3
  exact ⟨v, (T.setVm vm₁).calling g' mk As.toArray, t, U', L, hT, X', hL, e1, e2, hq, fun target h => hstep₁ _ fun acts => by rw [doInvoke_state]; exact hsteps.trans h⟩
theorem q_writeSW {c0 : Cond} {own : String} {index maxL n nL mc ms : Nat} {y : MethodName} {bytes : ByteArray} {ret : Option FieldType} {hh : List (Nat × Nat × Nat × Nat)} {rm : Room} {As st0 : List Value} {v : Int32} (S : CallFix p m c cc nL s args (c0 :: WS) own) (hM : Met l y (Cond.codeWith y bytes maxL ret hh :: WS) rm (va_Pc As (twP t D wc tys H.size)) (wQi D v wc w1 H.size) mc ms (va_A wc H.size))
    (hSt : SB t A s s.heap) (hTB : TB A s s.heap) (hK : va_K D classes tys s) (hP : va_P D classes ws H) (hD : va_D A ws) (hA : ∀ q, s.heap.size ≤ q → A q) (isC isR : List Nat) (hC : isC.map (fun i => ws[i]?) = wc.map some) (hnC : va_nd isC = true) (hRr : isR.map (fun i => ws[i]?) = wr.map some) (hnd : va_nd isR = true) (hdis : ∀ i ∈ isR, i ∉ isC) (hw1 : wc.map Prod.fst = w1.map Prod.fst)
    (hrc : rm.cells = mc) (hrs : rm.slots = ms) (hR : rm.frames + 1 ≤ R.frames ∧ 8 + (maxL + 11) + rm.locals ≤ R.locals) (hcw : Cond.codeWith y bytes maxL ret hh ∈ WS) (hlk : Cond.methodLink own index y ∈ WS) (hst : Cond.static y ∈ WS) (hin : Cond.initialized y.cls ∈ WS)
    (hd : y.cls ≠ "java/lang/invoke/MethodHandle" ∧ y.cls ≠ "java/lang/invoke/VarHandle" ∧ (parseMethodDescriptor y.desc).map (fun d => d.parameters.length) = some n)
    (hn : As.length = n) (hsize : ls.size = nL) (hst0 : st0 = As.reverse ++ rest) (hW : (rest.map fun v => v.category).sum ≤ 8) (hdg : decode cc pc = .ok (.invokestatic index, 3)) (hf : cells + mc ≤ R.cells ∧ slots + ms ≤ R.slots) (hS : va_S A s.heap H locs)
    (kk : ∀ (H1 : Heap) (locs1 : List Loc), va_P D classes (wr ++ w1) H1 → va_D A (wr ++ w1) → va_S A s.heap H1 locs1 → W p l e R s m args below meth c H1 locs1 (cells + mc) (slots + ms) Q (F0 m (pc + 3) ls (.int v :: rest))) : W p l e R s m args below meth c H locs cells slots Q (F0 m pc ls st0) := by
  have hPc := hP.sub isC (q_subm hC)
  have hDc := hD.sub isC hnC hC
  have hFc := va_free (wc := wc) hD hS hA isC hC
  refine va_calli (q_runSW S hM twP_blind hrc hrs hR hcw hlk hst hin hd (fun U hU hW => ⟨rfl, ⟨⟨by rw [hU]; exact hPc, va_K.moved hW.alike hK, hDc.weaken (fun _ _ _ _ => trivial), by rw [hU]⟩, SB_at hSt hS hW hU hFc⟩, TB_at hTB hS hW hU hFc⟩) hn hsize hst0 hW hdg hf) hS (fun q _ h => hFc q h) hFc (fun r u t H1 locs1 ht hvm hw hB hz1 hk1 hS1 => ?_)
  cases hw
  rw [ht] at hB
  obtain ⟨hP9, hD9⟩ := va_join hP hD isC isR hC hRr hnd hdis hk1 hFc hB (n_D hDc.self hw1)
  exact kk H1 locs1 hP9 hD9 hS1
theorem rg_map (x : Nat × va_E) (wc : va_W) : ((List.range wc.length).map (· + 1)).map (fun i => (x :: wc)[i]?) = wc.map some := by
  apply List.ext_getElem?
  intro i
  by_cases h : i < wc.length
  · simp [h]
  · simp [h]
theorem nd_of : ∀ l : List Nat, l.Nodup → va_nd l = true := by
  intro l
  induction l with
  | nil => intro _; rfl
  | cons a l ih =>
    intro h
    rw [List.nodup_cons] at h
    simp [va_nd, ih h.2, h.1]
theorem rg_nd (n : Nat) : va_nd ((List.range n).map (· + 1)) = true := by
  apply nd_of
  rw [List.Nodup, List.pairwise_map]
  exact (List.nodup_range (n := n)).imp (fun h z => h (by omega))
theorem rg_dis (n : Nat) : ∀ i ∈ [0], i ∉ (List.range n).map (· + 1) := by
  intro i hi h
  simp only [List.mem_singleton] at hi
  simp only [List.mem_map] at h
  obtain ⟨j, -, hj⟩ := h
  omega
end OWN_CATCH
