/-! A call that throws, and its catch -/
section OWN_CATCH
/-- a row of the table that covers the place: its class is linked as it is asked; it takes what can be assigned to that class -/
theorem hd_row {Q : Handler → Pre} {E : CtlPost} {e : Env} {d : Bool} {acts : List Action} {s : State} {f : JFrame} {a : Addr} {x : ExceptionTableEntry} {t : List ExceptionTableEntry} {c : ClassId} {cell : Cell} (hx : covers x f.pc = true) (h0 : x.catchType ≠ 0) (hl : s.vm.ClassLinks e.platform f.method.cls x.catchType c) (hcell : s.heap[a]? = some cell) (hobj : ∀ k, cell.vm ≠ .statics k) (hk : ∃ k, s.vm.classes[cell.cls]? = some k) (hc : ∃ k, s.vm.classes[c]? = some k) :
    wp (findHandler.go f a (x :: t)) Q E e d acts s ↔ if s.vm.assignable cell.cls c = true then Q (.found x.handlerPc) d acts (s.setVm (s.vm.noted f.method.cls x.catchType (.cls c))) else wp (findHandler.go f a t) Q E e d acts (s.setVm (s.vm.noted f.method.cls x.catchType (.cls c))) := by
  have hx2 := hx
  simp only [covers] at hx2
  have hal : s.vm.Alike (s.vm.noted f.method.cls x.catchType (.cls c)) := (Vm.Alike.refl s.vm).noted _ _ _
  obtain ⟨o1, o2⟩ := (resolveClass_links e.toSetting hl).op (op := VmOp.resolveClass f.method.cls x.catchType) rfl
  obtain ⟨u1, e1⟩ := hk
  obtain ⟨u2, e2⟩ := hc
  obtain ⟨v1, f1, -⟩ := hal.2.2 _ _ e1
  obtain ⟨v2, f2, -⟩ := hal.2.2 _ _ e2
  have hs : (s.vm.noted f.method.cls x.catchType (.cls c)).assignable cell.cls c = s.vm.assignable cell.cls c := by rw [hal.assignable]
  cases h : s.vm.assignable cell.cls c with
  | true => rw [h] at hs; simp [findHandler.go, hx2, h0, o1, o2, hcell, hobj, f1, f2, hs, VmOp.dirties, VmOp.acts]
  | false => rw [h] at hs; simp [findHandler.go, hx2, h0, o1, o2, hcell, hobj, f1, f2, hs, VmOp.dirties, VmOp.acts]
/-- the search: through rows that cover the place and don't take it, to one that does -/
theorem hd_go {e : Env} {s₀ : State} {f : JFrame} {a : Addr} {cell : Cell} (hobj : cell.vm.isStatics = false) {x : ExceptionTableEntry} {post : List ExceptionTableEntry} {cx : ClassId} (hx : covers x f.pc = true) (h0 : x.catchType ≠ 0) (hlx : s₀.vm.ClassLinks e.platform f.method.cls x.catchType cx) (hfit : s₀.vm.assignable cell.cls cx = true) :
    ∀ (pre : List ExceptionTableEntry), (∀ y ∈ pre, covers y f.pc = true ∧ y.catchType ≠ 0 ∧ ∃ c, s₀.vm.ClassLinks e.platform f.method.cls y.catchType c ∧ s₀.vm.assignable cell.cls c = false) → ∀ S : State, s₀.WarmedH S.vm → S.heap[a]? = some cell →
      ∃ vm', s₀.WarmedH vm' ∧ ∀ (Q : Handler → Pre) (E : CtlPost) (d : Bool) (acts : List Action), wp (findHandler.go f a (pre ++ x :: post)) Q E e d acts S ↔ Q (.found x.handlerPc) d acts (S.setVm vm') := by
  have up : ∀ {S : State} {i : ClassId}, s₀.WarmedH S.vm → (∃ k, s₀.vm.classes[i]? = some k) → ∃ k, S.vm.classes[i]? = some k := fun hW h => by
    obtain ⟨k, hk⟩ := h
    obtain ⟨k', hk', -⟩ := hW.alike.2.2 _ _ hk
    exact ⟨k', hk'⟩
  obtain ⟨dk, w1, w2, kx, dx1, w3, w4, w5, w6, dx2, w7, dx3⟩ := hlx.here
  have hk0 : ∃ k, s₀.vm.classes[cell.cls]? = some k := Vm.classAt_of_assignable hfit ⟨kx, dx2⟩
  intro pre
  induction pre with
  | nil =>
    intro _ S hW hcell
    refine ⟨_, hW.noted dx1 dx3 (State.rightAt_cls hlx), fun Q E d acts => ?_⟩
    rw [List.nil_append, hd_row hx h0 (hW.classLinks hlx) hcell (VmData.ne_statics_of hobj) (up hW hk0) (up hW ⟨kx, dx2⟩), if_pos (by rw [hW.alike.assignable]; exact hfit)]
  | cons y ys ih =>
    intro hp S hW hcell
    obtain ⟨y1, y2, cy, y3, y4⟩ := hp y List.mem_cons_self
    obtain ⟨dy, v1, v2, ky, z1, v3, v4, v5, v6, z2, v7, z3⟩ := y3.here
    obtain ⟨vm', hW', hq⟩ := ih (fun z hz => hp z (List.mem_cons_of_mem _ hz)) (S.setVm (S.vm.noted f.method.cls y.catchType (.cls cy))) (hW.noted z1 z3 (State.rightAt_cls y3)) hcell
    refine ⟨vm', hW', fun Q E d acts => ?_⟩
    rw [List.cons_append, hd_row y1 y2 (hW.classLinks y3) hcell (VmData.ne_statics_of hobj) (up hW hk0) (up hW ⟨ky, z2⟩), if_neg (by rw [hW.alike.assignable, y4]; exact Bool.false_ne_true)]
    exact hq Q E d acts
/-- a search that ends at pc: the frame goes on there, what is thrown alone on its stack -/
theorem hd_step {tb : Tables} {e : Env} {s target : State} {g : JFrame} {c : Code} {below : List Frame} {a : Addr} {pc : Nat} {vm' : Vm} (h : At s g.method c below)
    (hf : ∀ (Q : Handler → Pre) (E : CtlPost) (d : Bool) (acts : List Action), wp (findHandler g a) Q E e d acts ((s.setTop g).pushFrame (.throwing a)) ↔ Q (.found pc) d acts (((s.setTop g).pushFrame (.throwing a)).setVm vm'))
    (hr : Steps tb e below ((s.setVm vm').setTop { g with pc := pc, stack := [.ref a] }) target) : Steps tb e below ((s.setTop g).pushFrame (.throwing a)) target := by
  have hs : (stepThrowing e ((s.setTop g).pushFrame (.throwing a)) a (.java g :: s.frames.tail)).Is ((((s.setTop g).pushFrame (.throwing a)).setVm vm').setFrames (.java { g with pc := pc, stack := [.ref a] } :: s.frames.tail)) [] := by
    simp only [stepThrowing, searchFrame, vmDo]
    generalize hres : Sem.go _ e false [] ((s.setTop g).pushFrame (.throwing a)) = res
    obtain ⟨as, rfl, has⟩ := Sem.eq_ok_of hres (a := Handler.found pc) (s' := ((s.setTop g).pushFrame (.throwing a)).setVm vm') (acts' := []) (by simp [hf _ _ _ _])
    exact ⟨rfl, has⟩
  obtain ⟨hgo, hin⟩ := h.throwing a
  refine Steps.head hgo hin ?_
  rw [stepThread_throwing (frames_entered h.top _), hs.1]
  obtain ⟨g0, hg0⟩ := Option.isSome_iff_exists.mp h.top
  obtain ⟨r, hr0⟩ := State.topJava?_eq_some.mp hg0
  have e1 : (((s.setTop g).pushFrame (.throwing a)).setVm vm').setFrames (.java { g with pc := pc, stack := [.ref a] } :: s.frames.tail) = (s.setVm vm').setTop { g with pc := pc, stack := [.ref a] } := by
    have hr1 : (s.setVm vm').frames = .java g0 :: r := hr0
    rw [State.setTop_of_frames _ hr1, hr0, List.tail_cons, State.pushFrame, State.setTop_of_frames _ hr0]
    show (((s.setVm vm').setFrames _).setFrames _).setFrames _ = _
    rw [State.setFrames_setFrames, State.setFrames_setFrames]
  rw [e1]
  exact hr
section CALLT
variable {p : Program} {l : Launch} {e : Env} {R : Room} {s : State} {m : MethodId} {args : Array Value} {below : List Frame} {meth : Method} {c : Code} {U : State} {locs : List Loc} {cells slots : Nat}
/-- a call of a method that throws: what is thrown lies over the caller's frame -/
theorem call_thr {y : MethodName} {ws : List Cond} {rm : Room} {Pc : Array Value → State → Prop} {Qc : Array Value → State → Outcome → State → Prop} {mc ms : Nat} {free : Addr → Prop} {bytes : ByteArray} {maxL : Nat} {ret : Option FieldType} (hM : MetT l y ws rm Pc Qc mc ms free) (X : Stand p l e R s m args below meth c U locs cells slots)
    {g : JFrame} (hg : g.method = m) (hsize : g.locals.size = c.maxLocals) {ig : Instr} {len : Nat} (hdg : decode c.code g.pc = .ok (ig, len)) {mk : MethodId} (hn : U.methodNamed? y = some mk) {a : Array Value}
    (hfr : rm.frames + 1 ≤ R.frames) (hlo : 2 * g.monitorRoom + (g.stack.map fun v => v.category).sum + (maxL + 11) + rm.locals ≤ R.locals) (hce : cells + rm.cells ≤ R.cells) (hsl : slots + rm.slots ≤ R.slots) (hw : ∀ w ∈ ws, w.before a U = true) (hcode : (Cond.code y bytes maxL ret).before a U = true) (hini : (Cond.initialized y.cls).before a U = true) (hP : Pc a (U.calling g mk a)) :
    ∃ (x : Addr) (t U' : State) (L : List Loc), Stand p l e R s m args below meth c U' (locs ++ L) (cells + mc) (slots + ms) ∧ U'.heap = t.heap ∧ Qc a (U.calling g mk a) (.threw x) t ∧ (∀ q ∈ L, free q.base) ∧ Steps p.tables e below (doInvoke e (U.setTop g) [] mk a).1 ((U'.setTop g).pushFrame (.throwing x)) := by
  subst hg
  have hat : At U g.method c below := X.here
  obtain ⟨mY, cY, q1, q2, -, q3, -⟩ := Cond.code_spec hn hcode
  obtain ⟨kY, hkY, -⟩ := className_of_methodNamed hn
  have hrip : kY.init = .initialized := Cond.initialized_spec (findClass_of_methodNamed hn) hkY hini
  have hroom : (U.calling g mk a).hasRoom e.platform (headSpec ws rm).room = true := X.room_calling (g := g) hsize q1 q2 hfr (by rw [q3]; exact hlo) hce hsl
  have happ := Spec.appliesLoose_calling (S := headSpec ws rm) (e := e) (g := g) (args := a) hat hdg hn hkY hrip hroom (atoms_intro hw)
  obtain ⟨mid, hmid⟩ := hat.above
  have hfs : (U.setTop g).frames = (.java g :: mid) ++ below := by rw [State.frames_setTop' g hat.top, hmid]; rfl
  obtain ⟨o, t, hsteps, -, hend, hq, L, ⟨⟨x, rfl⟩, hWt, hsame⟩, hL⟩ := Steps.callFree hM p X.admits X.cas X.clock (acts := []) hfs happ hP trivial
  have hend2 : t.frames = .throwing x :: .java g :: U.frames.tail := by rw [State.frames_setTop' g hat.top] at hend; exact hend
  have hWU : U.WarmedH t.vm := hWt
  obtain ⟨g0, hg0⟩ := Option.isSome_iff_exists.mp hat.top
  obtain ⟨r, hr0⟩ := State.topJava?_eq_some.mp hg0
  obtain ⟨s1, s2, s3, s4, s5, s6⟩ := hsame
  have hs1 : U.sameButNew ({ U with heap := t.heap, slotsUsed := t.slotsUsed } : State) L mc ms := by
    refine ⟨?_, s2, s3, s4, s5, s6⟩
    obtain ⟨th, hth, -⟩ := State.frames_cons hr0
    show ({ U with heap := t.heap, slotsUsed := t.slotsUsed } : State) = { U.setFrames U.frames with heap := t.heap, slotsUsed := t.slotsUsed }
    rw [State.setFrames_self hth]
  have ht : t = ((({ U with heap := t.heap, slotsUsed := t.slotsUsed } : State).setVm t.vm).setTop g).pushFrame (.throwing x) := by
    have a1 : t = ({ t with vm := ((U.setTop g).pushFrame (.invoking mk a)).vm } : State).setVm t.vm := rfl
    rw [s1] at a1
    have hr1 : (({ U with heap := t.heap, slotsUsed := t.slotsUsed } : State).setVm t.vm).frames = .java g0 :: r := hr0
    have b1 : ((({ U with heap := t.heap, slotsUsed := t.slotsUsed } : State).setVm t.vm).setTop g).pushFrame (.throwing x) = (({ U with heap := t.heap, slotsUsed := t.slotsUsed } : State).setVm t.vm).setFrames (.throwing x :: .java g :: r) := by
      rw [State.pushFrame, State.frames_setTop _ hr1, State.setTop_of_frames _ hr1, State.setFrames_setFrames]
    rw [b1]
    refine a1.trans ?_
    show ({ (U.calling g mk a).setFrames t.frames with heap := t.heap, slotsUsed := t.slotsUsed } : State).setVm t.vm = _
    rw [hend2, State.calling_eq hat.top, State.setFrames_setFrames, hr0]
    rfl
  refine ⟨x, t, ({ U with heap := t.heap, slotsUsed := t.slotsUsed } : State).setVm t.vm, L, ?_, rfl, hq, hL, ?_⟩
  · exact { X with here := (X.here.setHeapUsed t.heap t.slotsUsed).setVm hWU.alike, warmed := State.WarmedH.trans X.warmed hWU, same := X.same.trans (hs1.setVm s.vm) }
  · rw [← ht]; exact hsteps
end CALLT
variable {p : Program} {l : Launch} {e : Env} {R : Room} {s : State} {m : MethodId} {args : Array Value} {below : List Frame} {meth : Method} {c : Code} {H : Heap} {locs : List Loc} {cells slots : Nat} {Q : State → Prop}
variable {cc : ByteArray} {pc : Nat} {ls : Array Slot} {rest : List Value} {D : va_G} {A : Nat → Prop} {tys tys2 : List (ClassId × FieldType)} {ws wc wr w1 : va_W} {t : Nat → Nat}
/-- a virtual call that throws, caught in the calling method -/
theorem q_catchV {c0 : Cond} {own C cls : String} {T : u_T} {N ci q0 : Nat} {fs : List Value} {index maxL n nL mc ms : Nat} {y : MethodName} {bytes : ByteArray} {ret : Option FieldType} {rm : Room} {b : Nat} {As st0 : List Value} (S : CallFix p m c cc nL s args (c0 :: WS) own)
    (hM : MetT l y (Cond.code y bytes maxL ret :: WS) rm (va_Pc (.ref b :: As) (twP t D wc tys2 H.size)) (tQ D cls w1 wc H.size) mc ms (va_A wc H.size))
    (hSt : SB t A s s.heap) (hTB : TB A s s.heap) (hK : va_K D classes tys s) (hK2 : va_K D classes tys2 s) (hP : va_P D classes ws H) (hD : va_D A ws) (hA : ∀ q, s.heap.size ≤ q → A q) (he : ws[q0]? = some (b, .inr (ci, fs))) (hc : classes[ci]? = some (C, T, N)) (isC isR : List Nat) (hC : isC.map (fun i => ws[i]?) = wc.map some) (hnC : va_nd isC = true) (hRr : isR.map (fun i => ws[i]?) = wr.map some) (hnd : va_nd isR = true) (hdis : ∀ i ∈ isR, i ∉ isC)
    (g : GoodIn (c0 :: WS) (wsV own index C y (Cond.code y bytes maxL ret :: WS)))
    (hd : y.cls ≠ "java/lang/invoke/MethodHandle" ∧ y.cls ≠ "java/lang/invoke/VarHandle" ∧ (parseMethodDescriptor y.desc).map (fun d => d.parameters.length) = some n) (hcl : y.cls = C) (hrc : rm.cells = mc) (hrs : rm.slots = ms) (hR : rm.frames + 1 ≤ R.frames ∧ 8 + (maxL + 11) + rm.locals ≤ R.locals)
    (hn : As.length = n) (hsize : ls.size = nL) (hst : st0 = As.reverse ++ .ref b :: rest) (hW : (rest.map fun v => v.category).sum ≤ 8) (hdg : decode cc pc = .ok (.invokevirtual index, 3)) (hf : cells + mc ≤ R.cells ∧ slots + ms ≤ R.slots) (hS : va_S A s.heap H locs)
    (pre : List ExceptionTableEntry) (x : ExceptionTableEntry) (post : List ExceptionTableEntry) (htab : c.exceptionTable.toList = pre ++ x :: post) (hpass : ∀ z ∈ pre, covers z pc = true ∧ z.catchType ≠ 0 ∧ ∃ nm : String, Cond.classLink own z.catchType nm ∈ WS ∧ (Cond.not (.castable cls nm)).before args s = true)
    (hcov : covers x pc = true) (h0 : x.catchType ≠ 0) (hlk : Cond.classLink own x.catchType cls ∈ WS) (hcast : (Cond.castable cls cls).before args s = true)
    (kk : ∀ (a : Nat) (H1 : Heap) (locs1 : List Loc), va_P D classes (wr ++ w1) H1 → va_D A (wr ++ w1) → va_S A s.heap H1 locs1 → W p l e R s m args below meth c H1 locs1 (cells + mc) (slots + ms) Q (F0 m x.handlerPc ls [.ref a])) : W p l e R s m args below meth c H locs cells slots Q (F0 m pc ls st0) := by
  have hPc := hP.sub isC (q_subm hC)
  have hDc := hD.sub isC hnC hC
  have hFc := va_free (wc := wc) hD hS hA isC hC
  obtain ⟨⟨-, -, hfr, hlo, hws, hcm, hcode, hini, hy, hlen, hl⟩, hin, hse⟩ := cwV n S.2.2.2.2 g rfl hrc hrs ⟨hcl, hd⟩ hR
  obtain ⟨hx, hb, hml, hown, hts⟩ := S
  obtain ⟨cellB, hcB, hoB, hclB⟩ := va_recv hK hP hc he
  intro T0 hT X
  obtain ⟨mk, methM, hnamed, hmethM, hstM, habM⟩ := Cond.instanceMethod_spec hin
  obtain ⟨methM', cM, hmethM', -, -, -, -, -, -, hsigM⟩ := Cond.code_spec hnamed hcode
  cases hmethM.symm.trans hmethM'
  obtain ⟨c2, r2, m2, q1, q2, q3, q4, kP, hkP, hkPi⟩ := Cond.selects_spec hse
  cases hclB.symm.trans q1
  cases (State.methodFound?_of_named hnamed hy).symm.trans q2
  cases hnamed.symm.trans q3
  have hselP : selectMethod e.platform s.vm cellB.cls mk = .method mk := by rw [Launch.admits_selectMethod X.admits]; exact q4
  obtain ⟨vm₁, X₁, hstep₁⟩ := X.invokevirtual hx hown hl hnamed hmethM hstM hkP hkPi hy (a := b) (cell := cellB) (by rw [hT]; exact hcB)
    (fun z h => by rw [h] at hoB; cases hoB) hselP hmethM habM hkP hkPi (g := F0 m pc ls st0) rfl (argsL := As) (rest := rest) (hn.trans (hlen _ hsigM)) hst (by rw [hb]; exact hdg)
  obtain ⟨xa, t9, U', L, X', e1, hq, hL, hsteps⟩ := call_thr (bytes := bytes) (maxL := maxL) (ret := ret) (a := (Value.ref b :: As).toArray) hM X₁ (g := { F0 m pc ls st0 with stack := rest }) rfl (hsize.trans hml.symm) (by rw [hb]; exact hdg) (X₁.named hnamed) hfr (Nat.le_trans (Nat.add_le_add_right (Nat.add_le_add_right (lv_room hW) _) _) hlo) (by rw [hrc]; exact hf.1) (by rw [hrs]; exact hf.2) (fun w hw => hws w hw _ _ X₁.warmed) (hws _ hcm _ _ X₁.warmed) (word_at X₁.warmed (Or.inl (by first | rfl | simp [Cond.onTables, Cond.keeps, Cond.steady])) hini)
    (twP_blind _ _ _ _ ⟨rfl, ⟨⟨by show va_P D classes wc T0.heap; rw [hT]; exact hPc, va_K.moved X₁.warmed.alike hK2, hDc.weaken (fun _ _ _ _ => trivial), by show T0.heap.size = H.size; rw [hT]⟩, SB_at hSt hS X₁.warmed (show (T0.setVm vm₁).heap = H from hT) hFc⟩, TB_at hTB hS X₁.warmed (show (T0.setVm vm₁).heap = H from hT) hFc⟩)
  obtain ⟨⟨xa', ce, hxe, hce, hcc, hcv, hP1, hD1⟩, hz, hk⟩ := hq
  cases hxe
  have hsm : ∀ q : Nat, q < H.size → ¬ va_A wc H.size q → U'.heap[q]? = H[q]? := fun q a1 a2 => by
    rw [e1, ← hT]; exact hk q (by show q < T0.heap.size; rw [hT]; exact a1) a2
  have hzz : H.size ≤ U'.heap.size := by rw [e1, ← hT]; exact hz
  have hfc : s.vm.findClass cls = some ce.cls := by
    have : (T0.setVm vm₁).vm.findClass cls = some ce.cls := hcc
    rwa [X₁.warmed.alike.findClass] at this
  obtain ⟨c3, cT, hc3, hcT, hasg⟩ := Cond.castable_spec hcast
  cases hfc.symm.trans hc3
  have hpl : e.platform.magicAccessors = ({} : Platform).magicAccessors := by rw [X.admits.platform]
  obtain ⟨cx, hcx, hlx⟩ := Cond.classLink_spec hown (hts _ (List.mem_cons_of_mem _ hlk)) e.platform hpl
  cases hcT.symm.trans hcx
  obtain ⟨vm', hV, hgo⟩ := hd_go (e := e) (s₀ := s) (f := { F0 m pc ls st0 with stack := rest }) (a := xa) (cell := ce) (by rw [hcv]; rfl) (post := post) hcov h0 hlx hasg pre (fun z hz9 => by
      obtain ⟨z0, z1, nm, z2, z3⟩ := hpass z hz9
      obtain ⟨cz, hcz, hlz⟩ := Cond.classLink_spec hown (hts _ (List.mem_cons_of_mem _ z2)) e.platform hpl
      refine ⟨z0, z1, cz, hlz, ?_⟩
      have hv := Cond.holds_not_iff.mp z3
      simp only [Cond.value, hfc, hcz] at hv
      exact Option.some.inj hv) ((U'.setTop { F0 m pc ls st0 with stack := rest }).pushFrame (.throwing xa)) X'.warmed (by show U'.heap[xa]? = some ce; rw [e1]; exact hce)
  have XV : Stand p l e R s m args below meth c (U'.setVm vm') (locs ++ L) (cells + mc) (slots + ms) := X'.noted hV
  obtain ⟨hP9, hD9⟩ := va_join hP hD isC isR hC hRr hnd hdis hsm hFc (by rw [e1]; exact hP1) hD1
  obtain ⟨tt, a1, b1⟩ := kk xa U'.heap (locs ++ L) hP9 hD9 ⟨Nat.le_trans hS.1 hzz, fun q a1 a2 => (hsm q (Nat.lt_of_lt_of_le a1 hS.1) (fun z => a2 (hFc q z))).trans (hS.2.1 q a1 a2), fun q hq9 => by
      rcases List.mem_append.mp hq9 with h | h
      · exact hS.2.2 q h
      · exact hFc _ (hL q h)⟩ (U'.setVm vm') rfl XV
  refine ⟨tt, hstep₁ _ (fun acts => ?_), b1⟩
  rw [doInvoke_state]
  refine hsteps.trans (hd_step (g := { F0 m pc ls st0 with stack := rest }) X'.here (fun Q E d acts => ?_) a1)
  rw [W.findHandler_eq X'.method' X'.code, htab]
  exact hgo Q E d acts
/-- a static call of a method with an exception table -/
theorem q_runSW {c0 : Cond} {own : String} {index maxL n nL mc ms : Nat} {y : MethodName} {bytes : ByteArray} {ret : Option FieldType} {hh : List (Nat × Nat × Nat × Nat)} {rm : Room} {Pc : Array Value → State → Prop} {Qc : Array Value → State → Outcome → State → Prop} {free : Addr → Prop} {As st0 : List Value} (S : CallFix p m c cc nL s args (c0 :: WS) own) (hM : Met l y (Cond.codeWith y bytes maxL ret hh :: WS) rm Pc Qc mc ms free) (hblind : FrameBlind Pc)
    (hrc : rm.cells = mc) (hrs : rm.slots = ms) (hR : rm.frames + 1 ≤ R.frames ∧ 8 + (maxL + 11) + rm.locals ≤ R.locals) (hcw : Cond.codeWith y bytes maxL ret hh ∈ WS) (hlk : Cond.methodLink own index y ∈ WS) (hst : Cond.static y ∈ WS) (hin : Cond.initialized y.cls ∈ WS)
    (hd : y.cls ≠ "java/lang/invoke/MethodHandle" ∧ y.cls ≠ "java/lang/invoke/VarHandle" ∧ (parseMethodDescriptor y.desc).map (fun d => d.parameters.length) = some n) (hp : ∀ U : State, U.heap = H → s.WarmedH U.vm → Pc As.toArray U)
    (hn : As.length = n) (hsize : ls.size = nL) (hst0 : st0 = As.reverse ++ rest) (hW : (rest.map fun v => v.category).sum ≤ 8) (hdg : decode cc pc = .ok (.invokestatic index, 3)) (hf : cells + mc ≤ R.cells ∧ slots + ms ≤ R.slots) : va_Run p l e R s m args below meth c H locs cells slots mc ms (F0 m pc ls st0) rest (Qc As.toArray) free := by
  obtain ⟨hx, hb, hml, hown, hts⟩ := S
  have hin' := hts _ (List.mem_cons_of_mem _ hin)
  have hK : Back l R p e below s args y 3 8 (PreOf R mc ms Pc) (PostOf Qc mc ms free) := va_backW (hh := hh) (bytes := bytes) (maxL := maxL) (ret := ret) hM hblind hrc hrs hR.1 hR.2 (fun w hw a' U hW => by
      rcases List.mem_cons.mp hw with rfl | hw
      · exact word_at hW (WS_good _ hcw) (hts _ (List.mem_cons_of_mem _ hcw))
      · exact word_at hW (WS_good _ hw) (hts _ (List.mem_cons_of_mem _ hw))) List.mem_cons_self (fun a' U hW => word_at hW (WS_good _ hin) hin')
  intro T hT X
  obtain ⟨m9, methM, cM, hnamed, hmethM, -, -, -, -, -, -, hsig⟩ := Cond.codeWith_spec (hts _ (List.mem_cons_of_mem _ hcw))
  have hstatic : methM.isStatic = true := Cond.static_spec hnamed hmethM (hts _ (List.mem_cons_of_mem _ hst))
  obtain ⟨kP, hkP, -⟩ := className_of_methodNamed hnamed
  have hinitP : kP.init = .initialized := Cond.initialized_spec (findClass_of_methodNamed hnamed) hkP hin'
  have hlen : As.length = methM.sig.parameters.length := by
    have h2 := hd.2.2
    rw [hsig] at h2
    exact hn.trans (Option.some.inj h2).symm
  obtain ⟨vm₁, X₁, hstep₁⟩ := X.invokestatic hx hown (hts _ (List.mem_cons_of_mem _ hlk)) hnamed hmethM hstatic hkP hinitP ⟨hd.1, hd.2.1⟩ (g := F0 m pc ls st0) rfl (argsL := As) (rest := rest) hlen hst0 (by rw [hb]; exact hdg)
  obtain ⟨v, B, X', ⟨g', mk, t, L, e1, e2, hq, h1, hL, h2, h3⟩, hsteps⟩ := hK m meth c ⟨T.setVm vm₁, locs, cells, slots⟩ { F0 m pc ls st0 with stack := rest } (.invokestatic index) m9 As.toArray X₁ rfl (hsize.trans hml.symm) (by rw [hb]; exact hdg) (lv_room hW) (X₁.named hnamed) ⟨hf.1, hf.2, hp _ hT X₁.warmed⟩
  obtain ⟨U', l2, c2, s2⟩ := B
  dsimp only [Pt.U, Pt.locs, Pt.cells, Pt.slots] at X' e1 e2 h1 h2 h3 hsteps
  subst h1; subst h2; subst h3
  exact ⟨v, (T.setVm vm₁).calling g' mk As.toArray, t, U', L, hT, X', hL, e1, e2, hq, fun target h => hstep₁ _ fun acts => by rw [doInvoke_state]; exact hsteps.trans h⟩
theorem q_writeSW {c0 : Cond} {own : String} {index maxL n nL mc ms : Nat} {y : MethodName} {bytes : ByteArray} {ret : Option FieldType} {hh : List (Nat × Nat × Nat × Nat)} {rm : Room} {As st0 : List Value} {v : Int32} (S : CallFix p m c cc nL s args (c0 :: WS) own) (hM : Met l y (Cond.codeWith y bytes maxL ret hh :: WS) rm (va_Pc As (twP t D wc tys H.size)) (wQi D v wc w1 H.size) mc ms (va_A wc H.size))
    (hSt : SB t A s s.heap) (hTB : TB A s s.heap) (hK : va_K D classes tys s) (hP : va_P D classes ws H) (hD : va_D A ws) (hA : ∀ q, s.heap.size ≤ q → A q) (isC isR : List Nat) (hC : isC.map (fun i => ws[i]?) = wc.map some) (hnC : va_nd isC = true) (hRr : isR.map (fun i => ws[i]?) = wr.map some) (hnd : va_nd isR = true) (hdis : ∀ i ∈ isR, i ∉ isC) (hw1 : wc.map Prod.fst = w1.map Prod.fst)
    (hrc : rm.cells = mc) (hrs : rm.slots = ms) (hR : rm.frames + 1 ≤ R.frames ∧ 8 + (maxL + 11) + rm.locals ≤ R.locals) (hcw : Cond.codeWith y bytes maxL ret hh ∈ WS) (hlk : Cond.methodLink own index y ∈ WS) (hst : Cond.static y ∈ WS) (hin : Cond.initialized y.cls ∈ WS)
    (hd : y.cls ≠ "java/lang/invoke/MethodHandle" ∧ y.cls ≠ "java/lang/invoke/VarHandle" ∧ (parseMethodDescriptor y.desc).map (fun d => d.parameters.length) = some n)
    (hn : As.length = n) (hsize : ls.size = nL) (hst0 : st0 = As.reverse ++ rest) (hW : (rest.map fun v => v.category).sum ≤ 8) (hdg : decode cc pc = .ok (.invokestatic index, 3)) (hf : cells + mc ≤ R.cells ∧ slots + ms ≤ R.slots) (hS : va_S A s.heap H locs)
    (kk : ∀ (H1 : Heap) (locs1 : List Loc), va_P D classes (wr ++ w1) H1 → va_D A (wr ++ w1) → va_S A s.heap H1 locs1 → W p l e R s m args below meth c H1 locs1 (cells + mc) (slots + ms) Q (F0 m (pc + 3) ls (.int v :: rest))) : W p l e R s m args below meth c H locs cells slots Q (F0 m pc ls st0) := by
  have hPc := hP.sub isC (q_subm hC)
  have hDc := hD.sub isC hnC hC
  have hFc := va_free (wc := wc) hD hS hA isC hC
  refine va_calli (q_runSW S hM twP_blind hrc hrs hR hcw hlk hst hin hd (fun U hU hW => ⟨rfl, ⟨⟨by rw [hU]; exact hPc, va_K.moved hW.alike hK, hDc.weaken (fun _ _ _ _ => trivial), by rw [hU]⟩, SB_at hSt hS hW hU hFc⟩, TB_at hTB hS hW hU hFc⟩) hn hsize hst0 hW hdg hf) hS (fun q _ h => hFc q h) hFc (fun r u t H1 locs1 ht hvm hw hB hz1 hk1 hS1 => ?_)
  cases hw
  rw [ht] at hB
  obtain ⟨hP9, hD9⟩ := va_join hP hD isC isR hC hRr hnd hdis hk1 hFc hB (n_D hDc.self hw1)
  exact kk H1 locs1 hP9 hD9 hS1
theorem rg_map (x : Nat × va_E) (wc : va_W) : ((List.range wc.length).map (· + 1)).map (fun i => (x :: wc)[i]?) = wc.map some := by
  apply List.ext_getElem?
  intro i
  by_cases h : i < wc.length
  · simp [h]
  · simp [h]
theorem nd_of : ∀ l : List Nat, l.Nodup → va_nd l = true := by
  intro l
  induction l with
  | nil => intro _; rfl
  | cons a l ih =>
    intro h
    rw [List.nodup_cons] at h
    simp [va_nd, ih h.2, h.1]
theorem rg_nd (n : Nat) : va_nd ((List.range n).map (· + 1)) = true := by
  apply nd_of
  rw [List.Nodup, List.pairwise_map]
  exact (List.nodup_range (n := n)).imp (fun h z => h (by omega))
theorem rg_dis (n : Nat) : ∀ i ∈ [0], i ∉ (List.range n).map (· + 1) := by
  intro i hi h
  simp only [List.mem_singleton] at hi
  simp only [List.mem_map] at h
  obtain ⟨j, -, hj⟩ := h
  omega
end OWN_CATCH
