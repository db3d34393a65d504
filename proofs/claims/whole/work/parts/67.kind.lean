/-! The kinds and the plain characters: rows -/
section KIND
abbrev pQq (r : Option Nat) : Array Value → State → Outcome → State → Prop := va_Qq (fun x (_ : Unit) => x = r) (fun _ _ => True) noA
variable {sa : Nat → Nat} {A : Nat → Prop} {U : State} {H : Heap}
theorem kf_0_code (h : SB sa A U H) : va_OF "SquareCodes$Kind" "code" "I" (.int (nI 1)) (sa 7) A U H := (h.1.2.2.2.2.2.2.1.1 0 (by decide)).2.2 ("SquareCodes$Kind", "code", "I", [1, 2, 4]) (List.mem_cons_self)
theorem kf_0_countBits (h : SB sa A U H) : va_OF "SquareCodes$Kind" "countBits" "I" (.int (nI 10)) (sa 7) A U H := (h.1.2.2.2.2.2.2.1.1 0 (by decide)).2.2 ("SquareCodes$Kind", "countBits", "I", [10, 9, 8]) (List.mem_cons_of_mem _ List.mem_cons_self)
theorem kf_0_group (h : SB sa A U H) : va_OF "SquareCodes$Kind" "group" "I" (.int (nI 3)) (sa 7) A U H := (h.1.2.2.2.2.2.2.1.1 0 (by decide)).2.2 ("SquareCodes$Kind", "group", "I", [3, 2, 1]) (List.mem_cons_of_mem _ (List.mem_cons_of_mem _ List.mem_cons_self))
theorem kf_0_base (h : SB sa A U H) : va_OF "SquareCodes$Kind" "base" "I" (.int (nI 10)) (sa 7) A U H := (h.1.2.2.2.2.2.2.1.1 0 (by decide)).2.2 ("SquareCodes$Kind", "base", "I", [10, 45, 256]) (List.mem_cons_of_mem _ (List.mem_cons_of_mem _ (List.mem_cons_of_mem _ List.mem_cons_self)))
theorem kf_0_characterBits (h : SB sa A U H) : va_OF "SquareCodes$Kind" "characterBits" "I" (.int (nI 3)) (sa 7) A U H := (h.1.2.2.2.2.2.2.1.1 0 (by decide)).2.2 ("SquareCodes$Kind", "characterBits", "I", [3, 5, 8]) (List.mem_cons_of_mem _ (List.mem_cons_of_mem _ (List.mem_cons_of_mem _ (List.mem_cons_of_mem _ List.mem_cons_self))))
theorem kf_0_extraBits (h : SB sa A U H) : va_OF "SquareCodes$Kind" "extraBits" "I" (.int (nI 1)) (sa 7) A U H := (h.1.2.2.2.2.2.2.1.1 0 (by decide)).2.2 ("SquareCodes$Kind", "extraBits", "I", [1, 1, 0]) (List.mem_cons_of_mem _ (List.mem_cons_of_mem _ (List.mem_cons_of_mem _ (List.mem_cons_of_mem _ (List.mem_cons_of_mem _ List.mem_cons_self)))))
theorem kz_0 (h : SB sa A U H) : va_Z "SquareCodes$Kind" "NUMBER" "LSquareCodes$Kind;" (.ref (sa 7)) A U H := (h.1.2.2.2.2.2.2.1.1 0 (by decide)).1
theorem ko_0 (h : SB sa A U H) : va_O "SquareCodes$Kind" (sa 7) A U H := (h.1.2.2.2.2.2.2.1.1 0 (by decide)).2.1
theorem kf_1_code (h : SB sa A U H) : va_OF "SquareCodes$Kind" "code" "I" (.int (nI 2)) (sa 8) A U H := (h.1.2.2.2.2.2.2.1.1 1 (by decide)).2.2 ("SquareCodes$Kind", "code", "I", [1, 2, 4]) (List.mem_cons_self)
theorem kf_1_countBits (h : SB sa A U H) : va_OF "SquareCodes$Kind" "countBits" "I" (.int (nI 9)) (sa 8) A U H := (h.1.2.2.2.2.2.2.1.1 1 (by decide)).2.2 ("SquareCodes$Kind", "countBits", "I", [10, 9, 8]) (List.mem_cons_of_mem _ List.mem_cons_self)
theorem kf_1_group (h : SB sa A U H) : va_OF "SquareCodes$Kind" "group" "I" (.int (nI 2)) (sa 8) A U H := (h.1.2.2.2.2.2.2.1.1 1 (by decide)).2.2 ("SquareCodes$Kind", "group", "I", [3, 2, 1]) (List.mem_cons_of_mem _ (List.mem_cons_of_mem _ List.mem_cons_self))
theorem kf_1_base (h : SB sa A U H) : va_OF "SquareCodes$Kind" "base" "I" (.int (nI 45)) (sa 8) A U H := (h.1.2.2.2.2.2.2.1.1 1 (by decide)).2.2 ("SquareCodes$Kind", "base", "I", [10, 45, 256]) (List.mem_cons_of_mem _ (List.mem_cons_of_mem _ (List.mem_cons_of_mem _ List.mem_cons_self)))
theorem kf_1_characterBits (h : SB sa A U H) : va_OF "SquareCodes$Kind" "characterBits" "I" (.int (nI 5)) (sa 8) A U H := (h.1.2.2.2.2.2.2.1.1 1 (by decide)).2.2 ("SquareCodes$Kind", "characterBits", "I", [3, 5, 8]) (List.mem_cons_of_mem _ (List.mem_cons_of_mem _ (List.mem_cons_of_mem _ (List.mem_cons_of_mem _ List.mem_cons_self))))
theorem kf_1_extraBits (h : SB sa A U H) : va_OF "SquareCodes$Kind" "extraBits" "I" (.int (nI 1)) (sa 8) A U H := (h.1.2.2.2.2.2.2.1.1 1 (by decide)).2.2 ("SquareCodes$Kind", "extraBits", "I", [1, 1, 0]) (List.mem_cons_of_mem _ (List.mem_cons_of_mem _ (List.mem_cons_of_mem _ (List.mem_cons_of_mem _ (List.mem_cons_of_mem _ List.mem_cons_self)))))
theorem kz_1 (h : SB sa A U H) : va_Z "SquareCodes$Kind" "PLAIN" "LSquareCodes$Kind;" (.ref (sa 8)) A U H := (h.1.2.2.2.2.2.2.1.1 1 (by decide)).1
theorem ko_1 (h : SB sa A U H) : va_O "SquareCodes$Kind" (sa 8) A U H := (h.1.2.2.2.2.2.2.1.1 1 (by decide)).2.1
theorem kf_2_code (h : SB sa A U H) : va_OF "SquareCodes$Kind" "code" "I" (.int (nI 4)) (sa 9) A U H := (h.1.2.2.2.2.2.2.1.1 2 (by decide)).2.2 ("SquareCodes$Kind", "code", "I", [1, 2, 4]) (List.mem_cons_self)
theorem kf_2_countBits (h : SB sa A U H) : va_OF "SquareCodes$Kind" "countBits" "I" (.int (nI 8)) (sa 9) A U H := (h.1.2.2.2.2.2.2.1.1 2 (by decide)).2.2 ("SquareCodes$Kind", "countBits", "I", [10, 9, 8]) (List.mem_cons_of_mem _ List.mem_cons_self)
theorem kf_2_group (h : SB sa A U H) : va_OF "SquareCodes$Kind" "group" "I" (.int (nI 1)) (sa 9) A U H := (h.1.2.2.2.2.2.2.1.1 2 (by decide)).2.2 ("SquareCodes$Kind", "group", "I", [3, 2, 1]) (List.mem_cons_of_mem _ (List.mem_cons_of_mem _ List.mem_cons_self))
theorem kf_2_base (h : SB sa A U H) : va_OF "SquareCodes$Kind" "base" "I" (.int (nI 256)) (sa 9) A U H := (h.1.2.2.2.2.2.2.1.1 2 (by decide)).2.2 ("SquareCodes$Kind", "base", "I", [10, 45, 256]) (List.mem_cons_of_mem _ (List.mem_cons_of_mem _ (List.mem_cons_of_mem _ List.mem_cons_self)))
theorem kf_2_characterBits (h : SB sa A U H) : va_OF "SquareCodes$Kind" "characterBits" "I" (.int (nI 8)) (sa 9) A U H := (h.1.2.2.2.2.2.2.1.1 2 (by decide)).2.2 ("SquareCodes$Kind", "characterBits", "I", [3, 5, 8]) (List.mem_cons_of_mem _ (List.mem_cons_of_mem _ (List.mem_cons_of_mem _ (List.mem_cons_of_mem _ List.mem_cons_self))))
theorem kf_2_extraBits (h : SB sa A U H) : va_OF "SquareCodes$Kind" "extraBits" "I" (.int (nI 0)) (sa 9) A U H := (h.1.2.2.2.2.2.2.1.1 2 (by decide)).2.2 ("SquareCodes$Kind", "extraBits", "I", [1, 1, 0]) (List.mem_cons_of_mem _ (List.mem_cons_of_mem _ (List.mem_cons_of_mem _ (List.mem_cons_of_mem _ (List.mem_cons_of_mem _ List.mem_cons_self)))))
theorem kz_2 (h : SB sa A U H) : va_Z "SquareCodes$Kind" "FREE" "LSquareCodes$Kind;" (.ref (sa 9)) A U H := (h.1.2.2.2.2.2.2.1.1 2 (by decide)).1
theorem ko_2 (h : SB sa A U H) : va_O "SquareCodes$Kind" (sa 9) A U H := (h.1.2.2.2.2.2.2.1.1 2 (by decide)).2.1
theorem kn_01 (h : SB sa A U H) : sa 7 ≠ sa 8 := fun e => absurd (h.1.2.2.2.2.2.2.1.2 0 1 (by decide) (by decide) e) (by decide)
theorem kn_02 (h : SB sa A U H) : sa 7 ≠ sa 9 := fun e => absurd (h.1.2.2.2.2.2.2.1.2 0 2 (by decide) (by decide) e) (by decide)
theorem kn_12 (h : SB sa A U H) : sa 8 ≠ sa 9 := fun e => absurd (h.1.2.2.2.2.2.2.1.2 1 2 (by decide) (by decide) e) (by decide)
theorem kn_10 (h : SB sa A U H) : sa 8 ≠ sa 7 := fun e => absurd (h.1.2.2.2.2.2.2.1.2 1 0 (by decide) (by decide) e) (by decide)
theorem kn_20 (h : SB sa A U H) : sa 9 ≠ sa 7 := fun e => absurd (h.1.2.2.2.2.2.2.1.2 2 0 (by decide) (by decide) e) (by decide)
theorem kn_21 (h : SB sa A U H) : sa 9 ≠ sa 8 := fun e => absurd (h.1.2.2.2.2.2.2.1.2 2 1 (by decide) (by decide) e) (by decide)
/-- the plain characters, as numbers -/
def pbT (k : Nat) : Nat := ([48, 49, 50, 51, 52, 53, 54, 55, 56, 57, 65, 66, 67, 68, 69, 70, 71, 72, 73, 74, 75, 76, 77, 78, 79, 80, 81, 82, 83, 84, 85, 86, 87, 88, 89, 90, 32, 36, 37, 42, 43, 45, 46, 47, 58] : List Nat).getD k 0
theorem pb_chk : ∀ j, j < 45 → plBy.getD j 0 = nI (pbT j) ∧ pbT j < 127 ∧ pbT j = chN j := by decide +kernel
theorem T_congr {ty : FieldType} {t N : Nat} {f g : Nat → Value} (h : va_T ty t N f A U H) (e : ∀ j, j < N → f j = g j) : va_T ty t N g A U H := by
  obtain ⟨cell, h1, h2, h3, h4, h5, h6, h7⟩ := h
  exact ⟨cell, h1, h2, h3, h4, h5, fun j hj => (h6 j hj).trans (congrArg some (e j hj)), h7⟩
theorem ks_by (h : SB sa A U H) : va_T .byte (sa 11) 45 (fun j => .int (nI (pbT j))) A U H := T_congr (h.1.2.2.2.2.2.2.2.2.2.1.1 0 (by decide)).2.2.2 (fun j hj => congrArg Value.int (pb_chk j hj).1)
theorem ks_o (h : SB sa A U H) : va_O "java/lang/String" (sa 10) A U H := (h.1.2.2.2.2.2.2.2.2.2.1.1 0 (by decide)).1
theorem ks_coder (h : SB sa A U H) : va_OF "java/lang/String" "coder" "B" (.int (nI 0)) (sa 10) A U H := (h.1.2.2.2.2.2.2.2.2.2.1.1 0 (by decide)).2.1
theorem ks_value (h : SB sa A U H) : va_OF "java/lang/String" "value" "[B" (.ref (sa 11)) (sa 10) A U H := (h.1.2.2.2.2.2.2.2.2.2.1.1 0 (by decide)).2.2.1
theorem ks_cs (h : SB sa A U H) : va_Z "java/lang/String" "COMPACT_STRINGS" "Z" (.int (nI 1)) A U H := h.1.2.2.2.2.2.2.2.2.2.2.1
theorem ks_fz (h : SB sa A U H) : va_Zq "jdk/internal/util/Preconditions" "SIOOBE_FORMATTER" "Ljava/util/function/BiFunction;" A U H := h.1.2.2.2.2.2.2.2.2.2.2.2.2.2
theorem kk_z (h : SB sa A U H) : va_Z "SquareCodes$Kind" "KINDS" "[LSquareCodes$Kind;" (.ref (sa 6)) A U H := h.1.2.2.2.2.2.2.2.1
theorem kk_t (h : SB sa A U H) : va_T (.object "SquareCodes$Kind") (sa 6) 3 (fun j => .ref (sa (7 + j))) A U H := h.1.2.2.2.2.2.2.2.2.1
variable {p : Program} {l : Launch} {e : Env} {R : Room} {s : State} {m : MethodId} {args : Array Value} {below : List Frame} {meth : Method} {c : Code} {locs : List Loc} {cells slots : Nat} {Q : State → Prop}
variable {cc : ByteArray} {pc : Nat} {ls : Array Slot} {rest : List Value} {D : va_G} {tys : List (ClassId × FieldType)} {ws wc wr w1 : va_W}
theorem va_P0 : va_P D classes [] H := fun k q h => by cases k <;> cases h
theorem o_recv {E : String} {b : Nat} (h : va_O E b A s s.heap) (hS : va_S A s.heap H locs) : ∃ cell : Cell, H[b]? = some cell ∧ cell.vm.isStatics = false ∧ s.vm.findClass E = some cell.cls := by
  obtain ⟨cell, h1, h2, h3, -⟩ := h.kept hS.2.1
  exact ⟨cell, h1, h2, h3⟩
theorem n_kget {c0 : Cond} {o n d own : String} {index q : Nat} {v : Value} (hx : p.tables.exec = Jvm.exec) (hb : c.code = cc) (hts : ∀ w ∈ c0 :: WS, w.before args s = true) (hE : va_OF o n d v q A s s.heap) (hS : va_S A s.heap H locs) (hown : s.vm.findClass own = some m.cls) (hlink : Cond.fieldLink own index o n d ∈ WS) (hdg : decode cc pc = .ok (.getfield index, 3))
    (kk : W p l e R s m args below meth c H locs cells slots Q (F0 m (pc + 3) ls (v :: rest))) : W p l e R s m args below meth c H locs cells slots Q (F0 m pc ls (.ref q :: rest)) :=
  vk_getf hx hb hE hS hown (hts _ (List.mem_cons_of_mem _ hlink)) (fun _ h => h) hdg kk
theorem n_kgetN {o n d own host : String} {index q : Nat} {v : Value} (hx : p.tables.exec = Jvm.exec) (hb : c.code = cc) (hE : va_OF o n d v q A s s.heap) (hS : va_S A s.heap H locs) (hown : s.vm.findClass own = some m.cls) (hlink : va_Nw (.fieldLinkNest own index o n d host) s) (hdg : decode cc pc = .ok (.getfield index, 3))
    (kk : W p l e R s m args below meth c H locs cells slots Q (F0 m (pc + 3) ls (v :: rest))) : W p l e R s m args below meth c H locs cells slots Q (F0 m pc ls (.ref q :: rest)) := by
  obtain ⟨cf, k, fi, f, cell, h1, h2, h3, h4, h5, h6⟩ := hE.kept hS.2.1
  exact va_Wgetf hx hb hown (va_Nw.use rfl hlink) h1 h2 h3 h4 (v := v) h5 rfl rfl hdg kk
theorem n_tb {a N i : Nat} {f : Nat → Nat} (hx : p.tables.exec = Jvm.exec) (hb : c.code = cc) (hT : va_T .byte a N (fun j => .int (nI (f j))) A s s.heap) (hS : va_S A s.heap H locs) (hi : i < N) (hN : N < 2 ^ 31) (hdg : decode cc pc = .ok (.baload, 1))
    (kk : W p l e R s m args below meth c H locs cells slots Q (F0 m (pc + 1) ls (.int (nI (f i)) :: rest))) : W p l e R s m args below meth c H locs cells slots Q (F0 m pc ls (.int (nI i) :: .ref a :: rest)) :=
  va_tb hx hb hT hS (vp_in_nI hi hN) (by show Value.int (nI (f (nI i).toNatClampNeg)) = _; rw [nI_clamp (by omega)]) hdg kk
theorem n_acmp_ne {x y : Nat} {off : Int} {tgt : Nat} (hx : p.tables.exec = Jvm.exec) (hb : c.code = cc) (hdg : decode cc pc = .ok (.if_acmp .ne off, 3)) (ht : (pc : Int) + off = (tgt : Int)) (hne : x ≠ y) (k : W p l e R s m args below meth c H locs cells slots Q (F0 m tgt ls rest)) : W p l e R s m args below meth c H locs cells slots Q (F0 m pc ls (.ref y :: .ref x :: rest)) :=
  lv_acmp_ne (rx := some x) (ry := some y) hx hb hdg ht (fun _ => k) (fun h => absurd (Option.some.inj h) hne)
theorem n_acmp_eq {x : Nat} {off : Int} {tgt : Nat} (hx : p.tables.exec = Jvm.exec) (hb : c.code = cc) (hdg : decode cc pc = .ok (.if_acmp .ne off, 3)) (ht : (pc : Int) + off = (tgt : Int)) (k : W p l e R s m args below meth c H locs cells slots Q (F0 m (pc + 3) ls rest)) : W p l e R s m args below meth c H locs cells slots Q (F0 m pc ls (.ref x :: .ref x :: rest)) :=
  lv_acmp_ne (rx := some x) (ry := some x) hx hb hdg ht (fun h => absurd rfl h) (fun _ => k)
/-- a method of an object that nobody writes -/
theorem q_readVr {c0 : Cond} {own C : String} {index maxL n nL : Nat} {y : MethodName} {bytes : ByteArray} {ret : Option FieldType} {rm : Room} {b : Nat} {As st0 : List Value} {v : Int32} (S : CallFix p m c cc nL s args (c0 :: WS) own) (hM : Met l y (Cond.code y bytes maxL ret :: WS) rm (va_Pc (.ref b :: As) (srP sa D wc tys)) (pQ v) 0 0 noA)
    (hSt : SB sa A s s.heap) (hK : va_K D classes tys s) (hP : va_P D classes ws H) (hr : ∃ cell : Cell, H[b]? = some cell ∧ cell.vm.isStatics = false ∧ s.vm.findClass C = some cell.cls) (isC : List Nat) (hC : isC.filterMap (fun i => ws[i]?) = wc) (g : GoodIn (c0 :: WS) (wsV own index C y (Cond.code y bytes maxL ret :: WS)))
    (hd : y.cls ≠ "java/lang/invoke/MethodHandle" ∧ y.cls ≠ "java/lang/invoke/VarHandle" ∧ (parseMethodDescriptor y.desc).map (fun d => d.parameters.length) = some n) (hcl : y.cls = C) (hrc : rm.cells = 0) (hrs : rm.slots = 0) (hR : rm.frames + 1 ≤ R.frames ∧ 8 + (maxL + 11) + rm.locals ≤ R.locals)
    (hn : As.length = n) (hsize : ls.size = nL) (hst : st0 = As.reverse ++ .ref b :: rest) (hW : (rest.map fun v => v.category).sum ≤ 8) (hdg : decode cc pc = .ok (.invokevirtual index, 3)) (hf : cells ≤ R.cells ∧ slots ≤ R.slots) (hS : va_S A s.heap H locs)
    (kk : ∀ (H1 : Heap) (locs1 : List Loc), va_P D classes ws H1 → va_S A s.heap H1 locs1 → W p l e R s m args below meth c H1 locs1 cells slots Q (F0 m (pc + 3) ls (.int v :: rest))) : W p l e R s m args below meth c H locs cells slots Q (F0 m pc ls st0) := by
  have hPc := hP.sub isC hC
  refine va_calli (va_runV (rest := rest) (C := C) S hM (cwV n S.2.2.2.2 g rfl hrc hrs ⟨hcl, hd⟩ hR) ⟨srP_blind, hr, fun U hU hW => ⟨rfl, ⟨by rw [hU]; exact hPc, va_K.moved hW.alike hK⟩, SB_at hSt hS hW hU (fun q h => h.elim)⟩⟩ rfl hn hsize hst (lv_room hW) hdg hf) hS (fun q _ h => h.elim) (fun q h => h.elim) (fun r u t H1 locs1 ht hvm hw hB hz1 hk1 hS1 => ?_)
  cases hw
  exact kk H1 locs1 (hP.kept (fun k q hq => hk1 q.1 (hP k q hq).lt (fun h => h))) hS1
/-- a static method that answers an object, or none, and changes nothing -/
theorem q_readSq {c0 : Cond} {own : String} {index maxL n nL : Nat} {y : MethodName} {bytes : ByteArray} {ret : Option FieldType} {rm : Room} {As st0 : List Value} {v : Option Nat} (S : CallFix p m c cc nL s args (c0 :: WS) own) (hM : Met l y (Cond.code y bytes maxL ret :: WS) rm (va_Pc As (srP sa D wc tys)) (pQq v) 0 0 noA)
    (hSt : SB sa A s s.heap) (hK : va_K D classes tys s) (hP : va_P D classes ws H) (isC : List Nat) (hC : isC.filterMap (fun i => ws[i]?) = wc) (g : GoodIn (c0 :: WS) (va_wsS own index y (Cond.code y bytes maxL ret :: WS)))
    (hd : y.cls ≠ "java/lang/invoke/MethodHandle" ∧ y.cls ≠ "java/lang/invoke/VarHandle" ∧ (parseMethodDescriptor y.desc).map (fun d => d.parameters.length) = some n) (hrc : rm.cells = 0) (hrs : rm.slots = 0) (hR : rm.frames + 1 ≤ R.frames ∧ 8 + (maxL + 11) + rm.locals ≤ R.locals)
    (hn : As.length = n) (hsize : ls.size = nL) (hst : st0 = As.reverse ++ rest) (hW : (rest.map fun v => v.category).sum ≤ 8) (hdg : decode cc pc = .ok (.invokestatic index, 3)) (hf : cells ≤ R.cells ∧ slots ≤ R.slots) (hS : va_S A s.heap H locs)
    (kk : ∀ (H1 : Heap) (locs1 : List Loc), va_P D classes ws H1 → va_S A s.heap H1 locs1 → W p l e R s m args below meth c H1 locs1 cells slots Q (F0 m (pc + 3) ls (va_rf v :: rest))) : W p l e R s m args below meth c H locs cells slots Q (F0 m pc ls st0) := by
  have hPc := hP.sub isC hC
  refine va_callq (va_runS (rest := rest) S hM (va_cwS n S.2.2.2.2 g rfl hrc hrs hd hR) ⟨srP_blind, fun U hU hW => ⟨rfl, ⟨by rw [hU]; exact hPc, va_K.moved hW.alike hK⟩, SB_at hSt hS hW hU (fun q h => h.elim)⟩⟩ rfl hn hsize hst (lv_room hW) hdg hf) hS (fun q _ h => h.elim) (fun q h => h.elim) (fun r u t H1 locs1 ht hvm hw hB hz1 hk1 hS1 => ?_)
  cases hw
  exact kk H1 locs1 (hP.kept (fun k q hq => hk1 q.1 (hP k q hq).lt (fun h => h))) hS1
/-- a static method that answers nothing and changes nothing -/
theorem q_readSvs {c0 : Cond} {own : String} {index maxL n nL : Nat} {y : MethodName} {bytes : ByteArray} {ret : Option FieldType} {rm : Room} {As st0 : List Value} (S : CallFix p m c cc nL s args (c0 :: WS) own) (hM : Met l y (Cond.code y bytes maxL ret :: WS) rm (va_Pc As (srP sa D wc tys)) (va_Qv (fun (_ : Unit) => True) (fun _ _ => True) noA) 0 0 noA)
    (hSt : SB sa A s s.heap) (hK : va_K D classes tys s) (hP : va_P D classes ws H) (isC : List Nat) (hC : isC.filterMap (fun i => ws[i]?) = wc) (g : GoodIn (c0 :: WS) (va_wsS own index y (Cond.code y bytes maxL ret :: WS)))
    (hd : y.cls ≠ "java/lang/invoke/MethodHandle" ∧ y.cls ≠ "java/lang/invoke/VarHandle" ∧ (parseMethodDescriptor y.desc).map (fun d => d.parameters.length) = some n) (hrc : rm.cells = 0) (hrs : rm.slots = 0) (hR : rm.frames + 1 ≤ R.frames ∧ 8 + (maxL + 11) + rm.locals ≤ R.locals)
    (hn : As.length = n) (hsize : ls.size = nL) (hst : st0 = As.reverse ++ rest) (hW : (rest.map fun v => v.category).sum ≤ 8) (hdg : decode cc pc = .ok (.invokestatic index, 3)) (hf : cells ≤ R.cells ∧ slots ≤ R.slots) (hS : va_S A s.heap H locs)
    (kk : ∀ (H1 : Heap) (locs1 : List Loc), va_P D classes ws H1 → va_S A s.heap H1 locs1 → W p l e R s m args below meth c H1 locs1 cells slots Q (F0 m (pc + 3) ls rest)) : W p l e R s m args below meth c H locs cells slots Q (F0 m pc ls st0) := by
  have hPc := hP.sub isC hC
  refine va_callv (va_runS (rest := rest) S hM (va_cwS n S.2.2.2.2 g rfl hrc hrs hd hR) ⟨srP_blind, fun U hU hW => ⟨rfl, ⟨by rw [hU]; exact hPc, va_K.moved hW.alike hK⟩, SB_at hSt hS hW hU (fun q h => h.elim)⟩⟩ rfl hn hsize hst (lv_room hW) hdg hf) hS (fun q _ h => h.elim) (fun q h => h.elim) (fun u t H1 locs1 ht hvm hw hB hz1 hk1 hS1 => ?_)
  exact kk H1 locs1 (hP.kept (fun k q hq => hk1 q.1 (hP k q hq).lt (fun h => h))) hS1
/-- where a character stands among the plain ones -/
def pxT (c : Nat) : Nat := (plI c).toNatClampNeg
theorem pl_tab : ∀ c, c < 127 → (plI c = nI (pxT c) ∧ pxT c < 45 ∧ pbT (pxT c) = c) ∨ (plI c = -1 ∧ ∀ j, j < 45 → pbT j ≠ c) := by decide +kernel
theorem pb_inj : ∀ i, i < 45 → ∀ j, j < 45 → pbT i = pbT j → i = j := by decide +kernel
theorem by_id : ∀ c, c < 127 → (nI c).toInt8.toInt32 = nI c := by decide +kernel
theorem ch_id : ∀ c, c < 127 → ((nI c).toUInt32 % 65536).toInt32 = nI c := by decide +kernel
theorem ch_256 : ∀ c, c < 256 → ((nI c).toUInt32 % 65536).toInt32 = nI c := by decide +kernel
theorem ch_fit : ∀ c, c < 256 → narrow .char (.int (nI c)) = .int (nI c) := by decide +kernel
theorem pb_and : ∀ k, k < 45 → pbT k &&& 255 = pbT k := by decide +kernel
theorem pl_45 : ∀ c, c < 127 → ¬ nI 45 ≤ plI c := by decide +kernel
/-- the value of a digit, as the class finds it -/
def vc0 (c : Nat) : Int32 := if nI 10 ≤ plI c then -1 else plI c
theorem vc0_chk : ∀ c, c < 127 → (vc0 c ≠ -1 ∧ 0 ≤ plI c ∧ plI c ≤ nI 9) ∨ (vc0 c = -1 ∧ ¬ (0 ≤ plI c ∧ plI c ≤ nI 9)) := by decide +kernel
theorem pl_chk : ∀ c, c < 127 → (plI c ≠ -1 ∧ 0 ≤ plI c) ∨ (plI c = -1 ∧ ¬ 0 ≤ plI c) := by decide +kernel
theorem vc0_cv : ∀ c, c < 127 → 0 ≤ plI c → plI c ≤ nI 9 → vc0 c = nI (cvN 1 c) ∧ cvN 1 c < 10 := by decide +kernel
theorem pl_cv : ∀ c, c < 127 → 0 ≤ plI c → plI c = nI (cvN 2 c) ∧ cvN 2 c < 45 := by decide +kernel
theorem nI_ne1 {a : Nat} (h : a < 2 ^ 31) : nI a ≠ -1 := fun e => by
  have h1 := nI_pos h
  rw [e] at h1
  exact h1 (by decide)
end KIND
section SPEC_C7
theorem bf_t0 {n : Nat} (h : n % 3 = 0) : 4 + 10 + n / 3 * gsz 1 3 = 4 + gwd 1 + bfN 1 n := by
  show _ = 4 + 10 + (n / 3 * gsz 1 3 + (if n % 3 = 0 then 0 else gsz 1 (n % 3)))
  rw [if_pos h]
  rfl
theorem bf_f0 {n : Nat} (h : n % 3 ≠ 0) : 4 + 10 + n / 3 * gsz 1 3 + gsz 1 (n % 3) = 4 + gwd 1 + bfN 1 n := by
  show _ = 4 + 10 + (n / 3 * gsz 1 3 + (if n % 3 = 0 then 0 else gsz 1 (n % 3)))
  rw [if_neg h]
  omega
theorem bf_t1 {n : Nat} (h : n % 2 = 0) : 4 + 9 + n / 2 * gsz 2 2 = 4 + gwd 2 + bfN 2 n := by
  show _ = 4 + 9 + (n / 2 * gsz 2 2 + (if n % 2 = 0 then 0 else gsz 2 (n % 2)))
  rw [if_pos h]
  rfl
theorem bf_f1 {n : Nat} (h : n % 2 ≠ 0) : 4 + 9 + n / 2 * gsz 2 2 + gsz 2 (n % 2) = 4 + gwd 2 + bfN 2 n := by
  show _ = 4 + 9 + (n / 2 * gsz 2 2 + (if n % 2 = 0 then 0 else gsz 2 (n % 2)))
  rw [if_neg h]
  omega
theorem bf_t2 {n : Nat} (h : n % 1 = 0) : 4 + 8 + n / 1 * gsz 4 1 = 4 + gwd 4 + bfN 4 n := by
  show _ = 4 + 8 + (n / 1 * gsz 4 1 + (if n % 1 = 0 then 0 else gsz 4 (n % 1)))
  rw [if_pos h]
  rfl
theorem bf_f2 {n : Nat} (h : n % 1 ≠ 0) : 4 + 8 + n / 1 * gsz 4 1 + gsz 4 (n % 1) = 4 + gwd 4 + bfN 4 n := by
  show _ = 4 + 8 + (n / 1 * gsz 4 1 + (if n % 1 = 0 then 0 else gsz 4 (n % 1)))
  rw [if_neg h]
  omega
end SPEC_C7
section WRT2
theorem kd_1 {t : Nat → Nat} : ∀ n, (∀ j, j < n → 0 ≤ plI (t j) ∧ plI (t j) ≤ nI 9) → kdL t n = 1 := by
  intro n
  induction n with
  | zero => intro _; rfl
  | succ n ih =>
    intro h
    have h1 := h n (by omega)
    rw [kdL_d h1.1 h1.2]
    exact ih (fun j hj => h j (by omega))
theorem kd_2 {t : Nat → Nat} : ∀ n, (∀ j, j < n → 0 ≤ plI (t j)) → kdL t n = 1 ∨ kdL t n = 2 := by
  intro n
  induction n with
  | zero => intro _; exact Or.inl rfl
  | succ n ih =>
    intro h
    have h1 := h n (by omega)
    have i := ih (fun j hj => h j (by omega))
    by_cases h2 : plI (t n) ≤ nI 9
    · rw [kdL_d h1 h2]; exact i
    · by_cases h3 : kdL t n = 1
      · rw [kdL_b h1 h2 h3]; exact Or.inr rfl
      · rw [kdL_c h1 h2 h3]; exact i
/-- the kind that fits: its place in the list -/
def kiN (t : Nat → Nat) (n : Nat) : Nat := if kdL t n = 1 then 0 else if kdL t n = 2 then 1 else 2
theorem kd_no1 {t : Nat → Nat} {n j : Nat} (hj : j < n) (h : ¬ (0 ≤ plI (t j) ∧ plI (t j) ≤ nI 9)) : kdL t n ≠ 1 := fun e => h ((kdL_in t n).2.1 e j hj)
theorem kd_4 {t : Nat → Nat} {n j : Nat} (hj : j < n) (h : ¬ 0 ≤ plI (t j)) : kdL t n = 4 := by
  rcases (kdL_in t n).1 with e | e | e
  · exact absurd ((kdL_in t n).2.1 e j hj).1 h
  · exact absurd ((kdL_in t n).2.2 e j hj) h
  · exact e
end WRT2
