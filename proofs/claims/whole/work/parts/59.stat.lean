abbrev R_jdk_internal_util_Preconditions : String := "jdk/internal/util/Preconditions"
abbrev y_j_Throwable_init_x0 : MethodName := ⟨R_java_lang_Throwable, "<init>", "()V"⟩
abbrev b_j_Throwable_init_x0 : ByteArray := prog_25_method_1_code
abbrev cd_j_Throwable_init_x0 : Cond := .code y_j_Throwable_init_x0 b_j_Throwable_init_x0 1 none
abbrev y_j_String_length_x1 : MethodName := ⟨R_java_lang_String, "length", "()I"⟩
abbrev b_j_String_length_x1 : ByteArray := prog_21_method_54_code
abbrev cd_j_String_length_x1 : Cond := .code y_j_String_length_x1 b_j_String_length_x1 1 (some .int)
abbrev y_j_String_coder_x2 : MethodName := ⟨R_java_lang_String, "coder", "()B"⟩
abbrev b_j_String_coder_x2 : ByteArray := prog_21_method_152_code
abbrev cd_j_String_coder_x2 : Cond := .code y_j_String_coder_x2 b_j_String_coder_x2 1 (some .byte)
abbrev y_j_StringLatin1_indexOf_x3 : MethodName := ⟨R_java_lang_StringLatin1, "indexOf", "([BIII)I"⟩
abbrev b_j_StringLatin1_indexOf_x3 : ByteArray := prog_22_method_22_code
abbrev cd_j_StringLatin1_indexOf_x3 : Cond := .code y_j_StringLatin1_indexOf_x3 b_j_StringLatin1_indexOf_x3 4 (some .int)
abbrev y_j_Math_max_x4 : MethodName := ⟨R_java_lang_Math, "max", "(II)I"⟩
abbrev b_j_Math_max_x4 : ByteArray := prog_19_method_65_code
abbrev cd_j_Math_max_x4 : Cond := .code y_j_Math_max_x4 b_j_Math_max_x4 2 (some .int)
abbrev y_j_StringUTF16_indexOf_x5 : MethodName := ⟨R_java_lang_StringUTF16, "indexOf", "([BIII)I"⟩
abbrev b_j_StringUTF16_indexOf_x5 : ByteArray := prog_23_method_40_code
abbrev cd_j_StringUTF16_indexOf_x5 : Cond := .code y_j_StringUTF16_indexOf_x5 b_j_StringUTF16_indexOf_x5 4 (some .int)
abbrev y_j_Preconditions_checkFromToIndex_x6 : MethodName := ⟨R_jdk_internal_util_Preconditions, "checkFromToIndex", "(IIILjava/util/function/BiFunction;)I"⟩
abbrev b_j_Preconditions_checkFromToIndex_x6 : ByteArray := prog_28_method_12_code
abbrev cd_j_Preconditions_checkFromToIndex_x6 : Cond := .code y_j_Preconditions_checkFromToIndex_x6 b_j_Preconditions_checkFromToIndex_x6 4 (some .int)
abbrev y_j_Preconditions_checkIndex_x7 : MethodName := ⟨R_jdk_internal_util_Preconditions, "checkIndex", "(IILjava/util/function/BiFunction;)I"⟩
abbrev b_j_Preconditions_checkIndex_x7 : ByteArray := prog_28_method_11_code
abbrev cd_j_Preconditions_checkIndex_x7 : Cond := .code y_j_Preconditions_checkIndex_x7 b_j_Preconditions_checkIndex_x7 3 (some .int)
/-! What nobody writes: the class's tables, its kinds, the plain characters; links between nest mates -/
section STAT
abbrev stI (C n : String) (t N : Nat) (f : Nat → Nat) (A : Nat → Prop) (U : State) (H : Heap) : Prop := va_Z C n "[I" (.ref t) A U H ∧ va_T .int t N (fun j => .int (nI (f j))) A U H
theorem stI_m {C n : String} {t N : Nat} {f : Nat → Nat} {A : Nat → Prop} {u U : State} {H : Heap} (hvm : u.vm.Alike U.vm) (h : stI C n t N f A u H) : stI C n t N f A U H := ⟨va_Z.moved hvm h.1, va_T.moved hvm h.2⟩
theorem stI_k {C n : String} {t N : Nat} {f : Nat → Nat} {A : Nat → Prop} {U : State} {H H1 : Heap} (hq : ∀ a : Nat, a < H.size → ¬ A a → H1[a]? = H[a]?) (h : stI C n t N f A U H) : stI C n t N f A U H1 := ⟨h.1.kept hq, h.2.kept hq⟩
theorem stI_n {C n : String} {t N : Nat} {f : Nat → Nat} {A B : Nat → Prop} {U : State} {H : Heap} (hAB : ∀ q, B q → A q) (h : stI C n t N f A U H) : stI C n t N f B U H := ⟨h.1.narrow hAB, h.2.narrow hAB⟩
def dbT (k : Nat) : Nat := ([19, 16, 13, 9] : List Nat).getD k 0
def lcT (k : Nat) : Nat := ([1, 0, 3, 2] : List Nat).getD k 0
def kdF : List (String × String × String × List Int32) := [("SquareCodes$Kind", "code", "I", [1, 2, 4]), ("SquareCodes$Kind", "countBits", "I", [10, 9, 8]), ("SquareCodes$Kind", "group", "I", [3, 2, 1]), ("SquareCodes$Kind", "base", "I", [10, 45, 256]), ("SquareCodes$Kind", "characterBits", "I", [3, 5, 8]), ("SquareCodes$Kind", "extraBits", "I", [1, 1, 0])]
def kdNm : List String := ["NUMBER", "PLAIN", "FREE"]
def plTx : String := "0123456789ABCDEFGHIJKLMNOPQRSTUVWXYZ $%*+-./:"
def plBy : List Int32 := [48, 49, 50, 51, 52, 53, 54, 55, 56, 57, 65, 66, 67, 68, 69, 70, 71, 72, 73, 74, 75, 76, 77, 78, 79, 80, 81, 82, 83, 84, 85, 86, 87, 88, 89, 90, 32, 36, 37, 42, 43, 45, 46, 47, 58]
/-- the heap's part: t 0 .. t 5 tables, t 6 the kinds' array, t 7 .. t 9 the kinds, t 10, t 11 the plain characters -/
def SBh (t : Nat → Nat) (A : Nat → Prop) (U : State) (H : Heap) : Prop :=
  stI "SquareCodes" "DATA_BYTES" (t 0) 4 dbT A U H ∧ stI "SquareCodes$Form" "LEVEL_CODES" (t 1) 4 lcT A U H ∧
  stI "SquareCodes$Layout" "FIRST_ROWS" (t 2) 15 f1R A U H ∧ stI "SquareCodes$Layout" "FIRST_COLUMNS" (t 3) 15 f1C A U H ∧ stI "SquareCodes$Layout" "SECOND_ROWS" (t 4) 15 f2R A U H ∧ stI "SquareCodes$Layout" "SECOND_COLUMNS" (t 5) 15 f2C A U H ∧
  va_En "SquareCodes$Kind" "LSquareCodes$Kind;" kdNm kdF (fun i => t (7 + i)) A U H ∧ va_Z "SquareCodes$Kind" "KINDS" "[LSquareCodes$Kind;" (.ref (t 6)) A U H ∧ va_T (.object "SquareCodes$Kind") (t 6) 3 (fun j => .ref (t (7 + j))) A U H ∧
  vk_S 1 [45] [plBy] (fun _ => t 10) (fun _ => t 11) A U H ∧ va_Z "java/lang/String" "COMPACT_STRINGS" "Z" (.int 1) A U H ∧ va_Zq "java/lang/Throwable" "UNASSIGNED_STACK" "[Ljava/lang/StackTraceElement;" A U H ∧ va_Zq "java/lang/Throwable" "SUPPRESSED_SENTINEL" "Ljava/util/List;" A U H ∧ va_Zq "jdk/internal/util/Preconditions" "SIOOBE_FORMATTER" "Ljava/util/function/BiFunction;" A U H
theorem SBh_m {t : Nat → Nat} {A : Nat → Prop} {u U : State} {H : Heap} (hvm : u.vm.Alike U.vm) (h : SBh t A u H) : SBh t A U H := by
  obtain ⟨h0, h1, h2, h3, h4, h5, h6, h7, h8, h9, h10, h11, h12, h13⟩ := h
  exact ⟨stI_m hvm h0, stI_m hvm h1, stI_m hvm h2, stI_m hvm h3, stI_m hvm h4, stI_m hvm h5, va_En.moved hvm h6, va_Z.moved hvm h7, va_T.moved hvm h8, vk_S.moved hvm h9, va_Z.moved hvm h10, va_Zq.moved hvm h11, va_Zq.moved hvm h12, va_Zq.moved hvm h13⟩
theorem SBh_k {t : Nat → Nat} {A : Nat → Prop} {U : State} {H H1 : Heap} (hq : ∀ a : Nat, a < H.size → ¬ A a → H1[a]? = H[a]?) (h : SBh t A U H) : SBh t A U H1 := by
  obtain ⟨h0, h1, h2, h3, h4, h5, h6, h7, h8, h9, h10, h11, h12, h13⟩ := h
  exact ⟨stI_k hq h0, stI_k hq h1, stI_k hq h2, stI_k hq h3, stI_k hq h4, stI_k hq h5, h6.kept hq, h7.kept hq, h8.kept hq, h9.kept hq, h10.kept hq, h11.kept hq, h12.kept hq, h13.kept hq⟩
theorem SBh_n {t : Nat → Nat} {A B : Nat → Prop} {U : State} {H : Heap} (hAB : ∀ q, B q → A q) (h : SBh t A U H) : SBh t B U H := by
  obtain ⟨h0, h1, h2, h3, h4, h5, h6, h7, h8, h9, h10, h11, h12, h13⟩ := h
  exact ⟨stI_n hAB h0, stI_n hAB h1, stI_n hAB h2, stI_n hAB h3, stI_n hAB h4, stI_n hAB h5, h6.narrow hAB, h7.narrow hAB, h8.narrow hAB, h9.narrow hAB, h10.narrow hAB, h11.narrow hAB, h12.narrow hAB, h13.narrow hAB⟩
def bitOfName : MethodName := ⟨"SquareCodes", "bitOf", "([II)I"⟩
/-- the tables' part: links between nest mates, String constants -/
def SBn (t : Nat → Nat) (U : State) : Prop :=
  (va_Nw (.fieldLinkNest "SquareCodes$TextReader" 39 "SquareCodes$Kind" "countBits" "I" "SquareCodes") U ∧ va_Nw (.fieldLinkNest "SquareCodes$TextReader" 42 "SquareCodes$Kind" "group" "I" "SquareCodes") U ∧ va_Nw (.fieldLinkNest "SquareCodes$TextReader" 65 "SquareCodes$Kind" "base" "I" "SquareCodes") U ∧
   va_Nw (.fieldLinkNest "SquareCodes$TextWriter" 31 "SquareCodes$Kind" "code" "I" "SquareCodes") U ∧ va_Nw (.fieldLinkNest "SquareCodes$TextWriter" 38 "SquareCodes$Kind" "countBits" "I" "SquareCodes") U ∧ va_Nw (.fieldLinkNest "SquareCodes$TextWriter" 54 "SquareCodes$Kind" "base" "I" "SquareCodes") U ∧ va_Nw (.fieldLinkNest "SquareCodes$TextWriter" 61 "SquareCodes$Kind" "group" "I" "SquareCodes") U) ∧
  (va_Nw (.methodLinkNest "SquareCodes" 36 ⟨"SquareCodes$TextWriter", "<init>", "()V"⟩ "SquareCodes") U ∧ va_Nw (.methodLinkNest "SquareCodes$Layout" 84 bitOfName "SquareCodes") U ∧ va_Nw (.methodLinkNest "SquareCodes$TextReader" 62 bitOfName "SquareCodes") U) ∧
  (vk_R "SquareCodes$Kind" 64 plTx (t 10) U ∧ vk_R "SquareCodes" 65 "no such level or mask" (t 12) U ∧ vk_R "SquareCodes" 79 "the text does not go into the data bytes" (t 13) U ∧ vk_R "SquareCodes" 102 "outside of the grid" (t 14) U ∧ vk_R "SquareCodes" 131 "the grid has no form" (t 15) U ∧ vk_R "SquareCodes" 147 "there are no right bytes near enough" (t 16) U ∧ vk_R "SquareCodes" 155 "the data bytes tell no text" (t 17) U)
theorem SBn_w {t : Nat → Nat} {s U : State} (hW : s.WarmedH U.vm) (h : SBn t s) : SBn t U := by
  obtain ⟨⟨a0, a1, a2, a3, a4, a5, a6⟩, ⟨b0, b1, b2⟩, c0, c1, c2, c3, c4, c5, c6⟩ := h
  exact ⟨⟨a0.warmF hW, a1.warmF hW, a2.warmF hW, a3.warmF hW, a4.warmF hW, a5.warmF hW, a6.warmF hW⟩, ⟨b0.warmM hW, b1.warmM hW, b2.warmM hW⟩, c0.warm hW, c1.warm hW, c2.warm hW, c3.warm hW, c4.warm hW, c5.warm hW, c6.warm hW⟩
theorem SBn_s {t : Nat → Nat} {u U : State} (hv : u.vm = U.vm) (h : SBn t u) : SBn t U := by
  obtain ⟨⟨a0, a1, a2, a3, a4, a5, a6⟩, ⟨b0, b1, b2⟩, c0, c1, c2, c3, c4, c5, c6⟩ := h
  exact ⟨⟨a0.same rfl hv, a1.same rfl hv, a2.same rfl hv, a3.same rfl hv, a4.same rfl hv, a5.same rfl hv, a6.same rfl hv⟩, ⟨b0.same rfl hv, b1.same rfl hv, b2.same rfl hv⟩, c0.same hv.symm, c1.same hv.symm, c2.same hv.symm, c3.same hv.symm, c4.same hv.symm, c5.same hv.symm, c6.same hv.symm⟩
def SB (t : Nat → Nat) (A : Nat → Prop) (U : State) (H : Heap) : Prop := SBh t A U H ∧ SBn t U
/-- a reader's start, a writer's start, with all this -/
abbrev srP (t : Nat → Nat) (D : va_G) (ws : va_W) (tys : List (ClassId × FieldType)) : State → Prop := fun U => rP D ws tys U ∧ SB t noA U U.heap
abbrev swP (t : Nat → Nat) (D : va_G) (ws : va_W) (tys : List (ClassId × FieldType)) (sz : Nat) : State → Prop := fun U => wP D ws tys sz U ∧ SB t (va_A ws sz) U U.heap
theorem SB_blind {t : Nat → Nat} {A : Nat → Prop} {U : State} (g : JFrame) (mk : MethodId) (a : Array Value) (h : SB t A U U.heap) : SB t A (U.calling g mk a) (U.calling g mk a).heap := ⟨SBh_m (u := U) (U := U.calling g mk a) (Vm.Alike.refl U.vm) h.1, SBn_s (u := U) (U := U.calling g mk a) rfl h.2⟩
theorem srP_blind {t : Nat → Nat} {D : va_G} {ws : va_W} {tys : List (ClassId × FieldType)} {As : List Value} : FrameBlind (va_Pc As (srP t D ws tys)) := by
  intro a U g mk q
  exact ⟨q.1, ⟨q.2.1.1, va_K.moved (u := U) (U := U.calling g mk a) (Vm.Alike.refl U.vm) q.2.1.2⟩, SB_blind g mk a q.2.2⟩
theorem swP_blind {t : Nat → Nat} {D : va_G} {ws : va_W} {tys : List (ClassId × FieldType)} {As : List Value} {sz : Nat} : FrameBlind (va_Pc As (swP t D ws tys sz)) := by
  intro a U g mk q
  exact ⟨q.1, ⟨q.2.1.1, va_K.moved (u := U) (U := U.calling g mk a) (Vm.Alike.refl U.vm) q.2.1.2.1, q.2.1.2.2.1, q.2.1.2.2.2⟩, SB_blind g mk a q.2.2⟩
variable {p : Program} {l : Launch} {e : Env} {R : Room} {s : State} {m : MethodId} {args : Array Value} {below : List Frame} {meth : Method} {c : Code} {H : Heap} {locs : List Loc} {cells slots : Nat} {Q : State → Prop}
variable {cc : ByteArray} {pc : Nat} {ls : Array Slot} {rest : List Value} {D : va_G} {A : Nat → Prop} {tys : List (ClassId × FieldType)} {ws wc wr w1 : va_W} {t : Nat → Nat}
/-- what a callee may take over -/
theorem SB_at {B : Nat → Prop} {U : State} (h : SB t A s s.heap) (hS : va_S A s.heap H locs) (hW : s.WarmedH U.vm) (hU : U.heap = H) (hAB : ∀ q, B q → A q) : SB t B U U.heap := by
  rw [hU]
  exact ⟨SBh_n hAB (SBh_m hW.alike (SBh_k hS.2.1 h.1)), SBn_w hW h.2⟩
theorem n_gets {c0 : Cond} {C n d own : String} {v : Value} {index : Nat} (hx : p.tables.exec = Jvm.exec) (hb : c.code = cc) (hts : ∀ w ∈ c0 :: WS, w.before args s = true) (hZ : va_Z C n d v A s s.heap) (hS : va_S A s.heap H locs) (hown : s.vm.findClass own = some m.cls) (hlink : Cond.fieldLink own index C n d ∈ WS) (hdg : decode cc pc = .ok (.getstatic index, 3))
    (kk : W p l e R s m args below meth c H locs cells slots Q (F0 m (pc + 3) ls (v :: rest))) : W p l e R s m args below meth c H locs cells slots Q (F0 m pc ls rest) :=
  va_gets hx hb hZ hS hown (hts _ (List.mem_cons_of_mem _ hlink)) (fun _ h => h) hdg kk
theorem n_ti {a N i : Nat} {f : Nat → Nat} (hx : p.tables.exec = Jvm.exec) (hb : c.code = cc) (hT : va_T .int a N (fun j => .int (nI (f j))) A s s.heap) (hS : va_S A s.heap H locs) (hi : i < N) (hN : N < 2 ^ 31) (hdg : decode cc pc = .ok (.iaload, 1))
    (kk : W p l e R s m args below meth c H locs cells slots Q (F0 m (pc + 1) ls (.int (nI (f i)) :: rest))) : W p l e R s m args below meth c H locs cells slots Q (F0 m pc ls (.int (nI i) :: .ref a :: rest)) :=
  va_ti hx hb hT hS (vp_in_nI hi hN) (by show Value.int (nI (f (nI i).toNatClampNeg)) = _; rw [nI_clamp (by omega)]) hdg kk
theorem q_readSs {c0 : Cond} {own : String} {index maxL n nL : Nat} {y : MethodName} {bytes : ByteArray} {ret : Option FieldType} {rm : Room} {As st0 : List Value} {v : Int32} (S : CallFix p m c cc nL s args (c0 :: WS) own) (hM : Met l y (Cond.code y bytes maxL ret :: WS) rm (va_Pc As (srP t D wc tys)) (pQ v) 0 0 noA)
    (hSt : SB t A s s.heap) (hK : va_K D classes tys s) (hP : va_P D classes ws H) (isC : List Nat) (hC : isC.filterMap (fun i => ws[i]?) = wc) (g : GoodIn (c0 :: WS) (va_wsS own index y (Cond.code y bytes maxL ret :: WS)))
    (hd : y.cls ≠ "java/lang/invoke/MethodHandle" ∧ y.cls ≠ "java/lang/invoke/VarHandle" ∧ (parseMethodDescriptor y.desc).map (fun d => d.parameters.length) = some n) (hrc : rm.cells = 0) (hrs : rm.slots = 0) (hR : rm.frames + 1 ≤ R.frames ∧ 8 + (maxL + 11) + rm.locals ≤ R.locals)
    (hn : As.length = n) (hsize : ls.size = nL) (hst : st0 = As.reverse ++ rest) (hW : (rest.map fun v => v.category).sum ≤ 8) (hdg : decode cc pc = .ok (.invokestatic index, 3)) (hf : cells ≤ R.cells ∧ slots ≤ R.slots) (hS : va_S A s.heap H locs)
    (kk : ∀ (H1 : Heap) (locs1 : List Loc), va_P D classes ws H1 → va_S A s.heap H1 locs1 → W p l e R s m args below meth c H1 locs1 cells slots Q (F0 m (pc + 3) ls (.int v :: rest))) : W p l e R s m args below meth c H locs cells slots Q (F0 m pc ls st0) := by
  have hPc := hP.sub isC hC
  refine va_calli (va_runS (rest := rest) S hM (va_cwS n S.2.2.2.2 g rfl hrc hrs hd hR) ⟨srP_blind, fun U hU hW => ⟨rfl, ⟨by rw [hU]; exact hPc, va_K.moved hW.alike hK⟩, SB_at hSt hS hW hU (fun q h => h.elim)⟩⟩ rfl hn hsize hst (lv_room hW) hdg hf) hS (fun q _ h => h.elim) (fun q h => h.elim) (fun r u t H1 locs1 ht hvm hw hB hz1 hk1 hS1 => ?_)
  cases hw
  exact kk H1 locs1 (hP.kept (fun k q hq => hk1 q.1 (hP k q hq).lt (fun h => h))) hS1
theorem q_readVs {c0 : Cond} {own C : String} {T : u_T} {N ci q0 : Nat} {fs : List Value} {index maxL n nL : Nat} {y : MethodName} {bytes : ByteArray} {ret : Option FieldType} {rm : Room} {b : Nat} {As st0 : List Value} {v : Int32} (S : CallFix p m c cc nL s args (c0 :: WS) own) (hM : Met l y (Cond.code y bytes maxL ret :: WS) rm (va_Pc (.ref b :: As) (srP t D wc tys)) (pQ v) 0 0 noA)
    (hSt : SB t A s s.heap) (hK : va_K D classes tys s) (hP : va_P D classes ws H) (he : ws[q0]? = some (b, .inr (ci, fs))) (hc : classes[ci]? = some (C, T, N)) (isC : List Nat) (hC : isC.filterMap (fun i => ws[i]?) = wc) (g : GoodIn (c0 :: WS) (wsV own index C y (Cond.code y bytes maxL ret :: WS)))
    (hd : y.cls ≠ "java/lang/invoke/MethodHandle" ∧ y.cls ≠ "java/lang/invoke/VarHandle" ∧ (parseMethodDescriptor y.desc).map (fun d => d.parameters.length) = some n) (hcl : y.cls = C) (hrc : rm.cells = 0) (hrs : rm.slots = 0) (hR : rm.frames + 1 ≤ R.frames ∧ 8 + (maxL + 11) + rm.locals ≤ R.locals)
    (hn : As.length = n) (hsize : ls.size = nL) (hst : st0 = As.reverse ++ .ref b :: rest) (hW : (rest.map fun v => v.category).sum ≤ 8) (hdg : decode cc pc = .ok (.invokevirtual index, 3)) (hf : cells ≤ R.cells ∧ slots ≤ R.slots) (hS : va_S A s.heap H locs)
    (kk : ∀ (H1 : Heap) (locs1 : List Loc), va_P D classes ws H1 → va_S A s.heap H1 locs1 → W p l e R s m args below meth c H1 locs1 cells slots Q (F0 m (pc + 3) ls (.int v :: rest))) : W p l e R s m args below meth c H locs cells slots Q (F0 m pc ls st0) := by
  have hPc := hP.sub isC hC
  refine va_calli (va_runV (rest := rest) (C := C) S hM (cwV n S.2.2.2.2 g rfl hrc hrs ⟨hcl, hd⟩ hR) ⟨srP_blind, va_recv hK hP hc he, fun U hU hW => ⟨rfl, ⟨by rw [hU]; exact hPc, va_K.moved hW.alike hK⟩, SB_at hSt hS hW hU (fun q h => h.elim)⟩⟩ rfl hn hsize hst (lv_room hW) hdg hf) hS (fun q _ h => h.elim) (fun q h => h.elim) (fun r u t H1 locs1 ht hvm hw hB hz1 hk1 hS1 => ?_)
  cases hw
  exact kk H1 locs1 (hP.kept (fun k q hq => hk1 q.1 (hP k q hq).lt (fun h => h))) hS1
theorem q_writeSvs {c0 : Cond} {own : String} {index maxL n nL : Nat} {y : MethodName} {bytes : ByteArray} {ret : Option FieldType} {rm : Room} {As st0 : List Value} (S : CallFix p m c cc nL s args (c0 :: WS) own) (hM : Met l y (Cond.code y bytes maxL ret :: WS) rm (va_Pc As (swP t D wc tys H.size)) (wQv D wc w1 H.size) 0 0 (va_A wc H.size))
    (hSt : SB t A s s.heap) (hK : va_K D classes tys s) (hP : va_P D classes ws H) (hD : va_D A ws) (hA : ∀ q, s.heap.size ≤ q → A q) (isC isR : List Nat) (hC : isC.map (fun i => ws[i]?) = wc.map some) (hnC : va_nd isC = true) (hRr : isR.map (fun i => ws[i]?) = wr.map some) (hnd : va_nd isR = true) (hdis : ∀ i ∈ isR, i ∉ isC) (hw1 : wc.map Prod.fst = w1.map Prod.fst)
    (g : GoodIn (c0 :: WS) (va_wsS own index y (Cond.code y bytes maxL ret :: WS)))
    (hd : y.cls ≠ "java/lang/invoke/MethodHandle" ∧ y.cls ≠ "java/lang/invoke/VarHandle" ∧ (parseMethodDescriptor y.desc).map (fun d => d.parameters.length) = some n) (hrc : rm.cells = 0) (hrs : rm.slots = 0) (hR : rm.frames + 1 ≤ R.frames ∧ 8 + (maxL + 11) + rm.locals ≤ R.locals)
    (hn : As.length = n) (hsize : ls.size = nL) (hst : st0 = As.reverse ++ rest) (hW : (rest.map fun v => v.category).sum ≤ 8) (hdg : decode cc pc = .ok (.invokestatic index, 3)) (hf : cells ≤ R.cells ∧ slots ≤ R.slots) (hS : va_S A s.heap H locs)
    (kk : ∀ (H1 : Heap) (locs1 : List Loc), va_P D classes (wr ++ w1) H1 → va_D A (wr ++ w1) → va_S A s.heap H1 locs1 → W p l e R s m args below meth c H1 locs1 cells slots Q (F0 m (pc + 3) ls (rest))) : W p l e R s m args below meth c H locs cells slots Q (F0 m pc ls st0) := by
  have hPc := hP.sub isC (q_subm hC)
  have hDc := hD.sub isC hnC hC
  have hFc := va_free (wc := wc) hD hS hA isC hC
  refine va_callv (va_runS (rest := rest) S hM (va_cwS n S.2.2.2.2 g rfl hrc hrs hd hR) ⟨swP_blind, fun U hU hW => ⟨rfl, ⟨by rw [hU]; exact hPc, va_K.moved hW.alike hK, hDc.weaken (fun _ _ _ _ => trivial), by rw [hU]⟩, SB_at hSt hS hW hU hFc⟩⟩ rfl hn hsize hst (lv_room hW) hdg hf) hS (fun q _ h => hFc q h) hFc (fun u t H1 locs1 ht hvm hw hB hz1 hk1 hS1 => ?_)
  skip
  rw [ht] at hB
  obtain ⟨hP9, hD9⟩ := va_join hP hD isC isR hC hRr hnd hdis hk1 hFc hB (n_D hDc.self hw1)
  exact kk H1 locs1 hP9 hD9 hS1
theorem q_writeSis {c0 : Cond} {own : String} {index maxL n nL : Nat} {y : MethodName} {bytes : ByteArray} {ret : Option FieldType} {rm : Room} {As st0 : List Value} {v : Int32} (S : CallFix p m c cc nL s args (c0 :: WS) own) (hM : Met l y (Cond.code y bytes maxL ret :: WS) rm (va_Pc As (swP t D wc tys H.size)) (wQi D v wc w1 H.size) 0 0 (va_A wc H.size))
    (hSt : SB t A s s.heap) (hK : va_K D classes tys s) (hP : va_P D classes ws H) (hD : va_D A ws) (hA : ∀ q, s.heap.size ≤ q → A q) (isC isR : List Nat) (hC : isC.map (fun i => ws[i]?) = wc.map some) (hnC : va_nd isC = true) (hRr : isR.map (fun i => ws[i]?) = wr.map some) (hnd : va_nd isR = true) (hdis : ∀ i ∈ isR, i ∉ isC) (hw1 : wc.map Prod.fst = w1.map Prod.fst)
    (g : GoodIn (c0 :: WS) (va_wsS own index y (Cond.code y bytes maxL ret :: WS)))
    (hd : y.cls ≠ "java/lang/invoke/MethodHandle" ∧ y.cls ≠ "java/lang/invoke/VarHandle" ∧ (parseMethodDescriptor y.desc).map (fun d => d.parameters.length) = some n) (hrc : rm.cells = 0) (hrs : rm.slots = 0) (hR : rm.frames + 1 ≤ R.frames ∧ 8 + (maxL + 11) + rm.locals ≤ R.locals)
    (hn : As.length = n) (hsize : ls.size = nL) (hst : st0 = As.reverse ++ rest) (hW : (rest.map fun v => v.category).sum ≤ 8) (hdg : decode cc pc = .ok (.invokestatic index, 3)) (hf : cells ≤ R.cells ∧ slots ≤ R.slots) (hS : va_S A s.heap H locs)
    (kk : ∀ (H1 : Heap) (locs1 : List Loc), va_P D classes (wr ++ w1) H1 → va_D A (wr ++ w1) → va_S A s.heap H1 locs1 → W p l e R s m args below meth c H1 locs1 cells slots Q (F0 m (pc + 3) ls (.int v :: rest))) : W p l e R s m args below meth c H locs cells slots Q (F0 m pc ls st0) := by
  have hPc := hP.sub isC (q_subm hC)
  have hDc := hD.sub isC hnC hC
  have hFc := va_free (wc := wc) hD hS hA isC hC
  refine va_calli (va_runS (rest := rest) S hM (va_cwS n S.2.2.2.2 g rfl hrc hrs hd hR) ⟨swP_blind, fun U hU hW => ⟨rfl, ⟨by rw [hU]; exact hPc, va_K.moved hW.alike hK, hDc.weaken (fun _ _ _ _ => trivial), by rw [hU]⟩, SB_at hSt hS hW hU hFc⟩⟩ rfl hn hsize hst (lv_room hW) hdg hf) hS (fun q _ h => hFc q h) hFc (fun r u t H1 locs1 ht hvm hw hB hz1 hk1 hS1 => ?_)
  cases hw
  rw [ht] at hB
  obtain ⟨hP9, hD9⟩ := va_join hP hD isC isR hC hRr hnd hdis hk1 hFc hB (n_D hDc.self hw1)
  exact kk H1 locs1 hP9 hD9 hS1
theorem q_writeVvs {c0 : Cond} {own C : String} {T : u_T} {N ci q0 : Nat} {fs : List Value} {index maxL n nL : Nat} {y : MethodName} {bytes : ByteArray} {ret : Option FieldType} {rm : Room} {b : Nat} {As st0 : List Value} (S : CallFix p m c cc nL s args (c0 :: WS) own) (hM : Met l y (Cond.code y bytes maxL ret :: WS) rm (va_Pc (.ref b :: As) (swP t D wc tys H.size)) (wQv D wc w1 H.size) 0 0 (va_A wc H.size))
    (hSt : SB t A s s.heap) (hK : va_K D classes tys s) (hP : va_P D classes ws H) (hD : va_D A ws) (hA : ∀ q, s.heap.size ≤ q → A q) (he : ws[q0]? = some (b, .inr (ci, fs))) (hc : classes[ci]? = some (C, T, N)) (isC isR : List Nat) (hC : isC.map (fun i => ws[i]?) = wc.map some) (hnC : va_nd isC = true) (hRr : isR.map (fun i => ws[i]?) = wr.map some) (hnd : va_nd isR = true) (hdis : ∀ i ∈ isR, i ∉ isC) (hw1 : wc.map Prod.fst = w1.map Prod.fst)
    (g : GoodIn (c0 :: WS) (wsV own index C y (Cond.code y bytes maxL ret :: WS)))
    (hd : y.cls ≠ "java/lang/invoke/MethodHandle" ∧ y.cls ≠ "java/lang/invoke/VarHandle" ∧ (parseMethodDescriptor y.desc).map (fun d => d.parameters.length) = some n) (hcl : y.cls = C) (hrc : rm.cells = 0) (hrs : rm.slots = 0) (hR : rm.frames + 1 ≤ R.frames ∧ 8 + (maxL + 11) + rm.locals ≤ R.locals)
    (hn : As.length = n) (hsize : ls.size = nL) (hst : st0 = As.reverse ++ .ref b :: rest) (hW : (rest.map fun v => v.category).sum ≤ 8) (hdg : decode cc pc = .ok (.invokevirtual index, 3)) (hf : cells ≤ R.cells ∧ slots ≤ R.slots) (hS : va_S A s.heap H locs)
    (kk : ∀ (H1 : Heap) (locs1 : List Loc), va_P D classes (wr ++ w1) H1 → va_D A (wr ++ w1) → va_S A s.heap H1 locs1 → W p l e R s m args below meth c H1 locs1 cells slots Q (F0 m (pc + 3) ls (rest))) : W p l e R s m args below meth c H locs cells slots Q (F0 m pc ls st0) := by
  have hPc := hP.sub isC (q_subm hC)
  have hDc := hD.sub isC hnC hC
  have hFc := va_free (wc := wc) hD hS hA isC hC
  refine va_callv (va_runV (rest := rest) (C := C) S hM (cwV n S.2.2.2.2 g rfl hrc hrs ⟨hcl, hd⟩ hR) ⟨swP_blind, va_recv hK hP hc he, fun U hU hW => ⟨rfl, ⟨by rw [hU]; exact hPc, va_K.moved hW.alike hK, hDc.weaken (fun _ _ _ _ => trivial), by rw [hU]⟩, SB_at hSt hS hW hU hFc⟩⟩ rfl hn hsize hst (lv_room hW) hdg hf) hS (fun q _ h => hFc q h) hFc (fun u t H1 locs1 ht hvm hw hB hz1 hk1 hS1 => ?_)
  skip
  rw [ht] at hB
  obtain ⟨hP9, hD9⟩ := va_join hP hD isC isR hC hRr hnd hdis hk1 hFc hB (n_D hDc.self hw1)
  exact kk H1 locs1 hP9 hD9 hS1
theorem q_writeVis {c0 : Cond} {own C : String} {T : u_T} {N ci q0 : Nat} {fs : List Value} {index maxL n nL : Nat} {y : MethodName} {bytes : ByteArray} {ret : Option FieldType} {rm : Room} {b : Nat} {As st0 : List Value} {v : Int32} (S : CallFix p m c cc nL s args (c0 :: WS) own) (hM : Met l y (Cond.code y bytes maxL ret :: WS) rm (va_Pc (.ref b :: As) (swP t D wc tys H.size)) (wQi D v wc w1 H.size) 0 0 (va_A wc H.size))
    (hSt : SB t A s s.heap) (hK : va_K D classes tys s) (hP : va_P D classes ws H) (hD : va_D A ws) (hA : ∀ q, s.heap.size ≤ q → A q) (he : ws[q0]? = some (b, .inr (ci, fs))) (hc : classes[ci]? = some (C, T, N)) (isC isR : List Nat) (hC : isC.map (fun i => ws[i]?) = wc.map some) (hnC : va_nd isC = true) (hRr : isR.map (fun i => ws[i]?) = wr.map some) (hnd : va_nd isR = true) (hdis : ∀ i ∈ isR, i ∉ isC) (hw1 : wc.map Prod.fst = w1.map Prod.fst)
    (g : GoodIn (c0 :: WS) (wsV own index C y (Cond.code y bytes maxL ret :: WS)))
    (hd : y.cls ≠ "java/lang/invoke/MethodHandle" ∧ y.cls ≠ "java/lang/invoke/VarHandle" ∧ (parseMethodDescriptor y.desc).map (fun d => d.parameters.length) = some n) (hcl : y.cls = C) (hrc : rm.cells = 0) (hrs : rm.slots = 0) (hR : rm.frames + 1 ≤ R.frames ∧ 8 + (maxL + 11) + rm.locals ≤ R.locals)
    (hn : As.length = n) (hsize : ls.size = nL) (hst : st0 = As.reverse ++ .ref b :: rest) (hW : (rest.map fun v => v.category).sum ≤ 8) (hdg : decode cc pc = .ok (.invokevirtual index, 3)) (hf : cells ≤ R.cells ∧ slots ≤ R.slots) (hS : va_S A s.heap H locs)
    (kk : ∀ (H1 : Heap) (locs1 : List Loc), va_P D classes (wr ++ w1) H1 → va_D A (wr ++ w1) → va_S A s.heap H1 locs1 → W p l e R s m args below meth c H1 locs1 cells slots Q (F0 m (pc + 3) ls (.int v :: rest))) : W p l e R s m args below meth c H locs cells slots Q (F0 m pc ls st0) := by
  have hPc := hP.sub isC (q_subm hC)
  have hDc := hD.sub isC hnC hC
  have hFc := va_free (wc := wc) hD hS hA isC hC
  refine va_calli (va_runV (rest := rest) (C := C) S hM (cwV n S.2.2.2.2 g rfl hrc hrs ⟨hcl, hd⟩ hR) ⟨swP_blind, va_recv hK hP hc he, fun U hU hW => ⟨rfl, ⟨by rw [hU]; exact hPc, va_K.moved hW.alike hK, hDc.weaken (fun _ _ _ _ => trivial), by rw [hU]⟩, SB_at hSt hS hW hU hFc⟩⟩ rfl hn hsize hst (lv_room hW) hdg hf) hS (fun q _ h => hFc q h) hFc (fun r u t H1 locs1 ht hvm hw hB hz1 hk1 hS1 => ?_)
  cases hw
  rw [ht] at hB
  obtain ⟨hP9, hD9⟩ := va_join hP hD isC isR hC hRr hnd hdis hk1 hFc hB (n_D hDc.self hw1)
  exact kk H1 locs1 hP9 hD9 hS1
/-- a nest mate's static method that reads -/
theorem q_readSN {c0 : Cond} {own host : String} {index maxL n nL : Nat} {y : MethodName} {bytes : ByteArray} {ret : Option FieldType} {rm : Room} {As st0 : List Value} {v : Int32} (S : CallFix p m c cc nL s args (c0 :: WS) own) (hM : Met l y (Cond.code y bytes maxL ret :: WS) rm (va_Pc As (rP D wc tys)) (pQ v) 0 0 noA)
    (hl : va_Nw (.methodLinkNest own index y host) s) (hK : va_K D classes tys s) (hP : va_P D classes ws H) (isC : List Nat) (hC : isC.filterMap (fun i => ws[i]?) = wc) (g : Cond.code y bytes maxL ret ∈ WS) (hini : Cond.initialized y.cls ∈ WS) (hstat : Cond.static y ∈ WS)
    (hd : y.cls ≠ "java/lang/invoke/MethodHandle" ∧ y.cls ≠ "java/lang/invoke/VarHandle" ∧ (parseMethodDescriptor y.desc).map (fun d => d.parameters.length) = some n) (hrc : rm.cells = 0) (hrs : rm.slots = 0) (hR : rm.frames + 1 ≤ R.frames ∧ 8 + (maxL + 11) + rm.locals ≤ R.locals)
    (hn : As.length = n) (hsize : ls.size = nL) (hst : st0 = As.reverse ++ rest) (hW : (rest.map fun v => v.category).sum ≤ 8) (hdg : decode cc pc = .ok (.invokestatic index, 3)) (hf : cells ≤ R.cells ∧ slots ≤ R.slots) {H0 : Heap} (hS : va_S A H0 H locs)
    (kk : ∀ (H1 : Heap) (locs1 : List Loc), va_P D classes ws H1 → va_S A H0 H1 locs1 → W p l e R s m args below meth c H1 locs1 cells slots Q (F0 m (pc + 3) ls (.int v :: rest))) : W p l e R s m args below meth c H locs cells slots Q (F0 m pc ls st0) := by
  have hPc := hP.sub isC hC
  refine va_calli (va_runSN (rest := rest) S hM ⟨va_cnB n S.2.2.2.2 (q_good g) rfl hrc hrs hl (S.2.2.2.2 _ (List.mem_cons_of_mem _ hini)) hd hR, S.2.2.2.2 _ (List.mem_cons_of_mem _ hstat), trivial⟩ ⟨rP_blind, fun U hU hW => ⟨rfl, by rw [hU]; exact hPc, va_K.moved hW.alike hK⟩⟩ rfl hn hsize hst (lv_room hW) hdg hf) hS (fun q _ h => h.elim) (fun q h => h.elim) (fun r u t H1 locs1 ht hvm hw hB hz1 hk1 hS1 => ?_)
  cases hw
  exact kk H1 locs1 (hP.kept (fun k q hq => hk1 q.1 (hP k q hq).lt (fun h => h))) hS1
end STAT
section SPEC_C6
theorem lcT_lt : ∀ v, v < 4 → lcT v < 4 := by decide
theorem fm_swap : ∀ v, v < 4 → ∀ k, k < 8 → fmW (lcT v * 8 + k) = fmN v k ∧ lcT v * 8 + k < 32 := by decide +kernel
theorem db_ck : ∀ v, v < 4 → dbT v = 26 - ckN v := by decide
theorem nr_at {x k : Nat} (h : bcN (fmW k ^^^ x) ≤ 3) (hlo : ∀ j, j < k → ¬ bcN (fmW j ^^^ x) ≤ 3) (hk : k < 32) : nrL x 32 = k := by
  have h1 : ∀ n, n ≤ k → nrL x n = 4294967295 := by
    intro n
    induction n with
    | zero => intro _; rfl
    | succ n ih => intro hn; rw [nrL, ih (by omega), if_neg (by decide), if_neg (hlo n (by omega))]
  have h2 : ∀ n, n + k + 1 ≤ 32 → nrL x (n + k + 1) = k := by
    intro n
    induction n with
    | zero => intro _; rw [Nat.zero_add, nrL, h1 k (Nat.le_refl _), if_neg (by decide), if_pos h]
    | succ n ih => intro hn; rw [show n + 1 + k + 1 = (n + k + 1) + 1 by omega, nrL, ih (by omega), if_pos hk]
  have := h2 (31 - k) (by omega)
  rwa [show 31 - k + k + 1 = 32 by omega] at this
theorem nr_no {x : Nat} (hno : ∀ j, j < 32 → ¬ bcN (fmW j ^^^ x) ≤ 3) : nrL x 32 = 4294967295 := by
  have h1 : ∀ n, n ≤ 32 → nrL x n = 4294967295 := by
    intro n
    induction n with
    | zero => intro _; rfl
    | succ n ih => intro hn; rw [nrL, ih (by omega), if_neg (by decide), if_neg (hno n (by omega))]
  exact h1 32 (Nat.le_refl _)
/-- rows stay below 2 to the 21 -/
theorem flw_lt {ro R C b : Nat → Nat} (h : ∀ j, j < 21 → ro j < 2097152) {N : Nat} (hR : ∀ k, k < N → R k < 21) : ∀ n, n ≤ N → ∀ j, j < 21 → flw ro R C b n j < 2097152 := by
  intro n
  induction n with
  | zero => intro _; exact h
  | succ n ih =>
    intro hn j hj
    rw [flw]
    split
    · unfold va_up
      split
      · exact Nat.xor_lt_two_pow (n := 21) (ih (by omega) _ (hR n (by omega))) (Nat.pow_lt_pow_right (by decide) (by omega))
      · exact ih (by omega) j hj
    · exact ih (by omega) j hj
theorem ptD_lt {fx bt dx dy : Nat → Nat} {f mk : Nat} (h : ∀ j, j < 21 → fx j < 2097152) (hx : ∀ j, j < 208 → dx j < 21) : ∀ j, j < 21 → ptD fx bt dx dy f mk j < 2097152 := by
  unfold ptD
  rw [pdL_w, pfL_w, pfL_w]
  exact flw_lt (flw_lt (flw_lt h (fun k hk => (f1_chk k hk).1) 15 (Nat.le_refl _)) (fun k hk => (f2_chk k hk).1) 15 (Nat.le_refl _)) hx 208 (Nat.le_refl _)
theorem cpy_lt {fx ro : Nat → Nat} (h : ∀ j, j < 21 → fx j < 2097152) : ∀ j, j < 21 → va_cpy fx ro 0 0 21 j < 2097152 := fun j hj => by
  unfold va_cpy
  rw [if_pos ⟨Nat.zero_le _, by omega⟩]
  exact h _ (by omega)
/-- the rows while the best mask is sought -/
def pdI (fx bt dx dy : Nat → Nat) (lv : Nat) (ro : Nat → Nat) : Nat → Nat → Nat
  | 0 => ro
  | k + 1 => ptD (va_cpy fx (pdI fx bt dx dy lv ro k) 0 0 21) bt dx dy (fmN lv k) k
def peF (fx bt dx dy : Nat → Nat) (lv : Nat) (ro : Nat → Nat) (k : Nat) : Nat := peN (pdI fx bt dx dy lv ro (k + 1)) 21
/-- the best and its penalty, among the first k -/
def bmC (f : Nat → Nat) : Nat → Nat × Nat
  | 0 => (0, 0)
  | k + 1 => if k = 0 ∨ f k < (bmC f k).2 then (k, f k) else bmC f k
theorem bmC_t {f : Nat → Nat} {k : Nat} (h : k = 0 ∨ f k < (bmC f k).2) : bmC f (k + 1) = (k, f k) := if_pos h
theorem bmC_f {f : Nat → Nat} {k : Nat} (h0 : k ≠ 0) (h : (bmC f k).2 ≤ f k) : bmC f (k + 1) = bmC f k := if_neg (fun z => z.elim h0 (fun y => by omega))
theorem prL_b (x : Nat) : ∀ k, k ≤ 21 → (prL x k).1 ≤ 22 * k := by
  intro k
  induction k with
  | zero => intro _; exact Nat.le_refl 0
  | succ k ih =>
    intro hk
    have i := ih (by omega)
    have h2 := prL_le x k
    rw [prL]
    split
    · show (prL x k).1 ≤ _; omega
    · show (prL x k).1 + _ ≤ _
      split <;> omega
theorem peL_b (x : Nat) : ∀ k, peL x k ≤ 40 * k := by
  intro k
  induction k with
  | zero => exact Nat.le_refl 0
  | succ k ih => rw [peL]; split <;> omega
theorem pqL_b (ro : Nat → Nat) : ∀ k, pqL ro k ≤ 63 * k := by
  intro k
  induction k with
  | zero => exact Nat.le_refl 0
  | succ k ih => have h := bcN_le (sqA ro k); show pqL ro k + bcN (sqA ro k) ≤ _; omega
theorem peN_b (ro : Nat → Nat) : ∀ k, peN ro k ≤ 10000 + 2000 * k := by
  intro k
  induction k with
  | zero =>
    have h1 := pqL_b ro 20
    have h2 := pbL_le ro 21
    have h3 := adN_lt (20 * pbL ro 21)
    show 3 * pqL ro 20 + 10 * (adN (20 * pbL ro 21) / 441) ≤ _
    omega
  | succ k ih =>
    have h1 := prL_b (ro k) 21 (Nat.le_refl _)
    have h2 := prL_b (clN ro k 21) 21 (Nat.le_refl _)
    have h3 := peL_b (ro k) 11
    have h4 := peL_b (clN ro k 21) 11
    show peN ro k + (((prL (ro k) 21).1 + peL (ro k) 11) + ((prL (clN ro k 21) 21).1 + peL (clN ro k 21) 11)) ≤ _
    omega
theorem peF_b (fx bt dx dy : Nat → Nat) (lv : Nat) (ro : Nat → Nat) (k : Nat) : peF fx bt dx dy lv ro k ≤ 52000 := peN_b _ 21
theorem bmC_b {f : Nat → Nat} (h : ∀ k, f k ≤ 52000) : ∀ k, (bmC f k).2 ≤ 52000 := by
  intro k
  induction k with
  | zero => exact Nat.zero_le _
  | succ k ih =>
    rw [bmC]
    split
    · exact h k
    · exact ih
end SPEC_C6
