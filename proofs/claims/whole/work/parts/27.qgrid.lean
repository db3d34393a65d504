theorem kw_171 : (Jvm.Cond.fieldLink "SquareCodes$Reading" (11 : Nat) "SquareCodes$Reading" "facts" "[I") ∈ WS := WS_tbl 171 (by decide +kernel) rfl
theorem kw_172 : (Jvm.Cond.fieldLink "SquareCodes$Reading" (15 : Nat) "SquareCodes$Reading" "bytes" "[I") ∈ WS := WS_tbl 172 (by decide +kernel) rfl
theorem kw_746 : (Jvm.Cond.methodLink "SquareCodes$Reading" (28 : Nat) ({ cls := "java/lang/System", name := "arraycopy", desc := "(Ljava/lang/Object;ILjava/lang/Object;II)V" } : Jvm.MethodName)) ∈ WS := WS_tbl 746 (by decide +kernel) rfl
theorem kw_174 : (Jvm.Cond.fieldLink "SquareCodes$Reading" (40 : Nat) "SquareCodes$Reading" "count" "I") ∈ WS := WS_tbl 174 (by decide +kernel) rfl
theorem kw_173 : (Jvm.Cond.fieldLink "SquareCodes$Reading" (18 : Nat) "SquareCodes$Reading" "characters" "[C") ∈ WS := WS_tbl 173 (by decide +kernel) rfl
theorem kw_251 : (Jvm.Cond.constant "java/lang/Integer" (265 : Nat) (1431655765 : Int32)) ∈ WS := WS_tbl 251 (by decide +kernel) rfl
theorem kw_252 : (Jvm.Cond.constant "java/lang/Integer" (266 : Nat) (858993459 : Int32)) ∈ WS := WS_tbl 252 (by decide +kernel) rfl
theorem kw_253 : (Jvm.Cond.constant "java/lang/Integer" (267 : Nat) (252645135 : Int32)) ∈ WS := WS_tbl 253 (by decide +kernel) rfl
theorem kw_559 : (Jvm.Cond.methodLink "SquareCodes$Grid" (15 : Nat) ({ cls := "java/lang/System", name := "arraycopy", desc := "(Ljava/lang/Object;ILjava/lang/Object;II)V" } : Jvm.MethodName)) ∈ WS := WS_tbl 559 (by decide +kernel) rfl
theorem kw_247 : (Jvm.Cond.constant "SquareCodes$Grid" (45 : Nat) (1048575 : Int32)) ∈ WS := WS_tbl 247 (by decide +kernel) rfl
theorem kw_248 : (Jvm.Cond.methodLink "SquareCodes$Grid" (46 : Nat) ({ cls := "java/lang/Integer", name := "bitCount", desc := "(I)I" } : Jvm.MethodName)) ∈ WS := WS_tbl 248 (by decide +kernel) rfl
theorem kw_249 : (Jvm.Cond.static ({ cls := "java/lang/Integer", name := "bitCount", desc := "(I)I" } : Jvm.MethodName)) ∈ WS := WS_tbl 249 (by decide +kernel) rfl
theorem kw_26 : (Jvm.Cond.initialized "java/lang/Integer") ∈ WS := WS_tbl 26 (by decide +kernel) rfl
set_option maxRecDepth 1000000 in
theorem kw_250 : cd_j_Integer_bitCount ∈ WS := WS_tbl 250 rfl rfl
theorem kw_258 : (Jvm.Cond.methodLink "SquareCodes$Grid" (51 : Nat) ({ cls := "java/lang/Math", name := "abs", desc := "(I)I" } : Jvm.MethodName)) ∈ WS := WS_tbl 258 (by decide +kernel) rfl
theorem kw_259 : (Jvm.Cond.static ({ cls := "java/lang/Math", name := "abs", desc := "(I)I" } : Jvm.MethodName)) ∈ WS := WS_tbl 259 (by decide +kernel) rfl
set_option maxRecDepth 1000000 in
theorem kw_260 : cd_j_Math_abs ∈ WS := WS_tbl 260 rfl rfl
theorem kw_261 : (Jvm.Cond.methodLink "SquareCodes$Grid" (28 : Nat) ({ cls := "SquareCodes$Grid", name := "penaltyOfLine", desc := "(I)I" } : Jvm.MethodName)) ∈ WS := WS_tbl 261 (by decide +kernel) rfl
theorem kw_262 : (Jvm.Cond.static ({ cls := "SquareCodes$Grid", name := "penaltyOfLine", desc := "(I)I" } : Jvm.MethodName)) ∈ WS := WS_tbl 262 (by decide +kernel) rfl
set_option maxRecDepth 1000000 in
theorem kw_263 : cd_q_Grid_penaltyOfLine ∈ WS := WS_tbl 263 rfl rfl
theorem kw_270 : (Jvm.Cond.methodLink "SquareCodes$Grid" (32 : Nat) ({ cls := "SquareCodes$Grid", name := "columnBits", desc := "(I)I" } : Jvm.MethodName)) ∈ WS := WS_tbl 270 (by decide +kernel) rfl
theorem kw_272 : (Jvm.Cond.instanceMethod ({ cls := "SquareCodes$Grid", name := "columnBits", desc := "(I)I" } : Jvm.MethodName)) ∈ WS := WS_tbl 272 (by decide +kernel) rfl
theorem ks_2 : Cond.selects R_Grid y_q_Grid_columnBits y_q_Grid_columnBits ∈ WS := WS_sel 2 (by decide +kernel) rfl
set_option maxRecDepth 1000000 in
theorem kw_273 : cd_q_Grid_columnBits ∈ WS := WS_tbl 273 rfl rfl
theorem kw_243 : (Jvm.Cond.methodLink "SquareCodes$Grid" (21 : Nat) ({ cls := "SquareCodes$Grid", name := "penaltyOfSquares", desc := "()I" } : Jvm.MethodName)) ∈ WS := WS_tbl 243 (by decide +kernel) rfl
theorem kw_245 : (Jvm.Cond.instanceMethod ({ cls := "SquareCodes$Grid", name := "penaltyOfSquares", desc := "()I" } : Jvm.MethodName)) ∈ WS := WS_tbl 245 (by decide +kernel) rfl
theorem ks_0 : Cond.selects R_Grid y_q_Grid_penaltyOfSquares y_q_Grid_penaltyOfSquares ∈ WS := WS_sel 0 (by decide +kernel) rfl
set_option maxRecDepth 1000000 in
theorem kw_246 : cd_q_Grid_penaltyOfSquares ∈ WS := WS_tbl 246 rfl rfl
theorem kw_254 : (Jvm.Cond.methodLink "SquareCodes$Grid" (25 : Nat) ({ cls := "SquareCodes$Grid", name := "penaltyOfBalance", desc := "()I" } : Jvm.MethodName)) ∈ WS := WS_tbl 254 (by decide +kernel) rfl
theorem kw_256 : (Jvm.Cond.instanceMethod ({ cls := "SquareCodes$Grid", name := "penaltyOfBalance", desc := "()I" } : Jvm.MethodName)) ∈ WS := WS_tbl 256 (by decide +kernel) rfl
theorem ks_1 : Cond.selects R_Grid y_q_Grid_penaltyOfBalance y_q_Grid_penaltyOfBalance ∈ WS := WS_sel 1 (by decide +kernel) rfl
set_option maxRecDepth 1000000 in
theorem kw_257 : cd_q_Grid_penaltyOfBalance ∈ WS := WS_tbl 257 rfl rfl
section
theorem d_q_Reading_keepTold_0 : decode b_q_Reading_keepTold 0 = .ok (.aload_n 0, 1) := by decide +kernel
theorem d_q_Reading_keepTold_1 : decode b_q_Reading_keepTold 1 = .ok (.getfield 11, 3) := by decide +kernel
theorem d_q_Reading_keepTold_4 : decode b_q_Reading_keepTold 4 = .ok (.iconst 0, 1) := by decide +kernel
theorem d_q_Reading_keepTold_5 : decode b_q_Reading_keepTold 5 = .ok (.iload_n 1, 1) := by decide +kernel
theorem d_q_Reading_keepTold_6 : decode b_q_Reading_keepTold 6 = .ok (.iastore, 1) := by decide +kernel
theorem d_q_Reading_keepTold_7 : decode b_q_Reading_keepTold 7 = .ok (.aload_n 0, 1) := by decide +kernel
theorem d_q_Reading_keepTold_8 : decode b_q_Reading_keepTold 8 = .ok (.getfield 11, 3) := by decide +kernel
theorem d_q_Reading_keepTold_11 : decode b_q_Reading_keepTold 11 = .ok (.iconst 1, 1) := by decide +kernel
theorem d_q_Reading_keepTold_12 : decode b_q_Reading_keepTold 12 = .ok (.iload_n 2, 1) := by decide +kernel
theorem d_q_Reading_keepTold_13 : decode b_q_Reading_keepTold 13 = .ok (.iastore, 1) := by decide +kernel
theorem d_q_Reading_keepTold_14 : decode b_q_Reading_keepTold 14 = .ok (.aload_n 0, 1) := by decide +kernel
theorem d_q_Reading_keepTold_15 : decode b_q_Reading_keepTold 15 = .ok (.getfield 11, 3) := by decide +kernel
theorem d_q_Reading_keepTold_18 : decode b_q_Reading_keepTold 18 = .ok (.iconst 2, 1) := by decide +kernel
theorem d_q_Reading_keepTold_19 : decode b_q_Reading_keepTold 19 = .ok (.iload_n 3, 1) := by decide +kernel
theorem d_q_Reading_keepTold_20 : decode b_q_Reading_keepTold 20 = .ok (.iastore, 1) := by decide +kernel
theorem d_q_Reading_keepTold_21 : decode b_q_Reading_keepTold 21 = .ok (.aload_n 0, 1) := by decide +kernel
theorem d_q_Reading_keepTold_22 : decode b_q_Reading_keepTold 22 = .ok (.getfield 11, 3) := by decide +kernel
theorem d_q_Reading_keepTold_25 : decode b_q_Reading_keepTold 25 = .ok (.iconst 3, 1) := by decide +kernel
theorem d_q_Reading_keepTold_26 : decode b_q_Reading_keepTold 26 = .ok (.iload 4, 2) := by decide +kernel
theorem d_q_Reading_keepTold_28 : decode b_q_Reading_keepTold 28 = .ok (.ifCond .eq 7, 3) := by decide +kernel
theorem d_q_Reading_keepTold_31 : decode b_q_Reading_keepTold 31 = .ok (.iconst 1, 1) := by decide +kernel
theorem d_q_Reading_keepTold_32 : decode b_q_Reading_keepTold 32 = .ok (.goto 4, 3) := by decide +kernel
theorem d_q_Reading_keepTold_35 : decode b_q_Reading_keepTold 35 = .ok (.iconst 0, 1) := by decide +kernel
theorem d_q_Reading_keepTold_36 : decode b_q_Reading_keepTold 36 = .ok (.iastore, 1) := by decide +kernel
theorem d_q_Reading_keepTold_37 : decode b_q_Reading_keepTold 37 = .ok (.return_, 1) := by decide +kernel
end
section
variable {p : Program} {l : Launch} {e : Env} {R : Room} {s : State} {m : MethodId} {args : Array Value} {below : List Frame} {meth : Method} {c : Code} {cells slots : Nat} {Q : State → Prop} {A : Nat → Prop} {H0 : Heap} {D : va_G}
set_option maxHeartbeats 1000000 in
set_option maxRecDepth 100000 in
theorem bd_q_Reading_keepTold (cI cC : ClassId) (rg r1 r2 r3 rc : Nat) (fa4 : Nat → Nat) (x y z b : Nat) (hb1 : b ≤ 1) (S : CallFix p m c b_q_Reading_keepTold 5 s args (cd_q_Reading_keepTold :: WS) R_Reading) (hRf : 0 ≤ R.frames) (hRl : 0 ≤ R.locals) (hRc : cells ≤ R.cells ∧ slots ≤ R.slots) (hK : va_K D classes [(cI, .int), (cC, .char)] s) (hA : ∀ q, H0.size ≤ q → A q) (kr : ∀ (pc : Nat) (ls : Array Slot) (H : Heap) (locs : List Loc), decode b_q_Reading_keepTold pc = .ok (.return_, 1) → va_P D classes [(rg, .inr (4, [.ref r1, .ref r2, .ref r3, .int (nI rc)])), (r1, .inl (cI, 4, .inl (fun j => nI ((va_up (va_up (va_up (va_up fa4 0 x) 1 y) 2 z) 3 b) j))))] H → va_D A [(rg, .inr (4, [.ref r1, .ref r2, .ref r3, .int (nI rc)])), (r1, .inl (cI, 4, .inl (fun j => nI ((va_up (va_up (va_up (va_up fa4 0 x) 1 y) 2 z) 3 b) j))))] → va_S A H0 H locs → W p l e R s m args below meth c H locs cells slots Q (F0 m pc ls [])) : ∀ (ls : Array Slot) (H : Heap) (locs : List Loc), lv_has ls 5 [(0, .ref rg), (1, .int (nI x)), (2, .int (nI y)), (3, .int (nI z)), (4, .int (nI b))] → va_P D classes [(rg, .inr (4, [.ref r1, .ref r2, .ref r3, .int (nI rc)])), (r1, .inl (cI, 4, .inl (fun j => nI (fa4 j))))] H → va_D A [(rg, .inr (4, [.ref r1, .ref r2, .ref r3, .int (nI rc)])), (r1, .inl (cI, 4, .inl (fun j => nI (fa4 j))))] → va_S A H0 H locs → W p l e R s m args below meth c H locs cells slots Q (F0 m 0 ls []) := by
  obtain ⟨hx, hb, hml, hown, hts⟩ := id S
  intro ls H locs hl hP hD hS
  refine lv_aload_n hx hb d_q_Reading_keepTold_0 rfl (lv_at hl 0 rfl) ?_
  refine n_get (C := R_Reading) (T := F_Reading) (N := 4) (v := .ref r1) hx hb hts u_Reading_in hown hK hP 0 rfl rfl 0 (by decide) kw_171 rfl d_q_Reading_keepTold_1 ?_
  refine lv_iconst (v := nI 0) hx hb d_q_Reading_keepTold_4 (by decide) ?_
  refine lv_iload_n hx hb d_q_Reading_keepTold_5 rfl (lv_at hl 1 rfl) ?_
  refine n_iast hx hb hK hP hD hS 1 0 rfl rfl (by omega) (by decide) d_q_Reading_keepTold_6 (fun H locs hP hD hS => ?_)
  have hP : va_P D classes [(rg, .inr (4, [.ref r1, .ref r2, .ref r3, .int (nI rc)])), (r1, .inl (cI, 4, .inl (fun j => nI ((va_up fa4 0 x) j))))] H := hP
  have hD : va_D A [(rg, .inr (4, [.ref r1, .ref r2, .ref r3, .int (nI rc)])), (r1, .inl (cI, 4, .inl (fun j => nI ((va_up fa4 0 x) j))))] := hD
  refine lv_aload_n hx hb d_q_Reading_keepTold_7 rfl (lv_at hl 0 rfl) ?_
  refine n_get (C := R_Reading) (T := F_Reading) (N := 4) (v := .ref r1) hx hb hts u_Reading_in hown hK hP 0 rfl rfl 0 (by decide) kw_171 rfl d_q_Reading_keepTold_8 ?_
  refine lv_iconst (v := nI 1) hx hb d_q_Reading_keepTold_11 (by decide) ?_
  refine lv_iload_n hx hb d_q_Reading_keepTold_12 rfl (lv_at hl 2 rfl) ?_
  refine n_iast hx hb hK hP hD hS 1 0 rfl rfl (by omega) (by decide) d_q_Reading_keepTold_13 (fun H locs hP hD hS => ?_)
  have hP : va_P D classes [(rg, .inr (4, [.ref r1, .ref r2, .ref r3, .int (nI rc)])), (r1, .inl (cI, 4, .inl (fun j => nI ((va_up (va_up fa4 0 x) 1 y) j))))] H := hP
  have hD : va_D A [(rg, .inr (4, [.ref r1, .ref r2, .ref r3, .int (nI rc)])), (r1, .inl (cI, 4, .inl (fun j => nI ((va_up (va_up fa4 0 x) 1 y) j))))] := hD
  refine lv_aload_n hx hb d_q_Reading_keepTold_14 rfl (lv_at hl 0 rfl) ?_
  refine n_get (C := R_Reading) (T := F_Reading) (N := 4) (v := .ref r1) hx hb hts u_Reading_in hown hK hP 0 rfl rfl 0 (by decide) kw_171 rfl d_q_Reading_keepTold_15 ?_
  refine lv_iconst (v := nI 2) hx hb d_q_Reading_keepTold_18 (by decide) ?_
  refine lv_iload_n hx hb d_q_Reading_keepTold_19 rfl (lv_at hl 3 rfl) ?_
  refine n_iast hx hb hK hP hD hS 1 0 rfl rfl (by omega) (by decide) d_q_Reading_keepTold_20 (fun H locs hP hD hS => ?_)
  have hP : va_P D classes [(rg, .inr (4, [.ref r1, .ref r2, .ref r3, .int (nI rc)])), (r1, .inl (cI, 4, .inl (fun j => nI ((va_up (va_up (va_up fa4 0 x) 1 y) 2 z) j))))] H := hP
  have hD : va_D A [(rg, .inr (4, [.ref r1, .ref r2, .ref r3, .int (nI rc)])), (r1, .inl (cI, 4, .inl (fun j => nI ((va_up (va_up (va_up fa4 0 x) 1 y) 2 z) j))))] := hD
  refine lv_aload_n hx hb d_q_Reading_keepTold_21 rfl (lv_at hl 0 rfl) ?_
  refine n_get (C := R_Reading) (T := F_Reading) (N := 4) (v := .ref r1) hx hb hts u_Reading_in hown hK hP 0 rfl rfl 0 (by decide) kw_171 rfl d_q_Reading_keepTold_22 ?_
  refine lv_iconst (v := nI 3) hx hb d_q_Reading_keepTold_25 (by decide) ?_
  refine lv_iload hx hb d_q_Reading_keepTold_26 (lv_at hl 4 rfl) ?_
  refine n_if_eq hx hb d_q_Reading_keepTold_28 (tgt := 35) rfl (by omega) (fun g28 => ?_) (fun g28 => ?_)
  · skip
    refine lv_iconst (v := nI 0) hx hb d_q_Reading_keepTold_35 (by decide) ?_
    refine n_topn (show 0 = b from (by omega)) ?_
    refine n_iast hx hb hK hP hD hS 1 0 rfl rfl (by omega) (by decide) d_q_Reading_keepTold_36 (fun H locs hP hD hS => ?_)
    have hP : va_P D classes [(rg, .inr (4, [.ref r1, .ref r2, .ref r3, .int (nI rc)])), (r1, .inl (cI, 4, .inl (fun j => nI ((va_up (va_up (va_up (va_up fa4 0 x) 1 y) 2 z) 3 b) j))))] H := hP
    have hD : va_D A [(rg, .inr (4, [.ref r1, .ref r2, .ref r3, .int (nI rc)])), (r1, .inl (cI, 4, .inl (fun j => nI ((va_up (va_up (va_up (va_up fa4 0 x) 1 y) 2 z) 3 b) j))))] := hD
    exact kr _ ls H locs d_q_Reading_keepTold_37 hP hD hS
  · skip
    refine lv_iconst (v := nI 1) hx hb d_q_Reading_keepTold_31 (by decide) ?_
    refine lv_goto hx hb d_q_Reading_keepTold_32 (tgt := 36) rfl ?_
    refine n_topn (show 1 = b from (by omega)) ?_
    refine n_iast hx hb hK hP hD hS 1 0 rfl rfl (by omega) (by decide) d_q_Reading_keepTold_36 (fun H locs hP hD hS => ?_)
    have hP : va_P D classes [(rg, .inr (4, [.ref r1, .ref r2, .ref r3, .int (nI rc)])), (r1, .inl (cI, 4, .inl (fun j => nI ((va_up (va_up (va_up (va_up fa4 0 x) 1 y) 2 z) 3 b) j))))] H := hP
    have hD : va_D A [(rg, .inr (4, [.ref r1, .ref r2, .ref r3, .int (nI rc)])), (r1, .inl (cI, 4, .inl (fun j => nI ((va_up (va_up (va_up (va_up fa4 0 x) 1 y) 2 z) 3 b) j))))] := hD
    exact kr _ ls H locs d_q_Reading_keepTold_37 hP hD hS
set_option maxHeartbeats 1000000 in
set_option maxRecDepth 100000 in
theorem c_q_Reading_keepTold (l : Launch) (D : va_G) (cI cC : ClassId) (rg r1 r2 r3 rc : Nat) (fa4 : Nat → Nat) (x y z b : Nat) (hb1 : b ≤ 1) (sz : Nat) : Met l y_q_Reading_keepTold (cd_q_Reading_keepTold :: WS) { frames := 0, cells := 0, slots := 0, locals := 0 } (va_Pc [.ref rg, .int (nI x), .int (nI y), .int (nI z), .int (nI b)] (wP D [(rg, .inr (4, [.ref r1, .ref r2, .ref r3, .int (nI rc)])), (r1, .inl (cI, 4, .inl (fun j => nI (fa4 j))))] [(cI, .int), (cC, .char)] sz)) (wQv D [(rg, .inr (4, [.ref r1, .ref r2, .ref r3, .int (nI rc)])), (r1, .inl (cI, 4, .inl (fun j => nI (fa4 j))))] [(rg, .inr (4, [.ref r1, .ref r2, .ref r3, .int (nI rc)])), (r1, .inl (cI, 4, .inl (fun j => nI ((va_up (va_up (va_up (va_up fa4 0 x) 1 y) 2 z) 3 b) j))))] sz) 0 0 (va_A [(rg, .inr (4, [.ref r1, .ref r2, .ref r3, .int (nI rc)])), (r1, .inl (cI, 4, .inl (fun j => nI (fa4 j))))] sz) := by
  refine Met.ofW (cc := b_q_Reading_keepTold) (maxL := 5) (ret := none) (by decide) rfl ?_
  intro p e s m args below meth c s₁ B hml hv0
  obtain ⟨rfl, hP, hK, hD0, hsz⟩ := hv0
  have hts := atoms_spec (ws := cd_q_Reading_keepTold :: WS) B.pre
  have hown : s.vm.findClass R_Reading = some m.cls := findClass_of_methodNamed B.named
  have hlocks := B.notSynchronized
  subst hsz
  have hD := hD0.self (sz := s.heap.size)
  have hl := lv_entry ([.ref rg, .int (nI x), .int (nI y), .int (nI z), .int (nI b)]) (n := 5) (Nat.le_of_ble_eq_true rfl)
  rw [lg_entry_eq]
  generalize (lg_sl ([.ref rg, .int (nI x), .int (nI y), .int (nI z), .int (nI b)]) ++ List.replicate (5 - (lg_sl ([.ref rg, .int (nI x), .int (nI y), .int (nI z), .int (nI b)])).length) Slot.unset).toArray = ls at hl ⊢
  refine bd_q_Reading_keepTold cI cC rg r1 r2 r3 rc fa4 x y z b hb1 ⟨B.exec, B.bytes, hml, hown, hts⟩ (Nat.le_refl _) (Nat.le_refl _) ⟨Nat.le_refl _, Nat.le_refl _⟩ hK (fun q h => Or.inr h) (fun pc ls H locs hd hP hD hS => ?_) ls _ _ hl hP hD (va_S.rf)
  exact W.vret B.exec B.bytes B.returns (fun t ht _ => ⟨⟨(), rfl, trivial, (by have h9 := hP; rw [← ht] at h9; exact h9)⟩, hS.F ht⟩) hS.2.2 hd
end
section
theorem d_q_Reading_keepBytes_0 : decode b_q_Reading_keepBytes 0 = .ok (.aload_n 1, 1) := by decide +kernel
theorem d_q_Reading_keepBytes_1 : decode b_q_Reading_keepBytes 1 = .ok (.iconst 0, 1) := by decide +kernel
theorem d_q_Reading_keepBytes_2 : decode b_q_Reading_keepBytes 2 = .ok (.aload_n 0, 1) := by decide +kernel
theorem d_q_Reading_keepBytes_3 : decode b_q_Reading_keepBytes 3 = .ok (.getfield 15, 3) := by decide +kernel
theorem d_q_Reading_keepBytes_6 : decode b_q_Reading_keepBytes 6 = .ok (.iconst 0, 1) := by decide +kernel
theorem d_q_Reading_keepBytes_7 : decode b_q_Reading_keepBytes 7 = .ok (.bipush 26, 2) := by decide +kernel
theorem d_q_Reading_keepBytes_9 : decode b_q_Reading_keepBytes 9 = .ok (.invokestatic 28, 3) := by decide +kernel
theorem d_q_Reading_keepBytes_12 : decode b_q_Reading_keepBytes 12 = .ok (.return_, 1) := by decide +kernel
end
section
variable {p : Program} {l : Launch} {e : Env} {R : Room} {s : State} {m : MethodId} {args : Array Value} {below : List Frame} {meth : Method} {c : Code} {cells slots : Nat} {Q : State → Prop} {A : Nat → Prop} {H0 : Heap} {D : va_G}
set_option maxHeartbeats 1000000 in
set_option maxRecDepth 100000 in
theorem bd_q_Reading_keepBytes (cI cC : ClassId) (rg r1 r2 r3 rc : Nat) (ba : Nat) (rb bt : Nat → Nat) (S : CallFix p m c b_q_Reading_keepBytes 2 s args (cd_q_Reading_keepBytes :: WS) R_Reading) (hRf : 1 ≤ R.frames) (hRl : 60 ≤ R.locals) (hRc : cells ≤ R.cells ∧ slots ≤ R.slots) (hK : va_K D classes [(cI, .int), (cC, .char)] s) (hA : ∀ q, H0.size ≤ q → A q) (kr : ∀ (pc : Nat) (ls : Array Slot) (H : Heap) (locs : List Loc), decode b_q_Reading_keepBytes pc = .ok (.return_, 1) → va_P D classes [(rg, .inr (4, [.ref r1, .ref r2, .ref r3, .int (nI rc)])), (r2, .inl (cI, 26, .inl (fun j => nI ((va_cpy bt rb 0 0 26) j)))), (ba, .inl (cI, 26, .inl (fun j => nI (bt j))))] H → va_D A [(rg, .inr (4, [.ref r1, .ref r2, .ref r3, .int (nI rc)])), (r2, .inl (cI, 26, .inl (fun j => nI ((va_cpy bt rb 0 0 26) j)))), (ba, .inl (cI, 26, .inl (fun j => nI (bt j))))] → va_S A H0 H locs → W p l e R s m args below meth c H locs cells slots Q (F0 m pc ls [])) : ∀ (ls : Array Slot) (H : Heap) (locs : List Loc), lv_has ls 2 [(0, .ref rg), (1, .ref ba)] → va_P D classes [(rg, .inr (4, [.ref r1, .ref r2, .ref r3, .int (nI rc)])), (r2, .inl (cI, 26, .inl (fun j => nI (rb j)))), (ba, .inl (cI, 26, .inl (fun j => nI (bt j))))] H → va_D A [(rg, .inr (4, [.ref r1, .ref r2, .ref r3, .int (nI rc)])), (r2, .inl (cI, 26, .inl (fun j => nI (rb j)))), (ba, .inl (cI, 26, .inl (fun j => nI (bt j))))] → va_S A H0 H locs → W p l e R s m args below meth c H locs cells slots Q (F0 m 0 ls []) := by
  obtain ⟨hx, hb, hml, hown, hts⟩ := id S
  intro ls H locs hl hP hD hS
  refine lv_aload_n hx hb d_q_Reading_keepBytes_0 rfl (lv_at hl 1 rfl) ?_
  refine lv_iconst (v := nI 0) hx hb d_q_Reading_keepBytes_1 (by decide) ?_
  refine lv_aload_n hx hb d_q_Reading_keepBytes_2 rfl (lv_at hl 0 rfl) ?_
  refine n_get (C := R_Reading) (T := F_Reading) (N := 4) (v := .ref r2) hx hb hts u_Reading_in hown hK hP 0 rfl rfl 1 (by decide) kw_172 rfl d_q_Reading_keepBytes_3 ?_
  refine lv_iconst (v := nI 0) hx hb d_q_Reading_keepBytes_6 (by decide) ?_
  refine lv_bipush (v := nI 26) hx hb d_q_Reading_keepBytes_7 (by decide) ?_
  refine n_copyi S hl.1 kw_746 kw_546 kw_545 kw_24 hK hP hD hS 2 1 0 rfl rfl rfl rfl (by omega) (by omega) (by decide) (by decide) (Nat.le_trans (Nat.le_of_ble_eq_true rfl) hRf) (Nat.le_trans (Nat.le_of_ble_eq_true rfl) hRl) d_q_Reading_keepBytes_9 (fun H locs hP hD hS => ?_)
  have hP : va_P D classes [(rg, .inr (4, [.ref r1, .ref r2, .ref r3, .int (nI rc)])), (r2, .inl (cI, 26, .inl (fun j => nI ((va_cpy bt rb 0 0 26) j)))), (ba, .inl (cI, 26, .inl (fun j => nI (bt j))))] H := hP
  have hD : va_D A [(rg, .inr (4, [.ref r1, .ref r2, .ref r3, .int (nI rc)])), (r2, .inl (cI, 26, .inl (fun j => nI ((va_cpy bt rb 0 0 26) j)))), (ba, .inl (cI, 26, .inl (fun j => nI (bt j))))] := hD
  exact kr _ ls H locs d_q_Reading_keepBytes_12 hP hD hS
set_option maxHeartbeats 1000000 in
set_option maxRecDepth 100000 in
theorem c_q_Reading_keepBytes (l : Launch) (D : va_G) (cI cC : ClassId) (rg r1 r2 r3 rc : Nat) (ba : Nat) (rb bt : Nat → Nat) (sz : Nat) : Met l y_q_Reading_keepBytes (cd_q_Reading_keepBytes :: WS) { frames := 1, cells := 0, slots := 0, locals := 60 } (va_Pc [.ref rg, .ref ba] (wP D [(rg, .inr (4, [.ref r1, .ref r2, .ref r3, .int (nI rc)])), (r2, .inl (cI, 26, .inl (fun j => nI (rb j)))), (ba, .inl (cI, 26, .inl (fun j => nI (bt j))))] [(cI, .int), (cC, .char)] sz)) (wQv D [(rg, .inr (4, [.ref r1, .ref r2, .ref r3, .int (nI rc)])), (r2, .inl (cI, 26, .inl (fun j => nI (rb j)))), (ba, .inl (cI, 26, .inl (fun j => nI (bt j))))] [(rg, .inr (4, [.ref r1, .ref r2, .ref r3, .int (nI rc)])), (r2, .inl (cI, 26, .inl (fun j => nI ((va_cpy bt rb 0 0 26) j)))), (ba, .inl (cI, 26, .inl (fun j => nI (bt j))))] sz) 0 0 (va_A [(rg, .inr (4, [.ref r1, .ref r2, .ref r3, .int (nI rc)])), (r2, .inl (cI, 26, .inl (fun j => nI (rb j)))), (ba, .inl (cI, 26, .inl (fun j => nI (bt j))))] sz) := by
  refine Met.ofW (cc := b_q_Reading_keepBytes) (maxL := 2) (ret := none) (by decide) rfl ?_
  intro p e s m args below meth c s₁ B hml hv0
  obtain ⟨rfl, hP, hK, hD0, hsz⟩ := hv0
  have hts := atoms_spec (ws := cd_q_Reading_keepBytes :: WS) B.pre
  have hown : s.vm.findClass R_Reading = some m.cls := findClass_of_methodNamed B.named
  have hlocks := B.notSynchronized
  subst hsz
  have hD := hD0.self (sz := s.heap.size)
  have hl := lv_entry ([.ref rg, .ref ba]) (n := 2) (Nat.le_of_ble_eq_true rfl)
  rw [lg_entry_eq]
  generalize (lg_sl ([.ref rg, .ref ba]) ++ List.replicate (2 - (lg_sl ([.ref rg, .ref ba])).length) Slot.unset).toArray = ls at hl ⊢
  refine bd_q_Reading_keepBytes cI cC rg r1 r2 r3 rc ba rb bt  ⟨B.exec, B.bytes, hml, hown, hts⟩ (Nat.le_refl _) (Nat.le_refl _) ⟨Nat.le_refl _, Nat.le_refl _⟩ hK (fun q h => Or.inr h) (fun pc ls H locs hd hP hD hS => ?_) ls _ _ hl hP hD (va_S.rf)
  exact W.vret B.exec B.bytes B.returns (fun t ht _ => ⟨⟨(), rfl, trivial, (by have h9 := hP; rw [← ht] at h9; exact h9)⟩, hS.F ht⟩) hS.2.2 hd
end
section
theorem d_q_Reading_length_0 : decode b_q_Reading_length 0 = .ok (.aload_n 0, 1) := by decide +kernel
theorem d_q_Reading_length_1 : decode b_q_Reading_length 1 = .ok (.getfield 40, 3) := by decide +kernel
theorem d_q_Reading_length_4 : decode b_q_Reading_length 4 = .ok (.ireturn, 1) := by decide +kernel
end
section
variable {p : Program} {l : Launch} {e : Env} {R : Room} {s : State} {m : MethodId} {args : Array Value} {below : List Frame} {meth : Method} {c : Code} {cells slots : Nat} {Q : State → Prop} {A : Nat → Prop} {H0 : Heap} {D : va_G}
set_option maxHeartbeats 1000000 in
set_option maxRecDepth 100000 in
theorem bd_q_Reading_length (cI cC : ClassId) (rg r1 r2 r3 rc : Nat) (S : CallFix p m c b_q_Reading_length 1 s args (cd_q_Reading_length :: WS) R_Reading) (hRf : 0 ≤ R.frames) (hRl : 0 ≤ R.locals) (hRc : cells ≤ R.cells ∧ slots ≤ R.slots) (hK : va_K D classes [(cI, .int), (cC, .char)] s) (kr : ∀ (pc : Nat) (ls : Array Slot) (H : Heap) (locs : List Loc), decode b_q_Reading_length pc = .ok (.ireturn, 1) → va_P D classes [(rg, .inr (4, [.ref r1, .ref r2, .ref r3, .int (nI rc)]))] H → va_S A H0 H locs → W p l e R s m args below meth c H locs cells slots Q (F0 m pc ls [.int (nI rc)])) : ∀ (ls : Array Slot) (H : Heap) (locs : List Loc), lv_has ls 1 [(0, .ref rg)] → va_P D classes [(rg, .inr (4, [.ref r1, .ref r2, .ref r3, .int (nI rc)]))] H → va_S A H0 H locs → W p l e R s m args below meth c H locs cells slots Q (F0 m 0 ls []) := by
  obtain ⟨hx, hb, hml, hown, hts⟩ := id S
  intro ls H locs hl hP hS
  refine lv_aload_n hx hb d_q_Reading_length_0 rfl (lv_at hl 0 rfl) ?_
  refine n_get (C := R_Reading) (T := F_Reading) (N := 4) (v := .int (nI rc)) hx hb hts u_Reading_in hown hK hP 0 rfl rfl 3 (by decide) kw_174 rfl d_q_Reading_length_1 ?_
  exact kr _ ls H locs d_q_Reading_length_4 hP hS
set_option maxHeartbeats 1000000 in
set_option maxRecDepth 100000 in
theorem c_q_Reading_length (l : Launch) (D : va_G) (cI cC : ClassId) (rg r1 r2 r3 rc : Nat) : Met l y_q_Reading_length (cd_q_Reading_length :: WS) { frames := 0, cells := 0, slots := 0, locals := 0 } (va_Pc [.ref rg] (rP D [(rg, .inr (4, [.ref r1, .ref r2, .ref r3, .int (nI rc)]))] [(cI, .int), (cC, .char)])) (pQ (nI rc)) 0 0 noA := by
  refine Met.ofW (cc := b_q_Reading_length) (maxL := 1) (ret := (some .int)) (by decide) rfl ?_
  intro p e s m args below meth c s₁ B hml hv0
  obtain ⟨rfl, hP, hK⟩ := hv0
  have hts := atoms_spec (ws := cd_q_Reading_length :: WS) B.pre
  have hown : s.vm.findClass R_Reading = some m.cls := findClass_of_methodNamed B.named
  have hlocks := B.notSynchronized
  have hl := lv_entry ([.ref rg]) (n := 1) (Nat.le_of_ble_eq_true rfl)
  rw [lg_entry_eq]
  generalize (lg_sl ([.ref rg]) ++ List.replicate (1 - (lg_sl ([.ref rg])).length) Slot.unset).toArray = ls at hl ⊢
  refine bd_q_Reading_length cI cC rg r1 r2 r3 rc  ⟨B.exec, B.bytes, hml, hown, hts⟩ (Nat.le_refl _) (Nat.le_refl _) ⟨Nat.le_refl _, Nat.le_refl _⟩ hK (fun pc ls H locs hd hP hS => ?_) ls _ _ hl hP (va_S.rf (A := noA))
  exact W.iret B.exec B.bytes B.returns (fun t ht _ => ⟨⟨_, (), rfl, rfl, trivial⟩, hS.F ht⟩) hS.2.2 hd
end
section
theorem d_q_Reading_character_0 : decode b_q_Reading_character 0 = .ok (.iload_n 1, 1) := by decide +kernel
theorem d_q_Reading_character_1 : decode b_q_Reading_character 1 = .ok (.ifCond .lt 20, 3) := by decide +kernel
theorem d_q_Reading_character_4 : decode b_q_Reading_character 4 = .ok (.iload_n 1, 1) := by decide +kernel
theorem d_q_Reading_character_5 : decode b_q_Reading_character 5 = .ok (.aload_n 0, 1) := by decide +kernel
theorem d_q_Reading_character_6 : decode b_q_Reading_character 6 = .ok (.getfield 40, 3) := by decide +kernel
theorem d_q_Reading_character_9 : decode b_q_Reading_character 9 = .ok (.if_icmp .ge 12, 3) := by decide +kernel
theorem d_q_Reading_character_12 : decode b_q_Reading_character 12 = .ok (.aload_n 0, 1) := by decide +kernel
theorem d_q_Reading_character_13 : decode b_q_Reading_character 13 = .ok (.getfield 18, 3) := by decide +kernel
theorem d_q_Reading_character_16 : decode b_q_Reading_character 16 = .ok (.iload_n 1, 1) := by decide +kernel
theorem d_q_Reading_character_17 : decode b_q_Reading_character 17 = .ok (.caload, 1) := by decide +kernel
theorem d_q_Reading_character_18 : decode b_q_Reading_character 18 = .ok (.goto 4, 3) := by decide +kernel
theorem d_q_Reading_character_21 : decode b_q_Reading_character 21 = .ok (.iconst (-1), 1) := by decide +kernel
theorem d_q_Reading_character_22 : decode b_q_Reading_character 22 = .ok (.ireturn, 1) := by decide +kernel
end
section
variable {p : Program} {l : Launch} {e : Env} {R : Room} {s : State} {m : MethodId} {args : Array Value} {below : List Frame} {meth : Method} {c : Code} {cells slots : Nat} {Q : State → Prop} {A : Nat → Prop} {H0 : Heap} {D : va_G}
set_option maxHeartbeats 1000000 in
set_option maxRecDepth 100000 in
theorem bd_q_Reading_character_in (cI cC : ClassId) (rg r1 r2 r3 rc : Nat) (rh : Nat → Nat) (x : Nat) (hx0 : x < rc) (hrc0 : rc ≤ 64) (S : CallFix p m c b_q_Reading_character 2 s args (cd_q_Reading_character :: WS) R_Reading) (hRf : 0 ≤ R.frames) (hRl : 0 ≤ R.locals) (hRc : cells ≤ R.cells ∧ slots ≤ R.slots) (hK : va_K D classes [(cI, .int), (cC, .char)] s) (kr : ∀ (pc : Nat) (ls : Array Slot) (H : Heap) (locs : List Loc), decode b_q_Reading_character pc = .ok (.ireturn, 1) → va_P D classes [(rg, .inr (4, [.ref r1, .ref r2, .ref r3, .int (nI rc)])), (r3, .inl (cC, 64, .inl (fun j => nI (rh j))))] H → va_S A H0 H locs → W p l e R s m args below meth c H locs cells slots Q (F0 m pc ls [.int (nI (rh x))])) : ∀ (ls : Array Slot) (H : Heap) (locs : List Loc), lv_has ls 2 [(0, .ref rg), (1, .int (nI x))] → va_P D classes [(rg, .inr (4, [.ref r1, .ref r2, .ref r3, .int (nI rc)])), (r3, .inl (cC, 64, .inl (fun j => nI (rh j))))] H → va_S A H0 H locs → W p l e R s m args below meth c H locs cells slots Q (F0 m 0 ls []) := by
  obtain ⟨hx, hb, hml, hown, hts⟩ := id S
  intro ls H locs hl hP hS
  refine lv_iload_n hx hb d_q_Reading_character_0 rfl (lv_at hl 1 rfl) ?_
  refine n_if_lt hx hb d_q_Reading_character_1 (tgt := 21) rfl (by omega) ?_
  refine lv_iload_n hx hb d_q_Reading_character_4 rfl (lv_at hl 1 rfl) ?_
  refine lv_aload_n hx hb d_q_Reading_character_5 rfl (lv_at hl 0 rfl) ?_
  refine n_get (C := R_Reading) (T := F_Reading) (N := 4) (v := .int (nI rc)) hx hb hts u_Reading_in hown hK hP 0 rfl rfl 3 (by decide) kw_174 rfl d_q_Reading_character_6 ?_
  refine n_icmp_ge hx hb d_q_Reading_character_9 (tgt := 21) rfl (by omega) (by omega) (fun g9 => absurd g9 (by omega)) (fun g9 => ?_)
  refine lv_aload_n hx hb d_q_Reading_character_12 rfl (lv_at hl 0 rfl) ?_
  refine n_get (C := R_Reading) (T := F_Reading) (N := 4) (v := .ref r3) hx hb hts u_Reading_in hown hK hP 0 rfl rfl 2 (by decide) kw_173 rfl d_q_Reading_character_13 ?_
  refine lv_iload_n hx hb d_q_Reading_character_16 rfl (lv_at hl 1 rfl) ?_
  refine n_cald hx hb hK hP 1 1 rfl rfl (by omega) (by decide) d_q_Reading_character_17 ?_
  refine lv_goto hx hb d_q_Reading_character_18 (tgt := 22) rfl ?_
  exact kr _ ls H locs d_q_Reading_character_22 hP hS
set_option maxHeartbeats 1000000 in
set_option maxRecDepth 100000 in
theorem c_q_Reading_character_in (l : Launch) (D : va_G) (cI cC : ClassId) (rg r1 r2 r3 rc : Nat) (rh : Nat → Nat) (x : Nat) (hx0 : x < rc) (hrc0 : rc ≤ 64) : Met l y_q_Reading_character (cd_q_Reading_character :: WS) { frames := 0, cells := 0, slots := 0, locals := 0 } (va_Pc [.ref rg, .int (nI x)] (rP D [(rg, .inr (4, [.ref r1, .ref r2, .ref r3, .int (nI rc)])), (r3, .inl (cC, 64, .inl (fun j => nI (rh j))))] [(cI, .int), (cC, .char)])) (pQ (nI (rh x))) 0 0 noA := by
  refine Met.ofW (cc := b_q_Reading_character) (maxL := 2) (ret := (some .int)) (by decide) rfl ?_
  intro p e s m args below meth c s₁ B hml hv0
  obtain ⟨rfl, hP, hK⟩ := hv0
  have hts := atoms_spec (ws := cd_q_Reading_character :: WS) B.pre
  have hown : s.vm.findClass R_Reading = some m.cls := findClass_of_methodNamed B.named
  have hlocks := B.notSynchronized
  have hl := lv_entry ([.ref rg, .int (nI x)]) (n := 2) (Nat.le_of_ble_eq_true rfl)
  rw [lg_entry_eq]
  generalize (lg_sl ([.ref rg, .int (nI x)]) ++ List.replicate (2 - (lg_sl ([.ref rg, .int (nI x)])).length) Slot.unset).toArray = ls at hl ⊢
  refine bd_q_Reading_character_in cI cC rg r1 r2 r3 rc rh x hx0 hrc0 ⟨B.exec, B.bytes, hml, hown, hts⟩ (Nat.le_refl _) (Nat.le_refl _) ⟨Nat.le_refl _, Nat.le_refl _⟩ hK (fun pc ls H locs hd hP hS => ?_) ls _ _ hl hP (va_S.rf (A := noA))
  exact W.iret B.exec B.bytes B.returns (fun t ht _ => ⟨⟨_, (), rfl, rfl, trivial⟩, hS.F ht⟩) hS.2.2 hd
end
section
variable {p : Program} {l : Launch} {e : Env} {R : Room} {s : State} {m : MethodId} {args : Array Value} {below : List Frame} {meth : Method} {c : Code} {cells slots : Nat} {Q : State → Prop} {A : Nat → Prop} {H0 : Heap} {D : va_G}
set_option maxHeartbeats 1000000 in
set_option maxRecDepth 100000 in
theorem bd_q_Reading_character_out (cI cC : ClassId) (rg r1 r2 r3 rc : Nat) (rh : Nat → Nat) (x : Int32) (ho : x < 0 ∨ nI rc ≤ x) (S : CallFix p m c b_q_Reading_character 2 s args (cd_q_Reading_character :: WS) R_Reading) (hRf : 0 ≤ R.frames) (hRl : 0 ≤ R.locals) (hRc : cells ≤ R.cells ∧ slots ≤ R.slots) (hK : va_K D classes [(cI, .int), (cC, .char)] s) (kr : ∀ (pc : Nat) (ls : Array Slot) (H : Heap) (locs : List Loc), decode b_q_Reading_character pc = .ok (.ireturn, 1) → va_P D classes [(rg, .inr (4, [.ref r1, .ref r2, .ref r3, .int (nI rc)])), (r3, .inl (cC, 64, .inl (fun j => nI (rh j))))] H → va_S A H0 H locs → W p l e R s m args below meth c H locs cells slots Q (F0 m pc ls [.int (-1)])) : ∀ (ls : Array Slot) (H : Heap) (locs : List Loc), lv_has ls 2 [(0, .ref rg), (1, .int x)] → va_P D classes [(rg, .inr (4, [.ref r1, .ref r2, .ref r3, .int (nI rc)])), (r3, .inl (cC, 64, .inl (fun j => nI (rh j))))] H → va_S A H0 H locs → W p l e R s m args below meth c H locs cells slots Q (F0 m 0 ls []) := by
  obtain ⟨hx, hb, hml, hown, hts⟩ := id S
  intro ls H locs hl hP hS
  refine lv_iload_n hx hb d_q_Reading_character_0 rfl (lv_at hl 1 rfl) ?_
  refine lv_if_lt hx hb d_q_Reading_character_1 (tgt := 21) rfl (fun g1 => ?_) (fun g1 => ?_)
  · skip
    refine lv_iconst (v := (-1)) hx hb d_q_Reading_character_21 (by decide) ?_
    exact kr _ ls H locs d_q_Reading_character_22 hP hS
  · skip
    refine lv_iload_n hx hb d_q_Reading_character_4 rfl (lv_at hl 1 rfl) ?_
    refine lv_aload_n hx hb d_q_Reading_character_5 rfl (lv_at hl 0 rfl) ?_
    refine n_get (C := R_Reading) (T := F_Reading) (N := 4) (v := .int (nI rc)) hx hb hts u_Reading_in hown hK hP 0 rfl rfl 3 (by decide) kw_174 rfl d_q_Reading_character_6 ?_
    refine lv_icmp_ge hx hb d_q_Reading_character_9 (tgt := 21) rfl (fun g9 => ?_) (fun g9 => absurd (ho.resolve_left g1) g9)
    refine lv_iconst (v := (-1)) hx hb d_q_Reading_character_21 (by decide) ?_
    exact kr _ ls H locs d_q_Reading_character_22 hP hS
set_option maxHeartbeats 1000000 in
set_option maxRecDepth 100000 in
theorem c_q_Reading_character_out (l : Launch) (D : va_G) (cI cC : ClassId) (rg r1 r2 r3 rc : Nat) (rh : Nat → Nat) (x : Int32) (ho : x < 0 ∨ nI rc ≤ x) : Met l y_q_Reading_character (cd_q_Reading_character :: WS) { frames := 0, cells := 0, slots := 0, locals := 0 } (va_Pc [.ref rg, .int x] (rP D [(rg, .inr (4, [.ref r1, .ref r2, .ref r3, .int (nI rc)])), (r3, .inl (cC, 64, .inl (fun j => nI (rh j))))] [(cI, .int), (cC, .char)])) (pQ (-1)) 0 0 noA := by
  refine Met.ofW (cc := b_q_Reading_character) (maxL := 2) (ret := (some .int)) (by decide) rfl ?_
  intro p e s m args below meth c s₁ B hml hv0
  obtain ⟨rfl, hP, hK⟩ := hv0
  have hts := atoms_spec (ws := cd_q_Reading_character :: WS) B.pre
  have hown : s.vm.findClass R_Reading = some m.cls := findClass_of_methodNamed B.named
  have hlocks := B.notSynchronized
  have hl := lv_entry ([.ref rg, .int x]) (n := 2) (Nat.le_of_ble_eq_true rfl)
  rw [lg_entry_eq]
  generalize (lg_sl ([.ref rg, .int x]) ++ List.replicate (2 - (lg_sl ([.ref rg, .int x])).length) Slot.unset).toArray = ls at hl ⊢
  refine bd_q_Reading_character_out cI cC rg r1 r2 r3 rc rh x ho ⟨B.exec, B.bytes, hml, hown, hts⟩ (Nat.le_refl _) (Nat.le_refl _) ⟨Nat.le_refl _, Nat.le_refl _⟩ hK (fun pc ls H locs hd hP hS => ?_) ls _ _ hl hP (va_S.rf (A := noA))
  exact W.iret B.exec B.bytes B.returns (fun t ht _ => ⟨⟨_, (), rfl, rfl, trivial⟩, hS.F ht⟩) hS.2.2 hd
end
section
theorem d_q_Reading_fact_0 : decode b_q_Reading_fact 0 = .ok (.iload_n 1, 1) := by decide +kernel
theorem d_q_Reading_fact_1 : decode b_q_Reading_fact 1 = .ok (.ifCond .lt 17, 3) := by decide +kernel
theorem d_q_Reading_fact_4 : decode b_q_Reading_fact 4 = .ok (.iload_n 1, 1) := by decide +kernel
theorem d_q_Reading_fact_5 : decode b_q_Reading_fact 5 = .ok (.iconst 4, 1) := by decide +kernel
theorem d_q_Reading_fact_6 : decode b_q_Reading_fact 6 = .ok (.if_icmp .ge 12, 3) := by decide +kernel
theorem d_q_Reading_fact_9 : decode b_q_Reading_fact 9 = .ok (.aload_n 0, 1) := by decide +kernel
theorem d_q_Reading_fact_10 : decode b_q_Reading_fact 10 = .ok (.getfield 11, 3) := by decide +kernel
theorem d_q_Reading_fact_13 : decode b_q_Reading_fact 13 = .ok (.iload_n 1, 1) := by decide +kernel
theorem d_q_Reading_fact_14 : decode b_q_Reading_fact 14 = .ok (.iaload, 1) := by decide +kernel
theorem d_q_Reading_fact_15 : decode b_q_Reading_fact 15 = .ok (.goto 4, 3) := by decide +kernel
theorem d_q_Reading_fact_18 : decode b_q_Reading_fact 18 = .ok (.iconst (-1), 1) := by decide +kernel
theorem d_q_Reading_fact_19 : decode b_q_Reading_fact 19 = .ok (.ireturn, 1) := by decide +kernel
end
section
variable {p : Program} {l : Launch} {e : Env} {R : Room} {s : State} {m : MethodId} {args : Array Value} {below : List Frame} {meth : Method} {c : Code} {cells slots : Nat} {Q : State → Prop} {A : Nat → Prop} {H0 : Heap} {D : va_G}
set_option maxHeartbeats 1000000 in
set_option maxRecDepth 100000 in
theorem bd_q_Reading_fact_in (cI cC : ClassId) (rg r1 r2 r3 rc : Nat) (fa4 : Nat → Nat) (x : Nat) (hx0 : x < 4) (S : CallFix p m c b_q_Reading_fact 2 s args (cd_q_Reading_fact :: WS) R_Reading) (hRf : 0 ≤ R.frames) (hRl : 0 ≤ R.locals) (hRc : cells ≤ R.cells ∧ slots ≤ R.slots) (hK : va_K D classes [(cI, .int), (cC, .char)] s) (kr : ∀ (pc : Nat) (ls : Array Slot) (H : Heap) (locs : List Loc), decode b_q_Reading_fact pc = .ok (.ireturn, 1) → va_P D classes [(rg, .inr (4, [.ref r1, .ref r2, .ref r3, .int (nI rc)])), (r1, .inl (cI, 4, .inl (fun j => nI (fa4 j))))] H → va_S A H0 H locs → W p l e R s m args below meth c H locs cells slots Q (F0 m pc ls [.int (nI (fa4 x))])) : ∀ (ls : Array Slot) (H : Heap) (locs : List Loc), lv_has ls 2 [(0, .ref rg), (1, .int (nI x))] → va_P D classes [(rg, .inr (4, [.ref r1, .ref r2, .ref r3, .int (nI rc)])), (r1, .inl (cI, 4, .inl (fun j => nI (fa4 j))))] H → va_S A H0 H locs → W p l e R s m args below meth c H locs cells slots Q (F0 m 0 ls []) := by
  obtain ⟨hx, hb, hml, hown, hts⟩ := id S
  intro ls H locs hl hP hS
  refine lv_iload_n hx hb d_q_Reading_fact_0 rfl (lv_at hl 1 rfl) ?_
  refine n_if_lt hx hb d_q_Reading_fact_1 (tgt := 18) rfl (by omega) ?_
  refine lv_iload_n hx hb d_q_Reading_fact_4 rfl (lv_at hl 1 rfl) ?_
  refine lv_iconst (v := nI 4) hx hb d_q_Reading_fact_5 (by decide) ?_
  refine n_icmp_ge hx hb d_q_Reading_fact_6 (tgt := 18) rfl (by omega) (by omega) (fun g6 => absurd g6 (by omega)) (fun g6 => ?_)
  refine lv_aload_n hx hb d_q_Reading_fact_9 rfl (lv_at hl 0 rfl) ?_
  refine n_get (C := R_Reading) (T := F_Reading) (N := 4) (v := .ref r1) hx hb hts u_Reading_in hown hK hP 0 rfl rfl 0 (by decide) kw_171 rfl d_q_Reading_fact_10 ?_
  refine lv_iload_n hx hb d_q_Reading_fact_13 rfl (lv_at hl 1 rfl) ?_
  refine n_iald hx hb hK hP 1 0 rfl rfl (by omega) (by decide) d_q_Reading_fact_14 ?_
  refine lv_goto hx hb d_q_Reading_fact_15 (tgt := 19) rfl ?_
  exact kr _ ls H locs d_q_Reading_fact_19 hP hS
set_option maxHeartbeats 1000000 in
set_option maxRecDepth 100000 in
theorem c_q_Reading_fact_in (l : Launch) (D : va_G) (cI cC : ClassId) (rg r1 r2 r3 rc : Nat) (fa4 : Nat → Nat) (x : Nat) (hx0 : x < 4) : Met l y_q_Reading_fact (cd_q_Reading_fact :: WS) { frames := 0, cells := 0, slots := 0, locals := 0 } (va_Pc [.ref rg, .int (nI x)] (rP D [(rg, .inr (4, [.ref r1, .ref r2, .ref r3, .int (nI rc)])), (r1, .inl (cI, 4, .inl (fun j => nI (fa4 j))))] [(cI, .int), (cC, .char)])) (pQ (nI (fa4 x))) 0 0 noA := by
  refine Met.ofW (cc := b_q_Reading_fact) (maxL := 2) (ret := (some .int)) (by decide) rfl ?_
  intro p e s m args below meth c s₁ B hml hv0
  obtain ⟨rfl, hP, hK⟩ := hv0
  have hts := atoms_spec (ws := cd_q_Reading_fact :: WS) B.pre
  have hown : s.vm.findClass R_Reading = some m.cls := findClass_of_methodNamed B.named
  have hlocks := B.notSynchronized
  have hl := lv_entry ([.ref rg, .int (nI x)]) (n := 2) (Nat.le_of_ble_eq_true rfl)
  rw [lg_entry_eq]
  generalize (lg_sl ([.ref rg, .int (nI x)]) ++ List.replicate (2 - (lg_sl ([.ref rg, .int (nI x)])).length) Slot.unset).toArray = ls at hl ⊢
  refine bd_q_Reading_fact_in cI cC rg r1 r2 r3 rc fa4 x hx0 ⟨B.exec, B.bytes, hml, hown, hts⟩ (Nat.le_refl _) (Nat.le_refl _) ⟨Nat.le_refl _, Nat.le_refl _⟩ hK (fun pc ls H locs hd hP hS => ?_) ls _ _ hl hP (va_S.rf (A := noA))
  exact W.iret B.exec B.bytes B.returns (fun t ht _ => ⟨⟨_, (), rfl, rfl, trivial⟩, hS.F ht⟩) hS.2.2 hd
end
section
variable {p : Program} {l : Launch} {e : Env} {R : Room} {s : State} {m : MethodId} {args : Array Value} {below : List Frame} {meth : Method} {c : Code} {cells slots : Nat} {Q : State → Prop} {A : Nat → Prop} {H0 : Heap} {D : va_G}
set_option maxHeartbeats 1000000 in
set_option maxRecDepth 100000 in
theorem bd_q_Reading_fact_out (cI cC : ClassId) (rg r1 r2 r3 rc : Nat) (fa4 : Nat → Nat) (x : Int32) (ho : x < 0 ∨ nI 4 ≤ x) (S : CallFix p m c b_q_Reading_fact 2 s args (cd_q_Reading_fact :: WS) R_Reading) (hRf : 0 ≤ R.frames) (hRl : 0 ≤ R.locals) (hRc : cells ≤ R.cells ∧ slots ≤ R.slots) (hK : va_K D classes [(cI, .int), (cC, .char)] s) (kr : ∀ (pc : Nat) (ls : Array Slot) (H : Heap) (locs : List Loc), decode b_q_Reading_fact pc = .ok (.ireturn, 1) → va_P D classes [(rg, .inr (4, [.ref r1, .ref r2, .ref r3, .int (nI rc)])), (r1, .inl (cI, 4, .inl (fun j => nI (fa4 j))))] H → va_S A H0 H locs → W p l e R s m args below meth c H locs cells slots Q (F0 m pc ls [.int (-1)])) : ∀ (ls : Array Slot) (H : Heap) (locs : List Loc), lv_has ls 2 [(0, .ref rg), (1, .int x)] → va_P D classes [(rg, .inr (4, [.ref r1, .ref r2, .ref r3, .int (nI rc)])), (r1, .inl (cI, 4, .inl (fun j => nI (fa4 j))))] H → va_S A H0 H locs → W p l e R s m args below meth c H locs cells slots Q (F0 m 0 ls []) := by
  obtain ⟨hx, hb, hml, hown, hts⟩ := id S
  intro ls H locs hl hP hS
  refine lv_iload_n hx hb d_q_Reading_fact_0 rfl (lv_at hl 1 rfl) ?_
  refine lv_if_lt hx hb d_q_Reading_fact_1 (tgt := 18) rfl (fun g1 => ?_) (fun g1 => ?_)
  · skip
    refine lv_iconst (v := (-1)) hx hb d_q_Reading_fact_18 (by decide) ?_
    exact kr _ ls H locs d_q_Reading_fact_19 hP hS
  · skip
    refine lv_iload_n hx hb d_q_Reading_fact_4 rfl (lv_at hl 1 rfl) ?_
    refine lv_iconst (v := nI 4) hx hb d_q_Reading_fact_5 (by decide) ?_
    refine lv_icmp_ge hx hb d_q_Reading_fact_6 (tgt := 18) rfl (fun g6 => ?_) (fun g6 => absurd (ho.resolve_left g1) g6)
    refine lv_iconst (v := (-1)) hx hb d_q_Reading_fact_18 (by decide) ?_
    exact kr _ ls H locs d_q_Reading_fact_19 hP hS
set_option maxHeartbeats 1000000 in
set_option maxRecDepth 100000 in
theorem c_q_Reading_fact_out (l : Launch) (D : va_G) (cI cC : ClassId) (rg r1 r2 r3 rc : Nat) (fa4 : Nat → Nat) (x : Int32) (ho : x < 0 ∨ nI 4 ≤ x) : Met l y_q_Reading_fact (cd_q_Reading_fact :: WS) { frames := 0, cells := 0, slots := 0, locals := 0 } (va_Pc [.ref rg, .int x] (rP D [(rg, .inr (4, [.ref r1, .ref r2, .ref r3, .int (nI rc)])), (r1, .inl (cI, 4, .inl (fun j => nI (fa4 j))))] [(cI, .int), (cC, .char)])) (pQ (-1)) 0 0 noA := by
  refine Met.ofW (cc := b_q_Reading_fact) (maxL := 2) (ret := (some .int)) (by decide) rfl ?_
  intro p e s m args below meth c s₁ B hml hv0
  obtain ⟨rfl, hP, hK⟩ := hv0
  have hts := atoms_spec (ws := cd_q_Reading_fact :: WS) B.pre
  have hown : s.vm.findClass R_Reading = some m.cls := findClass_of_methodNamed B.named
  have hlocks := B.notSynchronized
  have hl := lv_entry ([.ref rg, .int x]) (n := 2) (Nat.le_of_ble_eq_true rfl)
  rw [lg_entry_eq]
  generalize (lg_sl ([.ref rg, .int x]) ++ List.replicate (2 - (lg_sl ([.ref rg, .int x])).length) Slot.unset).toArray = ls at hl ⊢
  refine bd_q_Reading_fact_out cI cC rg r1 r2 r3 rc fa4 x ho ⟨B.exec, B.bytes, hml, hown, hts⟩ (Nat.le_refl _) (Nat.le_refl _) ⟨Nat.le_refl _, Nat.le_refl _⟩ hK (fun pc ls H locs hd hP hS => ?_) ls _ _ hl hP (va_S.rf (A := noA))
  exact W.iret B.exec B.bytes B.returns (fun t ht _ => ⟨⟨_, (), rfl, rfl, trivial⟩, hS.F ht⟩) hS.2.2 hd
end
section
theorem d_q_Reading_byteAt_0 : decode b_q_Reading_byteAt 0 = .ok (.iload_n 1, 1) := by decide +kernel
theorem d_q_Reading_byteAt_1 : decode b_q_Reading_byteAt 1 = .ok (.ifCond .lt 18, 3) := by decide +kernel
theorem d_q_Reading_byteAt_4 : decode b_q_Reading_byteAt 4 = .ok (.iload_n 1, 1) := by decide +kernel
theorem d_q_Reading_byteAt_5 : decode b_q_Reading_byteAt 5 = .ok (.bipush 26, 2) := by decide +kernel
theorem d_q_Reading_byteAt_7 : decode b_q_Reading_byteAt 7 = .ok (.if_icmp .ge 12, 3) := by decide +kernel
theorem d_q_Reading_byteAt_10 : decode b_q_Reading_byteAt 10 = .ok (.aload_n 0, 1) := by decide +kernel
theorem d_q_Reading_byteAt_11 : decode b_q_Reading_byteAt 11 = .ok (.getfield 15, 3) := by decide +kernel
theorem d_q_Reading_byteAt_14 : decode b_q_Reading_byteAt 14 = .ok (.iload_n 1, 1) := by decide +kernel
theorem d_q_Reading_byteAt_15 : decode b_q_Reading_byteAt 15 = .ok (.iaload, 1) := by decide +kernel
theorem d_q_Reading_byteAt_16 : decode b_q_Reading_byteAt 16 = .ok (.goto 4, 3) := by decide +kernel
theorem d_q_Reading_byteAt_19 : decode b_q_Reading_byteAt 19 = .ok (.iconst (-1), 1) := by decide +kernel
theorem d_q_Reading_byteAt_20 : decode b_q_Reading_byteAt 20 = .ok (.ireturn, 1) := by decide +kernel
end
section
variable {p : Program} {l : Launch} {e : Env} {R : Room} {s : State} {m : MethodId} {args : Array Value} {below : List Frame} {meth : Method} {c : Code} {cells slots : Nat} {Q : State → Prop} {A : Nat → Prop} {H0 : Heap} {D : va_G}
set_option maxHeartbeats 1000000 in
set_option maxRecDepth 100000 in
theorem bd_q_Reading_byteAt_in (cI cC : ClassId) (rg r1 r2 r3 rc : Nat) (rb : Nat → Nat) (x : Nat) (hx0 : x < 26) (S : CallFix p m c b_q_Reading_byteAt 2 s args (cd_q_Reading_byteAt :: WS) R_Reading) (hRf : 0 ≤ R.frames) (hRl : 0 ≤ R.locals) (hRc : cells ≤ R.cells ∧ slots ≤ R.slots) (hK : va_K D classes [(cI, .int), (cC, .char)] s) (kr : ∀ (pc : Nat) (ls : Array Slot) (H : Heap) (locs : List Loc), decode b_q_Reading_byteAt pc = .ok (.ireturn, 1) → va_P D classes [(rg, .inr (4, [.ref r1, .ref r2, .ref r3, .int (nI rc)])), (r2, .inl (cI, 26, .inl (fun j => nI (rb j))))] H → va_S A H0 H locs → W p l e R s m args below meth c H locs cells slots Q (F0 m pc ls [.int (nI (rb x))])) : ∀ (ls : Array Slot) (H : Heap) (locs : List Loc), lv_has ls 2 [(0, .ref rg), (1, .int (nI x))] → va_P D classes [(rg, .inr (4, [.ref r1, .ref r2, .ref r3, .int (nI rc)])), (r2, .inl (cI, 26, .inl (fun j => nI (rb j))))] H → va_S A H0 H locs → W p l e R s m args below meth c H locs cells slots Q (F0 m 0 ls []) := by
  obtain ⟨hx, hb, hml, hown, hts⟩ := id S
  intro ls H locs hl hP hS
  refine lv_iload_n hx hb d_q_Reading_byteAt_0 rfl (lv_at hl 1 rfl) ?_
  refine n_if_lt hx hb d_q_Reading_byteAt_1 (tgt := 19) rfl (by omega) ?_
  refine lv_iload_n hx hb d_q_Reading_byteAt_4 rfl (lv_at hl 1 rfl) ?_
  refine lv_bipush (v := nI 26) hx hb d_q_Reading_byteAt_5 (by decide) ?_
  refine n_icmp_ge hx hb d_q_Reading_byteAt_7 (tgt := 19) rfl (by omega) (by omega) (fun g7 => absurd g7 (by omega)) (fun g7 => ?_)
  refine lv_aload_n hx hb d_q_Reading_byteAt_10 rfl (lv_at hl 0 rfl) ?_
  refine n_get (C := R_Reading) (T := F_Reading) (N := 4) (v := .ref r2) hx hb hts u_Reading_in hown hK hP 0 rfl rfl 1 (by decide) kw_172 rfl d_q_Reading_byteAt_11 ?_
  refine lv_iload_n hx hb d_q_Reading_byteAt_14 rfl (lv_at hl 1 rfl) ?_
  refine n_iald hx hb hK hP 1 0 rfl rfl (by omega) (by decide) d_q_Reading_byteAt_15 ?_
  refine lv_goto hx hb d_q_Reading_byteAt_16 (tgt := 20) rfl ?_
  exact kr _ ls H locs d_q_Reading_byteAt_20 hP hS
set_option maxHeartbeats 1000000 in
set_option maxRecDepth 100000 in
theorem c_q_Reading_byteAt_in (l : Launch) (D : va_G) (cI cC : ClassId) (rg r1 r2 r3 rc : Nat) (rb : Nat → Nat) (x : Nat) (hx0 : x < 26) : Met l y_q_Reading_byteAt (cd_q_Reading_byteAt :: WS) { frames := 0, cells := 0, slots := 0, locals := 0 } (va_Pc [.ref rg, .int (nI x)] (rP D [(rg, .inr (4, [.ref r1, .ref r2, .ref r3, .int (nI rc)])), (r2, .inl (cI, 26, .inl (fun j => nI (rb j))))] [(cI, .int), (cC, .char)])) (pQ (nI (rb x))) 0 0 noA := by
  refine Met.ofW (cc := b_q_Reading_byteAt) (maxL := 2) (ret := (some .int)) (by decide) rfl ?_
  intro p e s m args below meth c s₁ B hml hv0
  obtain ⟨rfl, hP, hK⟩ := hv0
  have hts := atoms_spec (ws := cd_q_Reading_byteAt :: WS) B.pre
  have hown : s.vm.findClass R_Reading = some m.cls := findClass_of_methodNamed B.named
  have hlocks := B.notSynchronized
  have hl := lv_entry ([.ref rg, .int (nI x)]) (n := 2) (Nat.le_of_ble_eq_true rfl)
  rw [lg_entry_eq]
  generalize (lg_sl ([.ref rg, .int (nI x)]) ++ List.replicate (2 - (lg_sl ([.ref rg, .int (nI x)])).length) Slot.unset).toArray = ls at hl ⊢
  refine bd_q_Reading_byteAt_in cI cC rg r1 r2 r3 rc rb x hx0 ⟨B.exec, B.bytes, hml, hown, hts⟩ (Nat.le_refl _) (Nat.le_refl _) ⟨Nat.le_refl _, Nat.le_refl _⟩ hK (fun pc ls H locs hd hP hS => ?_) ls _ _ hl hP (va_S.rf (A := noA))
  exact W.iret B.exec B.bytes B.returns (fun t ht _ => ⟨⟨_, (), rfl, rfl, trivial⟩, hS.F ht⟩) hS.2.2 hd
end
section
variable {p : Program} {l : Launch} {e : Env} {R : Room} {s : State} {m : MethodId} {args : Array Value} {below : List Frame} {meth : Method} {c : Code} {cells slots : Nat} {Q : State → Prop} {A : Nat → Prop} {H0 : Heap} {D : va_G}
set_option maxHeartbeats 1000000 in
set_option maxRecDepth 100000 in
theorem bd_q_Reading_byteAt_out (cI cC : ClassId) (rg r1 r2 r3 rc : Nat) (rb : Nat → Nat) (x : Int32) (ho : x < 0 ∨ nI 26 ≤ x) (S : CallFix p m c b_q_Reading_byteAt 2 s args (cd_q_Reading_byteAt :: WS) R_Reading) (hRf : 0 ≤ R.frames) (hRl : 0 ≤ R.locals) (hRc : cells ≤ R.cells ∧ slots ≤ R.slots) (hK : va_K D classes [(cI, .int), (cC, .char)] s) (kr : ∀ (pc : Nat) (ls : Array Slot) (H : Heap) (locs : List Loc), decode b_q_Reading_byteAt pc = .ok (.ireturn, 1) → va_P D classes [(rg, .inr (4, [.ref r1, .ref r2, .ref r3, .int (nI rc)])), (r2, .inl (cI, 26, .inl (fun j => nI (rb j))))] H → va_S A H0 H locs → W p l e R s m args below meth c H locs cells slots Q (F0 m pc ls [.int (-1)])) : ∀ (ls : Array Slot) (H : Heap) (locs : List Loc), lv_has ls 2 [(0, .ref rg), (1, .int x)] → va_P D classes [(rg, .inr (4, [.ref r1, .ref r2, .ref r3, .int (nI rc)])), (r2, .inl (cI, 26, .inl (fun j => nI (rb j))))] H → va_S A H0 H locs → W p l e R s m args below meth c H locs cells slots Q (F0 m 0 ls []) := by
  obtain ⟨hx, hb, hml, hown, hts⟩ := id S
  intro ls H locs hl hP hS
  refine lv_iload_n hx hb d_q_Reading_byteAt_0 rfl (lv_at hl 1 rfl) ?_
  refine lv_if_lt hx hb d_q_Reading_byteAt_1 (tgt := 19) rfl (fun g1 => ?_) (fun g1 => ?_)
  · skip
    refine lv_iconst (v := (-1)) hx hb d_q_Reading_byteAt_19 (by decide) ?_
    exact kr _ ls H locs d_q_Reading_byteAt_20 hP hS
  · skip
    refine lv_iload_n hx hb d_q_Reading_byteAt_4 rfl (lv_at hl 1 rfl) ?_
    refine lv_bipush (v := nI 26) hx hb d_q_Reading_byteAt_5 (by decide) ?_
    refine lv_icmp_ge hx hb d_q_Reading_byteAt_7 (tgt := 19) rfl (fun g7 => ?_) (fun g7 => absurd (ho.resolve_left g1) g7)
    refine lv_iconst (v := (-1)) hx hb d_q_Reading_byteAt_19 (by decide) ?_
    exact kr _ ls H locs d_q_Reading_byteAt_20 hP hS
set_option maxHeartbeats 1000000 in
set_option maxRecDepth 100000 in
theorem c_q_Reading_byteAt_out (l : Launch) (D : va_G) (cI cC : ClassId) (rg r1 r2 r3 rc : Nat) (rb : Nat → Nat) (x : Int32) (ho : x < 0 ∨ nI 26 ≤ x) : Met l y_q_Reading_byteAt (cd_q_Reading_byteAt :: WS) { frames := 0, cells := 0, slots := 0, locals := 0 } (va_Pc [.ref rg, .int x] (rP D [(rg, .inr (4, [.ref r1, .ref r2, .ref r3, .int (nI rc)])), (r2, .inl (cI, 26, .inl (fun j => nI (rb j))))] [(cI, .int), (cC, .char)])) (pQ (-1)) 0 0 noA := by
  refine Met.ofW (cc := b_q_Reading_byteAt) (maxL := 2) (ret := (some .int)) (by decide) rfl ?_
  intro p e s m args below meth c s₁ B hml hv0
  obtain ⟨rfl, hP, hK⟩ := hv0
  have hts := atoms_spec (ws := cd_q_Reading_byteAt :: WS) B.pre
  have hown : s.vm.findClass R_Reading = some m.cls := findClass_of_methodNamed B.named
  have hlocks := B.notSynchronized
  have hl := lv_entry ([.ref rg, .int x]) (n := 2) (Nat.le_of_ble_eq_true rfl)
  rw [lg_entry_eq]
  generalize (lg_sl ([.ref rg, .int x]) ++ List.replicate (2 - (lg_sl ([.ref rg, .int x])).length) Slot.unset).toArray = ls at hl ⊢
  refine bd_q_Reading_byteAt_out cI cC rg r1 r2 r3 rc rb x ho ⟨B.exec, B.bytes, hml, hown, hts⟩ (Nat.le_refl _) (Nat.le_refl _) ⟨Nat.le_refl _, Nat.le_refl _⟩ hK (fun pc ls H locs hd hP hS => ?_) ls _ _ hl hP (va_S.rf (A := noA))
  exact W.iret B.exec B.bytes B.returns (fun t ht _ => ⟨⟨_, (), rfl, rfl, trivial⟩, hS.F ht⟩) hS.2.2 hd
end
section
theorem d_j_Integer_bitCount_0 : decode b_j_Integer_bitCount 0 = .ok (.iload_n 0, 1) := by decide +kernel
theorem d_j_Integer_bitCount_1 : decode b_j_Integer_bitCount 1 = .ok (.iload_n 0, 1) := by decide +kernel
theorem d_j_Integer_bitCount_2 : decode b_j_Integer_bitCount 2 = .ok (.iconst 1, 1) := by decide +kernel
theorem d_j_Integer_bitCount_3 : decode b_j_Integer_bitCount 3 = .ok (.iushr, 1) := by decide +kernel
theorem d_j_Integer_bitCount_4 : decode b_j_Integer_bitCount 4 = .ok (.ldc_w 265, 3) := by decide +kernel
theorem d_j_Integer_bitCount_7 : decode b_j_Integer_bitCount 7 = .ok (.iand, 1) := by decide +kernel
theorem d_j_Integer_bitCount_8 : decode b_j_Integer_bitCount 8 = .ok (.isub, 1) := by decide +kernel
theorem d_j_Integer_bitCount_9 : decode b_j_Integer_bitCount 9 = .ok (.istore_n 0, 1) := by decide +kernel
theorem d_j_Integer_bitCount_10 : decode b_j_Integer_bitCount 10 = .ok (.iload_n 0, 1) := by decide +kernel
theorem d_j_Integer_bitCount_11 : decode b_j_Integer_bitCount 11 = .ok (.ldc_w 266, 3) := by decide +kernel
theorem d_j_Integer_bitCount_14 : decode b_j_Integer_bitCount 14 = .ok (.iand, 1) := by decide +kernel
theorem d_j_Integer_bitCount_15 : decode b_j_Integer_bitCount 15 = .ok (.iload_n 0, 1) := by decide +kernel
theorem d_j_Integer_bitCount_16 : decode b_j_Integer_bitCount 16 = .ok (.iconst 2, 1) := by decide +kernel
theorem d_j_Integer_bitCount_17 : decode b_j_Integer_bitCount 17 = .ok (.iushr, 1) := by decide +kernel
theorem d_j_Integer_bitCount_18 : decode b_j_Integer_bitCount 18 = .ok (.ldc_w 266, 3) := by decide +kernel
theorem d_j_Integer_bitCount_21 : decode b_j_Integer_bitCount 21 = .ok (.iand, 1) := by decide +kernel
theorem d_j_Integer_bitCount_22 : decode b_j_Integer_bitCount 22 = .ok (.iadd, 1) := by decide +kernel
theorem d_j_Integer_bitCount_23 : decode b_j_Integer_bitCount 23 = .ok (.istore_n 0, 1) := by decide +kernel
theorem d_j_Integer_bitCount_24 : decode b_j_Integer_bitCount 24 = .ok (.iload_n 0, 1) := by decide +kernel
theorem d_j_Integer_bitCount_25 : decode b_j_Integer_bitCount 25 = .ok (.iload_n 0, 1) := by decide +kernel
theorem d_j_Integer_bitCount_26 : decode b_j_Integer_bitCount 26 = .ok (.iconst 4, 1) := by decide +kernel
theorem d_j_Integer_bitCount_27 : decode b_j_Integer_bitCount 27 = .ok (.iushr, 1) := by decide +kernel
theorem d_j_Integer_bitCount_28 : decode b_j_Integer_bitCount 28 = .ok (.iadd, 1) := by decide +kernel
theorem d_j_Integer_bitCount_29 : decode b_j_Integer_bitCount 29 = .ok (.ldc_w 267, 3) := by decide +kernel
theorem d_j_Integer_bitCount_32 : decode b_j_Integer_bitCount 32 = .ok (.iand, 1) := by decide +kernel
theorem d_j_Integer_bitCount_33 : decode b_j_Integer_bitCount 33 = .ok (.istore_n 0, 1) := by decide +kernel
theorem d_j_Integer_bitCount_34 : decode b_j_Integer_bitCount 34 = .ok (.iload_n 0, 1) := by decide +kernel
theorem d_j_Integer_bitCount_35 : decode b_j_Integer_bitCount 35 = .ok (.iload_n 0, 1) := by decide +kernel
theorem d_j_Integer_bitCount_36 : decode b_j_Integer_bitCount 36 = .ok (.bipush 8, 2) := by decide +kernel
theorem d_j_Integer_bitCount_38 : decode b_j_Integer_bitCount 38 = .ok (.iushr, 1) := by decide +kernel
theorem d_j_Integer_bitCount_39 : decode b_j_Integer_bitCount 39 = .ok (.iadd, 1) := by decide +kernel
theorem d_j_Integer_bitCount_40 : decode b_j_Integer_bitCount 40 = .ok (.istore_n 0, 1) := by decide +kernel
theorem d_j_Integer_bitCount_41 : decode b_j_Integer_bitCount 41 = .ok (.iload_n 0, 1) := by decide +kernel
theorem d_j_Integer_bitCount_42 : decode b_j_Integer_bitCount 42 = .ok (.iload_n 0, 1) := by decide +kernel
theorem d_j_Integer_bitCount_43 : decode b_j_Integer_bitCount 43 = .ok (.bipush 16, 2) := by decide +kernel
theorem d_j_Integer_bitCount_45 : decode b_j_Integer_bitCount 45 = .ok (.iushr, 1) := by decide +kernel
theorem d_j_Integer_bitCount_46 : decode b_j_Integer_bitCount 46 = .ok (.iadd, 1) := by decide +kernel
theorem d_j_Integer_bitCount_47 : decode b_j_Integer_bitCount 47 = .ok (.istore_n 0, 1) := by decide +kernel
theorem d_j_Integer_bitCount_48 : decode b_j_Integer_bitCount 48 = .ok (.iload_n 0, 1) := by decide +kernel
theorem d_j_Integer_bitCount_49 : decode b_j_Integer_bitCount 49 = .ok (.bipush 63, 2) := by decide +kernel
theorem d_j_Integer_bitCount_51 : decode b_j_Integer_bitCount 51 = .ok (.iand, 1) := by decide +kernel
theorem d_j_Integer_bitCount_52 : decode b_j_Integer_bitCount 52 = .ok (.ireturn, 1) := by decide +kernel
end
section
variable {p : Program} {l : Launch} {e : Env} {R : Room} {s : State} {m : MethodId} {args : Array Value} {below : List Frame} {meth : Method} {c : Code} {cells slots : Nat} {Q : State → Prop} {A : Nat → Prop} {H0 : Heap} {D : va_G}
set_option maxHeartbeats 1000000 in
set_option maxRecDepth 100000 in
theorem bd_j_Integer_bitCount (x : Nat) (hx0 : x < 2097152) (S : CallFix p m c b_j_Integer_bitCount 1 s args (cd_j_Integer_bitCount :: WS) R_java_lang_Integer) (hRf : 0 ≤ R.frames) (hRl : 0 ≤ R.locals) (hRc : cells ≤ R.cells ∧ slots ≤ R.slots) (kr : ∀ (pc : Nat) (ls : Array Slot) (H : Heap) (locs : List Loc), decode b_j_Integer_bitCount pc = .ok (.ireturn, 1) → va_S A H0 H locs → W p l e R s m args below meth c H locs cells slots Q (F0 m pc ls [.int (nI (bcN x))])) : ∀ (ls : Array Slot) (H : Heap) (locs : List Loc), lv_has ls 1 [(0, .int (nI x))] → va_S A H0 H locs → W p l e R s m args below meth c H locs cells slots Q (F0 m 0 ls []) := by
  obtain ⟨hx, hb, hml, hown, hts⟩ := id S
  intro ls H locs hl hS
  have h1 := bc1_le x
  have h2 := bc2_lt x
  have h3 := bc3_lt x
  have h4 := bc4_lt x
  refine lv_iload_n hx hb d_j_Integer_bitCount_0 rfl (lv_at hl 0 rfl) ?_
  refine lv_iload_n hx hb d_j_Integer_bitCount_1 rfl (lv_at hl 0 rfl) ?_
  refine lv_iconst (v := nI 1) hx hb d_j_Integer_bitCount_2 (by decide) ?_
  refine n_iushr hx hb d_j_Integer_bitCount_3 (by omega) (by omega) ?_
  refine lv_ldcw (v := nI 1431655765) hx hb hown (hts _ (List.mem_cons_of_mem _ kw_251)) d_j_Integer_bitCount_4 ?_
  refine n_iand hx hb d_j_Integer_bitCount_7 ?_
  refine n_isub hx hb d_j_Integer_bitCount_8 (Nat.le_trans Nat.and_le_left (Nat.div_le_self _ _)) ?_
  refine n_topn (show x - ((x / 2 ^ 1) &&& 1431655765) = bc1 x from rfl) ?_
  refine lv_istore_n hx hb d_j_Integer_bitCount_9 rfl hl (Nat.le_of_ble_eq_true rfl) rfl (fun ls hl => ?_)
  have hl : lv_has ls 1 [(0, .int (nI (bc1 x)))] := hl
  refine lv_iload_n hx hb d_j_Integer_bitCount_10 rfl (lv_at hl 0 rfl) ?_
  refine lv_ldcw (v := nI 858993459) hx hb hown (hts _ (List.mem_cons_of_mem _ kw_252)) d_j_Integer_bitCount_11 ?_
  refine n_iand hx hb d_j_Integer_bitCount_14 ?_
  refine lv_iload_n hx hb d_j_Integer_bitCount_15 rfl (lv_at hl 0 rfl) ?_
  refine lv_iconst (v := nI 2) hx hb d_j_Integer_bitCount_16 (by decide) ?_
  refine n_iushr hx hb d_j_Integer_bitCount_17 (by omega) (by omega) ?_
  refine lv_ldcw (v := nI 858993459) hx hb hown (hts _ (List.mem_cons_of_mem _ kw_252)) d_j_Integer_bitCount_18 ?_
  refine n_iand hx hb d_j_Integer_bitCount_21 ?_
  refine n_iadd hx hb d_j_Integer_bitCount_22 ?_
  refine n_topn (show ((bc1 x) &&& 858993459) + (((bc1 x) / 2 ^ 2) &&& 858993459) = bc2 x from rfl) ?_
  refine lv_istore_n hx hb d_j_Integer_bitCount_23 rfl hl (Nat.le_of_ble_eq_true rfl) rfl (fun ls hl => ?_)
  have hl : lv_has ls 1 [(0, .int (nI (bc2 x)))] := hl
  refine lv_iload_n hx hb d_j_Integer_bitCount_24 rfl (lv_at hl 0 rfl) ?_
  refine lv_iload_n hx hb d_j_Integer_bitCount_25 rfl (lv_at hl 0 rfl) ?_
  refine lv_iconst (v := nI 4) hx hb d_j_Integer_bitCount_26 (by decide) ?_
  refine n_iushr hx hb d_j_Integer_bitCount_27 (by omega) (by omega) ?_
  refine n_iadd hx hb d_j_Integer_bitCount_28 ?_
  refine lv_ldcw (v := nI 252645135) hx hb hown (hts _ (List.mem_cons_of_mem _ kw_253)) d_j_Integer_bitCount_29 ?_
  refine n_iand hx hb d_j_Integer_bitCount_32 ?_
  refine n_topn (show ((bc2 x) + ((bc2 x) / 2 ^ 4)) &&& 252645135 = bc3 x from rfl) ?_
  refine lv_istore_n hx hb d_j_Integer_bitCount_33 rfl hl (Nat.le_of_ble_eq_true rfl) rfl (fun ls hl => ?_)
  have hl : lv_has ls 1 [(0, .int (nI (bc3 x)))] := hl
  refine lv_iload_n hx hb d_j_Integer_bitCount_34 rfl (lv_at hl 0 rfl) ?_
  refine lv_iload_n hx hb d_j_Integer_bitCount_35 rfl (lv_at hl 0 rfl) ?_
  refine lv_bipush (v := nI 8) hx hb d_j_Integer_bitCount_36 (by decide) ?_
  refine n_iushr hx hb d_j_Integer_bitCount_38 (by omega) (by omega) ?_
  refine n_iadd hx hb d_j_Integer_bitCount_39 ?_
  refine n_topn (show (bc3 x) + ((bc3 x) / 2 ^ 8) = bc4 x from rfl) ?_
  refine lv_istore_n hx hb d_j_Integer_bitCount_40 rfl hl (Nat.le_of_ble_eq_true rfl) rfl (fun ls hl => ?_)
  have hl : lv_has ls 1 [(0, .int (nI (bc4 x)))] := hl
  refine lv_iload_n hx hb d_j_Integer_bitCount_41 rfl (lv_at hl 0 rfl) ?_
  refine lv_iload_n hx hb d_j_Integer_bitCount_42 rfl (lv_at hl 0 rfl) ?_
  refine lv_bipush (v := nI 16) hx hb d_j_Integer_bitCount_43 (by decide) ?_
  refine n_iushr hx hb d_j_Integer_bitCount_45 (by omega) (by omega) ?_
  refine n_iadd hx hb d_j_Integer_bitCount_46 ?_
  refine n_topn (show (bc4 x) + ((bc4 x) / 2 ^ 16) = bc5 x from rfl) ?_
  refine lv_istore_n hx hb d_j_Integer_bitCount_47 rfl hl (Nat.le_of_ble_eq_true rfl) rfl (fun ls hl => ?_)
  have hl : lv_has ls 1 [(0, .int (nI (bc5 x)))] := hl
  refine lv_iload_n hx hb d_j_Integer_bitCount_48 rfl (lv_at hl 0 rfl) ?_
  refine lv_bipush (v := nI 63) hx hb d_j_Integer_bitCount_49 (by decide) ?_
  refine n_iand hx hb d_j_Integer_bitCount_51 ?_
  refine n_topn (show (bc5 x) &&& 63 = bcN x from rfl) ?_
  exact kr _ ls H locs d_j_Integer_bitCount_52 hS
set_option maxHeartbeats 1000000 in
set_option maxRecDepth 100000 in
theorem c_j_Integer_bitCount (l : Launch) (x : Nat) (hx0 : x < 2097152) : Met l y_j_Integer_bitCount (cd_j_Integer_bitCount :: WS) { frames := 0, cells := 0, slots := 0, locals := 0 } (va_Pc [.int (nI x)] (fun _ => True)) (pQ ((nI (bcN x)))) 0 0 noA := by
  refine Met.ofW (cc := b_j_Integer_bitCount) (maxL := 1) (ret := (some .int)) (by decide) rfl ?_
  intro p e s m args below meth c s₁ B hml hv0
  obtain ⟨rfl, -⟩ := hv0
  have hts := atoms_spec (ws := cd_j_Integer_bitCount :: WS) B.pre
  have hown : s.vm.findClass R_java_lang_Integer = some m.cls := findClass_of_methodNamed B.named
  have hlocks := B.notSynchronized
  have hl := lv_entry ([.int (nI x)]) (n := 1) (Nat.le_of_ble_eq_true rfl)
  rw [lg_entry_eq]
  generalize (lg_sl ([.int (nI x)]) ++ List.replicate (1 - (lg_sl ([.int (nI x)])).length) Slot.unset).toArray = ls at hl ⊢
  refine bd_j_Integer_bitCount x hx0 ⟨B.exec, B.bytes, hml, hown, hts⟩ (Nat.le_refl _) (Nat.le_refl _) ⟨Nat.le_refl _, Nat.le_refl _⟩ (fun pc ls H locs hd hS => ?_) ls _ _ hl (va_S.rf (A := noA))
  exact W.iret B.exec B.bytes B.returns (fun t ht _ => ⟨⟨_, (), rfl, rfl, trivial⟩, hS.F ht⟩) hS.2.2 hd
end
section
theorem d_q_Grid_copyRows_0 : decode b_q_Grid_copyRows 0 = .ok (.aload_n 1, 1) := by decide +kernel
theorem d_q_Grid_copyRows_1 : decode b_q_Grid_copyRows 1 = .ok (.iconst 0, 1) := by decide +kernel
theorem d_q_Grid_copyRows_2 : decode b_q_Grid_copyRows 2 = .ok (.aload_n 0, 1) := by decide +kernel
theorem d_q_Grid_copyRows_3 : decode b_q_Grid_copyRows 3 = .ok (.getfield 9, 3) := by decide +kernel
theorem d_q_Grid_copyRows_6 : decode b_q_Grid_copyRows 6 = .ok (.iconst 0, 1) := by decide +kernel
theorem d_q_Grid_copyRows_7 : decode b_q_Grid_copyRows 7 = .ok (.bipush 21, 2) := by decide +kernel
theorem d_q_Grid_copyRows_9 : decode b_q_Grid_copyRows 9 = .ok (.invokestatic 15, 3) := by decide +kernel
theorem d_q_Grid_copyRows_12 : decode b_q_Grid_copyRows 12 = .ok (.return_, 1) := by decide +kernel
end
section
variable {p : Program} {l : Launch} {e : Env} {R : Room} {s : State} {m : MethodId} {args : Array Value} {below : List Frame} {meth : Method} {c : Code} {cells slots : Nat} {Q : State → Prop} {A : Nat → Prop} {H0 : Heap} {D : va_G}
set_option maxHeartbeats 1000000 in
set_option maxRecDepth 100000 in
theorem bd_q_Grid_copyRows (cI cC : ClassId) (go ga : Nat) (ro fx : Nat → Nat) (la : Nat) (S : CallFix p m c b_q_Grid_copyRows 2 s args (cd_q_Grid_copyRows :: WS) R_Grid) (hRf : 1 ≤ R.frames) (hRl : 60 ≤ R.locals) (hRc : cells ≤ R.cells ∧ slots ≤ R.slots) (hK : va_K D classes [(cI, .int), (cC, .char)] s) (hA : ∀ q, H0.size ≤ q → A q) (kr : ∀ (pc : Nat) (ls : Array Slot) (H : Heap) (locs : List Loc), decode b_q_Grid_copyRows pc = .ok (.return_, 1) → va_P D classes [(go, .inr (2, [.ref ga])), (ga, .inl (cI, 21, .inl (fun j => nI ((va_cpy fx ro 0 0 21) j)))), (la, .inl (cI, 21, .inl (fun j => nI (fx j))))] H → va_D A [(go, .inr (2, [.ref ga])), (ga, .inl (cI, 21, .inl (fun j => nI ((va_cpy fx ro 0 0 21) j)))), (la, .inl (cI, 21, .inl (fun j => nI (fx j))))] → va_S A H0 H locs → W p l e R s m args below meth c H locs cells slots Q (F0 m pc ls [])) : ∀ (ls : Array Slot) (H : Heap) (locs : List Loc), lv_has ls 2 [(0, .ref go), (1, .ref la)] → va_P D classes [(go, .inr (2, [.ref ga])), (ga, .inl (cI, 21, .inl (fun j => nI (ro j)))), (la, .inl (cI, 21, .inl (fun j => nI (fx j))))] H → va_D A [(go, .inr (2, [.ref ga])), (ga, .inl (cI, 21, .inl (fun j => nI (ro j)))), (la, .inl (cI, 21, .inl (fun j => nI (fx j))))] → va_S A H0 H locs → W p l e R s m args below meth c H locs cells slots Q (F0 m 0 ls []) := by
  obtain ⟨hx, hb, hml, hown, hts⟩ := id S
  intro ls H locs hl hP hD hS
  refine lv_aload_n hx hb d_q_Grid_copyRows_0 rfl (lv_at hl 1 rfl) ?_
  refine lv_iconst (v := nI 0) hx hb d_q_Grid_copyRows_1 (by decide) ?_
  refine lv_aload_n hx hb d_q_Grid_copyRows_2 rfl (lv_at hl 0 rfl) ?_
  refine n_get (C := R_Grid) (T := F_Grid) (N := 1) (v := .ref ga) hx hb hts u_Grid_in hown hK hP 0 rfl rfl 0 (by decide) kw_42 rfl d_q_Grid_copyRows_3 ?_
  refine lv_iconst (v := nI 0) hx hb d_q_Grid_copyRows_6 (by decide) ?_
  refine lv_bipush (v := nI 21) hx hb d_q_Grid_copyRows_7 (by decide) ?_
  refine n_copyi S hl.1 kw_559 kw_546 kw_545 kw_24 hK hP hD hS 2 1 0 rfl rfl rfl rfl (by omega) (by omega) (by decide) (by decide) (Nat.le_trans (Nat.le_of_ble_eq_true rfl) hRf) (Nat.le_trans (Nat.le_of_ble_eq_true rfl) hRl) d_q_Grid_copyRows_9 (fun H locs hP hD hS => ?_)
  have hP : va_P D classes [(go, .inr (2, [.ref ga])), (ga, .inl (cI, 21, .inl (fun j => nI ((va_cpy fx ro 0 0 21) j)))), (la, .inl (cI, 21, .inl (fun j => nI (fx j))))] H := hP
  have hD : va_D A [(go, .inr (2, [.ref ga])), (ga, .inl (cI, 21, .inl (fun j => nI ((va_cpy fx ro 0 0 21) j)))), (la, .inl (cI, 21, .inl (fun j => nI (fx j))))] := hD
  exact kr _ ls H locs d_q_Grid_copyRows_12 hP hD hS
set_option maxHeartbeats 1000000 in
set_option maxRecDepth 100000 in
theorem c_q_Grid_copyRows (l : Launch) (D : va_G) (cI cC : ClassId) (go ga : Nat) (ro fx : Nat → Nat) (la : Nat) (sz : Nat) : Met l y_q_Grid_copyRows (cd_q_Grid_copyRows :: WS) { frames := 1, cells := 0, slots := 0, locals := 60 } (va_Pc [.ref go, .ref la] (wP D [(go, .inr (2, [.ref ga])), (ga, .inl (cI, 21, .inl (fun j => nI (ro j)))), (la, .inl (cI, 21, .inl (fun j => nI (fx j))))] [(cI, .int), (cC, .char)] sz)) (wQv D [(go, .inr (2, [.ref ga])), (ga, .inl (cI, 21, .inl (fun j => nI (ro j)))), (la, .inl (cI, 21, .inl (fun j => nI (fx j))))] [(go, .inr (2, [.ref ga])), (ga, .inl (cI, 21, .inl (fun j => nI ((va_cpy fx ro 0 0 21) j)))), (la, .inl (cI, 21, .inl (fun j => nI (fx j))))] sz) 0 0 (va_A [(go, .inr (2, [.ref ga])), (ga, .inl (cI, 21, .inl (fun j => nI (ro j)))), (la, .inl (cI, 21, .inl (fun j => nI (fx j))))] sz) := by
  refine Met.ofW (cc := b_q_Grid_copyRows) (maxL := 2) (ret := none) (by decide) rfl ?_
  intro p e s m args below meth c s₁ B hml hv0
  obtain ⟨rfl, hP, hK, hD0, hsz⟩ := hv0
  have hts := atoms_spec (ws := cd_q_Grid_copyRows :: WS) B.pre
  have hown : s.vm.findClass R_Grid = some m.cls := findClass_of_methodNamed B.named
  have hlocks := B.notSynchronized
  subst hsz
  have hD := hD0.self (sz := s.heap.size)
  have hl := lv_entry ([.ref go, .ref la]) (n := 2) (Nat.le_of_ble_eq_true rfl)
  rw [lg_entry_eq]
  generalize (lg_sl ([.ref go, .ref la]) ++ List.replicate (2 - (lg_sl ([.ref go, .ref la])).length) Slot.unset).toArray = ls at hl ⊢
  refine bd_q_Grid_copyRows cI cC go ga ro fx la  ⟨B.exec, B.bytes, hml, hown, hts⟩ (Nat.le_refl _) (Nat.le_refl _) ⟨Nat.le_refl _, Nat.le_refl _⟩ hK (fun q h => Or.inr h) (fun pc ls H locs hd hP hD hS => ?_) ls _ _ hl hP hD (va_S.rf)
  exact W.vret B.exec B.bytes B.returns (fun t ht _ => ⟨⟨(), rfl, trivial, (by have h9 := hP; rw [← ht] at h9; exact h9)⟩, hS.F ht⟩) hS.2.2 hd
end
section
theorem d_q_Grid_penaltyOfSquares_0 : decode b_q_Grid_penaltyOfSquares 0 = .ok (.iconst 0, 1) := by decide +kernel
theorem d_q_Grid_penaltyOfSquares_1 : decode b_q_Grid_penaltyOfSquares 1 = .ok (.istore_n 1, 1) := by decide +kernel
theorem d_q_Grid_penaltyOfSquares_2 : decode b_q_Grid_penaltyOfSquares 2 = .ok (.iconst 0, 1) := by decide +kernel
theorem d_q_Grid_penaltyOfSquares_3 : decode b_q_Grid_penaltyOfSquares 3 = .ok (.istore_n 2, 1) := by decide +kernel
theorem d_q_Grid_penaltyOfSquares_4 : decode b_q_Grid_penaltyOfSquares 4 = .ok (.iload_n 2, 1) := by decide +kernel
theorem d_q_Grid_penaltyOfSquares_5 : decode b_q_Grid_penaltyOfSquares 5 = .ok (.iconst 1, 1) := by decide +kernel
theorem d_q_Grid_penaltyOfSquares_6 : decode b_q_Grid_penaltyOfSquares 6 = .ok (.iadd, 1) := by decide +kernel
theorem d_q_Grid_penaltyOfSquares_7 : decode b_q_Grid_penaltyOfSquares 7 = .ok (.bipush 21, 2) := by decide +kernel
theorem d_q_Grid_penaltyOfSquares_9 : decode b_q_Grid_penaltyOfSquares 9 = .ok (.if_icmp .ge 64, 3) := by decide +kernel
theorem d_q_Grid_penaltyOfSquares_12 : decode b_q_Grid_penaltyOfSquares 12 = .ok (.aload_n 0, 1) := by decide +kernel
theorem d_q_Grid_penaltyOfSquares_13 : decode b_q_Grid_penaltyOfSquares 13 = .ok (.getfield 9, 3) := by decide +kernel
theorem d_q_Grid_penaltyOfSquares_16 : decode b_q_Grid_penaltyOfSquares 16 = .ok (.iload_n 2, 1) := by decide +kernel
theorem d_q_Grid_penaltyOfSquares_17 : decode b_q_Grid_penaltyOfSquares 17 = .ok (.iaload, 1) := by decide +kernel
theorem d_q_Grid_penaltyOfSquares_18 : decode b_q_Grid_penaltyOfSquares 18 = .ok (.aload_n 0, 1) := by decide +kernel
theorem d_q_Grid_penaltyOfSquares_19 : decode b_q_Grid_penaltyOfSquares 19 = .ok (.getfield 9, 3) := by decide +kernel
theorem d_q_Grid_penaltyOfSquares_22 : decode b_q_Grid_penaltyOfSquares 22 = .ok (.iload_n 2, 1) := by decide +kernel
theorem d_q_Grid_penaltyOfSquares_23 : decode b_q_Grid_penaltyOfSquares 23 = .ok (.iaload, 1) := by decide +kernel
theorem d_q_Grid_penaltyOfSquares_24 : decode b_q_Grid_penaltyOfSquares 24 = .ok (.iconst 1, 1) := by decide +kernel
theorem d_q_Grid_penaltyOfSquares_25 : decode b_q_Grid_penaltyOfSquares 25 = .ok (.ishr, 1) := by decide +kernel
theorem d_q_Grid_penaltyOfSquares_26 : decode b_q_Grid_penaltyOfSquares 26 = .ok (.ixor, 1) := by decide +kernel
theorem d_q_Grid_penaltyOfSquares_27 : decode b_q_Grid_penaltyOfSquares 27 = .ok (.iconst (-1), 1) := by decide +kernel
theorem d_q_Grid_penaltyOfSquares_28 : decode b_q_Grid_penaltyOfSquares 28 = .ok (.ixor, 1) := by decide +kernel
theorem d_q_Grid_penaltyOfSquares_29 : decode b_q_Grid_penaltyOfSquares 29 = .ok (.istore_n 3, 1) := by decide +kernel
theorem d_q_Grid_penaltyOfSquares_30 : decode b_q_Grid_penaltyOfSquares 30 = .ok (.aload_n 0, 1) := by decide +kernel
theorem d_q_Grid_penaltyOfSquares_31 : decode b_q_Grid_penaltyOfSquares 31 = .ok (.getfield 9, 3) := by decide +kernel
theorem d_q_Grid_penaltyOfSquares_34 : decode b_q_Grid_penaltyOfSquares 34 = .ok (.iload_n 2, 1) := by decide +kernel
theorem d_q_Grid_penaltyOfSquares_35 : decode b_q_Grid_penaltyOfSquares 35 = .ok (.iaload, 1) := by decide +kernel
theorem d_q_Grid_penaltyOfSquares_36 : decode b_q_Grid_penaltyOfSquares 36 = .ok (.aload_n 0, 1) := by decide +kernel
theorem d_q_Grid_penaltyOfSquares_37 : decode b_q_Grid_penaltyOfSquares 37 = .ok (.getfield 9, 3) := by decide +kernel
theorem d_q_Grid_penaltyOfSquares_40 : decode b_q_Grid_penaltyOfSquares 40 = .ok (.iload_n 2, 1) := by decide +kernel
theorem d_q_Grid_penaltyOfSquares_41 : decode b_q_Grid_penaltyOfSquares 41 = .ok (.iconst 1, 1) := by decide +kernel
theorem d_q_Grid_penaltyOfSquares_42 : decode b_q_Grid_penaltyOfSquares 42 = .ok (.iadd, 1) := by decide +kernel
theorem d_q_Grid_penaltyOfSquares_43 : decode b_q_Grid_penaltyOfSquares 43 = .ok (.iaload, 1) := by decide +kernel
theorem d_q_Grid_penaltyOfSquares_44 : decode b_q_Grid_penaltyOfSquares 44 = .ok (.ixor, 1) := by decide +kernel
theorem d_q_Grid_penaltyOfSquares_45 : decode b_q_Grid_penaltyOfSquares 45 = .ok (.iconst (-1), 1) := by decide +kernel
theorem d_q_Grid_penaltyOfSquares_46 : decode b_q_Grid_penaltyOfSquares 46 = .ok (.ixor, 1) := by decide +kernel
theorem d_q_Grid_penaltyOfSquares_47 : decode b_q_Grid_penaltyOfSquares 47 = .ok (.istore 4, 2) := by decide +kernel
theorem d_q_Grid_penaltyOfSquares_49 : decode b_q_Grid_penaltyOfSquares 49 = .ok (.iload_n 1, 1) := by decide +kernel
theorem d_q_Grid_penaltyOfSquares_50 : decode b_q_Grid_penaltyOfSquares 50 = .ok (.iload_n 3, 1) := by decide +kernel
theorem d_q_Grid_penaltyOfSquares_51 : decode b_q_Grid_penaltyOfSquares 51 = .ok (.iload 4, 2) := by decide +kernel
theorem d_q_Grid_penaltyOfSquares_53 : decode b_q_Grid_penaltyOfSquares 53 = .ok (.iand, 1) := by decide +kernel
theorem d_q_Grid_penaltyOfSquares_54 : decode b_q_Grid_penaltyOfSquares 54 = .ok (.iload 4, 2) := by decide +kernel
theorem d_q_Grid_penaltyOfSquares_56 : decode b_q_Grid_penaltyOfSquares 56 = .ok (.iconst 1, 1) := by decide +kernel
theorem d_q_Grid_penaltyOfSquares_57 : decode b_q_Grid_penaltyOfSquares 57 = .ok (.ishr, 1) := by decide +kernel
theorem d_q_Grid_penaltyOfSquares_58 : decode b_q_Grid_penaltyOfSquares 58 = .ok (.iand, 1) := by decide +kernel
theorem d_q_Grid_penaltyOfSquares_59 : decode b_q_Grid_penaltyOfSquares 59 = .ok (.ldc 45, 2) := by decide +kernel
theorem d_q_Grid_penaltyOfSquares_61 : decode b_q_Grid_penaltyOfSquares 61 = .ok (.iand, 1) := by decide +kernel
theorem d_q_Grid_penaltyOfSquares_62 : decode b_q_Grid_penaltyOfSquares 62 = .ok (.invokestatic 46, 3) := by decide +kernel
theorem d_q_Grid_penaltyOfSquares_65 : decode b_q_Grid_penaltyOfSquares 65 = .ok (.iadd, 1) := by decide +kernel
theorem d_q_Grid_penaltyOfSquares_66 : decode b_q_Grid_penaltyOfSquares 66 = .ok (.istore_n 1, 1) := by decide +kernel
theorem d_q_Grid_penaltyOfSquares_67 : decode b_q_Grid_penaltyOfSquares 67 = .ok (.iinc 2 1, 3) := by decide +kernel
theorem d_q_Grid_penaltyOfSquares_70 : decode b_q_Grid_penaltyOfSquares 70 = .ok (.goto (-66), 3) := by decide +kernel
theorem d_q_Grid_penaltyOfSquares_73 : decode b_q_Grid_penaltyOfSquares 73 = .ok (.iconst 3, 1) := by decide +kernel
theorem d_q_Grid_penaltyOfSquares_74 : decode b_q_Grid_penaltyOfSquares 74 = .ok (.iload_n 1, 1) := by decide +kernel
theorem d_q_Grid_penaltyOfSquares_75 : decode b_q_Grid_penaltyOfSquares 75 = .ok (.imul, 1) := by decide +kernel
theorem d_q_Grid_penaltyOfSquares_76 : decode b_q_Grid_penaltyOfSquares 76 = .ok (.ireturn, 1) := by decide +kernel
end
section
variable {p : Program} {l : Launch} {e : Env} {R : Room} {s : State} {m : MethodId} {args : Array Value} {below : List Frame} {meth : Method} {c : Code} {cells slots : Nat} {Q : State → Prop} {A : Nat → Prop} {H0 : Heap} {D : va_G}
set_option maxHeartbeats 1000000 in
set_option maxRecDepth 100000 in
theorem lp_q_Grid_penaltyOfSquares_4 (cI cC : ClassId) (go ga : Nat) (ro : Nat → Nat) (hro : ∀ j, j < 21 → ro j < 2097152) (S : CallFix p m c b_q_Grid_penaltyOfSquares 5 s args (cd_q_Grid_penaltyOfSquares :: WS) R_Grid) (hRf : 1 ≤ R.frames) (hRl : 20 ≤ R.locals) (hRc : cells ≤ R.cells ∧ slots ≤ R.slots) (hK : va_K D classes [(cI, .int), (cC, .char)] s) (kx : ∀ (ls : Array Slot) (H : Heap) (locs : List Loc), lv_has ls 5 [(0, .ref go), (1, .int (nI (pqL ro 20))), (2, .int (nI 20))] → va_P D classes [(go, .inr (2, [.ref ga])), (ga, .inl (cI, 21, .inl (fun j => nI (ro j))))] H → va_S A H0 H locs → W p l e R s m args below meth c H locs cells slots Q (F0 m 73 ls [])) :
    ∀ k, k ≤ 20 → ∀ (ls : Array Slot) (H : Heap) (locs : List Loc), lv_has ls 5 [(0, .ref go), (1, .int (nI (pqL ro k))), (2, .int (nI k))] → va_P D classes [(go, .inr (2, [.ref ga])), (ga, .inl (cI, 21, .inl (fun j => nI (ro j))))] H → va_S A H0 H locs → W p l e R s m args below meth c H locs cells slots Q (F0 m 4 ls []) := by
  obtain ⟨hx, hb, hml, hown, hts⟩ := id S
  refine up_loop (fun k hkk ih => ?_)
  intro ls H locs hl hP hS
  refine lv_iload_n hx hb d_q_Grid_penaltyOfSquares_4 rfl (lv_at hl 2 rfl) ?_
  refine lv_iconst (v := nI 1) hx hb d_q_Grid_penaltyOfSquares_5 (by decide) ?_
  refine n_iadd hx hb d_q_Grid_penaltyOfSquares_6 ?_
  refine lv_bipush (v := nI 21) hx hb d_q_Grid_penaltyOfSquares_7 (by decide) ?_
  refine n_icmp_ge hx hb d_q_Grid_penaltyOfSquares_9 (tgt := 73) rfl (by omega) (by omega) (fun g9 => ?_) (fun g9 => ?_)
  · skip
    obtain rfl : k = 20 := by omega
    exact kx ls H locs (lv_sub hl [0, 1, 2] rfl) hP hS
  · skip
    have hr1 := hro k (by omega)
    have hr2 := hro (k + 1) (by omega)
    have hx1 : ro k ^^^ ro (k + 1) < 2097152 := Nat.xor_lt_two_pow (n := 21) hr1 hr2
    refine lv_aload_n hx hb d_q_Grid_penaltyOfSquares_12 rfl (lv_at hl 0 rfl) ?_
    refine n_get (C := R_Grid) (T := F_Grid) (N := 1) (v := .ref ga) hx hb hts u_Grid_in hown hK hP 0 rfl rfl 0 (by decide) kw_42 rfl d_q_Grid_penaltyOfSquares_13 ?_
    refine lv_iload_n hx hb d_q_Grid_penaltyOfSquares_16 rfl (lv_at hl 2 rfl) ?_
    refine n_iald hx hb hK hP 1 0 rfl rfl (by omega) (by decide) d_q_Grid_penaltyOfSquares_17 ?_
    refine lv_aload_n hx hb d_q_Grid_penaltyOfSquares_18 rfl (lv_at hl 0 rfl) ?_
    refine n_get (C := R_Grid) (T := F_Grid) (N := 1) (v := .ref ga) hx hb hts u_Grid_in hown hK hP 0 rfl rfl 0 (by decide) kw_42 rfl d_q_Grid_penaltyOfSquares_19 ?_
    refine lv_iload_n hx hb d_q_Grid_penaltyOfSquares_22 rfl (lv_at hl 2 rfl) ?_
    refine n_iald hx hb hK hP 1 0 rfl rfl (by omega) (by decide) d_q_Grid_penaltyOfSquares_23 ?_
    refine lv_iconst (v := nI 1) hx hb d_q_Grid_penaltyOfSquares_24 (by decide) ?_
    refine n_ishr hx hb d_q_Grid_penaltyOfSquares_25 (by omega) (by omega) ?_
    refine n_ixor hx hb d_q_Grid_penaltyOfSquares_26 ?_
    refine lv_iconst (v := (-1)) hx hb d_q_Grid_penaltyOfSquares_27 (by decide) ?_
    refine n_top (show (-1) = (nI 4294967295) from nx_m1.symm) ?_
    refine n_ixor hx hb d_q_Grid_penaltyOfSquares_28 ?_
    refine lv_istore_n hx hb d_q_Grid_penaltyOfSquares_29 rfl hl (Nat.le_of_ble_eq_true rfl) rfl (fun ls hl => ?_)
    have hl : lv_has ls 5 [(3, .int (nI (((ro k) ^^^ ((ro k) / 2 ^ 1)) ^^^ 4294967295))), (0, .ref go), (1, .int (nI (pqL ro k))), (2, .int (nI k))] := hl
    refine lv_aload_n hx hb d_q_Grid_penaltyOfSquares_30 rfl (lv_at hl 1 rfl) ?_
    refine n_get (C := R_Grid) (T := F_Grid) (N := 1) (v := .ref ga) hx hb hts u_Grid_in hown hK hP 0 rfl rfl 0 (by decide) kw_42 rfl d_q_Grid_penaltyOfSquares_31 ?_
    refine lv_iload_n hx hb d_q_Grid_penaltyOfSquares_34 rfl (lv_at hl 3 rfl) ?_
    refine n_iald hx hb hK hP 1 0 rfl rfl (by omega) (by decide) d_q_Grid_penaltyOfSquares_35 ?_
    refine lv_aload_n hx hb d_q_Grid_penaltyOfSquares_36 rfl (lv_at hl 1 rfl) ?_
    refine n_get (C := R_Grid) (T := F_Grid) (N := 1) (v := .ref ga) hx hb hts u_Grid_in hown hK hP 0 rfl rfl 0 (by decide) kw_42 rfl d_q_Grid_penaltyOfSquares_37 ?_
    refine lv_iload_n hx hb d_q_Grid_penaltyOfSquares_40 rfl (lv_at hl 3 rfl) ?_
    refine lv_iconst (v := nI 1) hx hb d_q_Grid_penaltyOfSquares_41 (by decide) ?_
    refine n_iadd hx hb d_q_Grid_penaltyOfSquares_42 ?_
    refine n_iald hx hb hK hP 1 0 rfl rfl (by omega) (by decide) d_q_Grid_penaltyOfSquares_43 ?_
    refine n_ixor hx hb d_q_Grid_penaltyOfSquares_44 ?_
    refine lv_iconst (v := (-1)) hx hb d_q_Grid_penaltyOfSquares_45 (by decide) ?_
    refine n_top (show (-1) = (nI 4294967295) from nx_m1.symm) ?_
    refine n_ixor hx hb d_q_Grid_penaltyOfSquares_46 ?_
    refine lv_istore hx hb d_q_Grid_penaltyOfSquares_47 hl (Nat.le_of_ble_eq_true rfl) rfl (fun ls hl => ?_)
    have hl : lv_has ls 5 [(4, .int (nI (((ro k) ^^^ (ro (k + 1))) ^^^ 4294967295))), (3, .int (nI (((ro k) ^^^ ((ro k) / 2 ^ 1)) ^^^ 4294967295))), (0, .ref go), (1, .int (nI (pqL ro k))), (2, .int (nI k))] := hl
    refine lv_iload_n hx hb d_q_Grid_penaltyOfSquares_49 rfl (lv_at hl 3 rfl) ?_
    refine lv_iload_n hx hb d_q_Grid_penaltyOfSquares_50 rfl (lv_at hl 1 rfl) ?_
    refine lv_iload hx hb d_q_Grid_penaltyOfSquares_51 (lv_at hl 0 rfl) ?_
    refine n_iand hx hb d_q_Grid_penaltyOfSquares_53 ?_
    refine lv_iload hx hb d_q_Grid_penaltyOfSquares_54 (lv_at hl 0 rfl) ?_
    refine lv_iconst (v := nI 1) hx hb d_q_Grid_penaltyOfSquares_56 (by decide) ?_
    refine lv_ishr hx hb d_q_Grid_penaltyOfSquares_57 ?_
    refine n_top (show nI (((ro k) ^^^ (ro (k + 1))) ^^^ 4294967295) >>> (nI 1 &&& 31) = nI ((((ro k) ^^^ (ro (k + 1))) ^^^ 4294967295) / 2 + 2147483648) from nx_shr1 (xor_big (by omega)) (xor_lt32 (by omega))) ?_
    refine n_iand hx hb d_q_Grid_penaltyOfSquares_58 ?_
    refine lv_ldc (v := nI 1048575) hx hb hown (hts _ (List.mem_cons_of_mem _ kw_247)) d_q_Grid_penaltyOfSquares_59 ?_
    refine n_iand hx hb d_q_Grid_penaltyOfSquares_61 ?_
    refine q_pureS (n := 1) (As := [.int (nI ((((((ro k) ^^^ ((ro k) / 2 ^ 1)) ^^^ 4294967295) &&& (((ro k) ^^^ (ro (k + 1))) ^^^ 4294967295)) &&& ((((ro k) ^^^ (ro (k + 1))) ^^^ 4294967295) / 2 + 2147483648)) &&& 1048575))]) (rest := [.int (nI (pqL ro k))]) S (c_j_Integer_bitCount l ((((((ro k) ^^^ ((ro k) / 2 ^ 1)) ^^^ 4294967295) &&& (((ro k) ^^^ (ro (k + 1))) ^^^ 4294967295)) &&& ((((ro k) ^^^ (ro (k + 1))) ^^^ 4294967295) / 2 + 2147483648)) &&& 1048575) (Nat.lt_of_le_of_lt Nat.and_le_right (by decide))) (q_goodS kw_248 kw_249 kw_26 kw_250) (by decide +kernel) rfl rfl ⟨Nat.le_trans (Nat.le_of_ble_eq_true rfl) hRf, Nat.le_trans (Nat.le_of_ble_eq_true rfl) hRl⟩ rfl hl.1 rfl (Nat.le_of_ble_eq_true rfl) d_q_Grid_penaltyOfSquares_62 hRc hS (fun H locs hkp hS => ?_)
    replace hP := hP.kept (fun k q hq => hkp q.1 (hP k q hq).lt)
    refine n_iadd hx hb d_q_Grid_penaltyOfSquares_65 ?_
    refine n_topn (show (pqL ro k) + (bcN ((((((ro k) ^^^ ((ro k) / 2 ^ 1)) ^^^ 4294967295) &&& (((ro k) ^^^ (ro (k + 1))) ^^^ 4294967295)) &&& ((((ro k) ^^^ (ro (k + 1))) ^^^ 4294967295) / 2 + 2147483648)) &&& 1048575)) = pqL ro (k + 1) from rfl) ?_
    refine lv_istore_n hx hb d_q_Grid_penaltyOfSquares_66 rfl hl (Nat.le_of_ble_eq_true rfl) rfl (fun ls hl => ?_)
    have hl : lv_has ls 5 [(1, .int (nI (pqL ro (k + 1)))), (4, .int (nI (((ro k) ^^^ (ro (k + 1))) ^^^ 4294967295))), (3, .int (nI (((ro k) ^^^ ((ro k) / 2 ^ 1)) ^^^ 4294967295))), (0, .ref go), (2, .int (nI k))] := hl
    refine lv_iinc (k := 4) (v := nI (k + 1)) hx hb d_q_Grid_penaltyOfSquares_67 hl rfl (nx_inc k 1) (Nat.le_of_ble_eq_true rfl) rfl (fun ls hl => ?_)
    have hl : lv_has ls 5 [(2, .int (nI (k + 1))), (1, .int (nI (pqL ro (k + 1)))), (4, .int (nI (((ro k) ^^^ (ro (k + 1))) ^^^ 4294967295))), (3, .int (nI (((ro k) ^^^ ((ro k) / 2 ^ 1)) ^^^ 4294967295))), (0, .ref go)] := hl
    refine lv_goto hx hb d_q_Grid_penaltyOfSquares_70 (tgt := 4) rfl ?_
    exact ih (by omega) ls H locs (lv_sub hl [4, 1, 0] rfl) hP hS
set_option maxHeartbeats 1000000 in
set_option maxRecDepth 100000 in
theorem bd_q_Grid_penaltyOfSquares (cI cC : ClassId) (go ga : Nat) (ro : Nat → Nat) (hro : ∀ j, j < 21 → ro j < 2097152) (S : CallFix p m c b_q_Grid_penaltyOfSquares 5 s args (cd_q_Grid_penaltyOfSquares :: WS) R_Grid) (hRf : 1 ≤ R.frames) (hRl : 20 ≤ R.locals) (hRc : cells ≤ R.cells ∧ slots ≤ R.slots) (hK : va_K D classes [(cI, .int), (cC, .char)] s) (kr : ∀ (pc : Nat) (ls : Array Slot) (H : Heap) (locs : List Loc), decode b_q_Grid_penaltyOfSquares pc = .ok (.ireturn, 1) → va_P D classes [(go, .inr (2, [.ref ga])), (ga, .inl (cI, 21, .inl (fun j => nI (ro j))))] H → va_S A H0 H locs → W p l e R s m args below meth c H locs cells slots Q (F0 m pc ls [.int (nI (3 * pqL ro 20))])) : ∀ (ls : Array Slot) (H : Heap) (locs : List Loc), lv_has ls 5 [(0, .ref go)] → va_P D classes [(go, .inr (2, [.ref ga])), (ga, .inl (cI, 21, .inl (fun j => nI (ro j))))] H → va_S A H0 H locs → W p l e R s m args below meth c H locs cells slots Q (F0 m 0 ls []) := by
  obtain ⟨hx, hb, hml, hown, hts⟩ := id S
  intro ls H locs hl hP hS
  refine lv_iconst (v := nI 0) hx hb d_q_Grid_penaltyOfSquares_0 (by decide) ?_
  refine lv_istore_n hx hb d_q_Grid_penaltyOfSquares_1 rfl hl (Nat.le_of_ble_eq_true rfl) rfl (fun ls hl => ?_)
  have hl : lv_has ls 5 [(1, .int (nI 0)), (0, .ref go)] := hl
  refine lv_iconst (v := nI 0) hx hb d_q_Grid_penaltyOfSquares_2 (by decide) ?_
  refine lv_istore_n hx hb d_q_Grid_penaltyOfSquares_3 rfl hl (Nat.le_of_ble_eq_true rfl) rfl (fun ls hl => ?_)
  have hl : lv_has ls 5 [(2, .int (nI 0)), (1, .int (nI 0)), (0, .ref go)] := hl
  refine lp_q_Grid_penaltyOfSquares_4 cI cC go ga ro hro S hRf hRl hRc hK  (fun ls H locs hl hP hS => ?_) 0 (by omega) ls H locs (lv_sub hl [2, 1, 0] rfl) hP hS
  refine lv_iconst (v := nI 3) hx hb d_q_Grid_penaltyOfSquares_73 (by decide) ?_
  refine lv_iload_n hx hb d_q_Grid_penaltyOfSquares_74 rfl (lv_at hl 1 rfl) ?_
  refine n_imul hx hb d_q_Grid_penaltyOfSquares_75 ?_
  refine n_topn (show 3 * (pqL ro 20) = 3 * pqL ro 20 from rfl) ?_
  exact kr _ ls H locs d_q_Grid_penaltyOfSquares_76 hP hS
set_option maxHeartbeats 1000000 in
set_option maxRecDepth 100000 in
theorem c_q_Grid_penaltyOfSquares (l : Launch) (D : va_G) (cI cC : ClassId) (go ga : Nat) (ro : Nat → Nat) (hro : ∀ j, j < 21 → ro j < 2097152) : Met l y_q_Grid_penaltyOfSquares (cd_q_Grid_penaltyOfSquares :: WS) { frames := 1, cells := 0, slots := 0, locals := 20 } (va_Pc [.ref go] (rP D [(go, .inr (2, [.ref ga])), (ga, .inl (cI, 21, .inl (fun j => nI (ro j))))] [(cI, .int), (cC, .char)])) (pQ (nI (3 * pqL ro 20))) 0 0 noA := by
  refine Met.ofW (cc := b_q_Grid_penaltyOfSquares) (maxL := 5) (ret := (some .int)) (by decide) rfl ?_
  intro p e s m args below meth c s₁ B hml hv0
  obtain ⟨rfl, hP, hK⟩ := hv0
  have hts := atoms_spec (ws := cd_q_Grid_penaltyOfSquares :: WS) B.pre
  have hown : s.vm.findClass R_Grid = some m.cls := findClass_of_methodNamed B.named
  have hlocks := B.notSynchronized
  have hl := lv_entry ([.ref go]) (n := 5) (Nat.le_of_ble_eq_true rfl)
  rw [lg_entry_eq]
  generalize (lg_sl ([.ref go]) ++ List.replicate (5 - (lg_sl ([.ref go])).length) Slot.unset).toArray = ls at hl ⊢
  refine bd_q_Grid_penaltyOfSquares cI cC go ga ro hro ⟨B.exec, B.bytes, hml, hown, hts⟩ (Nat.le_refl _) (Nat.le_refl _) ⟨Nat.le_refl _, Nat.le_refl _⟩ hK (fun pc ls H locs hd hP hS => ?_) ls _ _ hl hP (va_S.rf (A := noA))
  exact W.iret B.exec B.bytes B.returns (fun t ht _ => ⟨⟨_, (), rfl, rfl, trivial⟩, hS.F ht⟩) hS.2.2 hd
end
section
theorem d_q_Grid_penaltyOfBalance_0 : decode b_q_Grid_penaltyOfBalance 0 = .ok (.iconst 0, 1) := by decide +kernel
theorem d_q_Grid_penaltyOfBalance_1 : decode b_q_Grid_penaltyOfBalance 1 = .ok (.istore_n 1, 1) := by decide +kernel
theorem d_q_Grid_penaltyOfBalance_2 : decode b_q_Grid_penaltyOfBalance 2 = .ok (.iconst 0, 1) := by decide +kernel
theorem d_q_Grid_penaltyOfBalance_3 : decode b_q_Grid_penaltyOfBalance 3 = .ok (.istore_n 2, 1) := by decide +kernel
theorem d_q_Grid_penaltyOfBalance_4 : decode b_q_Grid_penaltyOfBalance 4 = .ok (.iload_n 2, 1) := by decide +kernel
theorem d_q_Grid_penaltyOfBalance_5 : decode b_q_Grid_penaltyOfBalance 5 = .ok (.bipush 21, 2) := by decide +kernel
theorem d_q_Grid_penaltyOfBalance_7 : decode b_q_Grid_penaltyOfBalance 7 = .ok (.if_icmp .ge 21, 3) := by decide +kernel
theorem d_q_Grid_penaltyOfBalance_10 : decode b_q_Grid_penaltyOfBalance 10 = .ok (.iload_n 1, 1) := by decide +kernel
theorem d_q_Grid_penaltyOfBalance_11 : decode b_q_Grid_penaltyOfBalance 11 = .ok (.aload_n 0, 1) := by decide +kernel
theorem d_q_Grid_penaltyOfBalance_12 : decode b_q_Grid_penaltyOfBalance 12 = .ok (.getfield 9, 3) := by decide +kernel
theorem d_q_Grid_penaltyOfBalance_15 : decode b_q_Grid_penaltyOfBalance 15 = .ok (.iload_n 2, 1) := by decide +kernel
theorem d_q_Grid_penaltyOfBalance_16 : decode b_q_Grid_penaltyOfBalance 16 = .ok (.iaload, 1) := by decide +kernel
theorem d_q_Grid_penaltyOfBalance_17 : decode b_q_Grid_penaltyOfBalance 17 = .ok (.invokestatic 46, 3) := by decide +kernel
theorem d_q_Grid_penaltyOfBalance_20 : decode b_q_Grid_penaltyOfBalance 20 = .ok (.iadd, 1) := by decide +kernel
theorem d_q_Grid_penaltyOfBalance_21 : decode b_q_Grid_penaltyOfBalance 21 = .ok (.istore_n 1, 1) := by decide +kernel
theorem d_q_Grid_penaltyOfBalance_22 : decode b_q_Grid_penaltyOfBalance 22 = .ok (.iinc 2 1, 3) := by decide +kernel
theorem d_q_Grid_penaltyOfBalance_25 : decode b_q_Grid_penaltyOfBalance 25 = .ok (.goto (-21), 3) := by decide +kernel
theorem d_q_Grid_penaltyOfBalance_28 : decode b_q_Grid_penaltyOfBalance 28 = .ok (.bipush 10, 2) := by decide +kernel
theorem d_q_Grid_penaltyOfBalance_30 : decode b_q_Grid_penaltyOfBalance 30 = .ok (.bipush 20, 2) := by decide +kernel
theorem d_q_Grid_penaltyOfBalance_32 : decode b_q_Grid_penaltyOfBalance 32 = .ok (.iload_n 1, 1) := by decide +kernel
theorem d_q_Grid_penaltyOfBalance_33 : decode b_q_Grid_penaltyOfBalance 33 = .ok (.imul, 1) := by decide +kernel
theorem d_q_Grid_penaltyOfBalance_34 : decode b_q_Grid_penaltyOfBalance 34 = .ok (.sipush 4410, 3) := by decide +kernel
theorem d_q_Grid_penaltyOfBalance_37 : decode b_q_Grid_penaltyOfBalance 37 = .ok (.isub, 1) := by decide +kernel
theorem d_q_Grid_penaltyOfBalance_38 : decode b_q_Grid_penaltyOfBalance 38 = .ok (.invokestatic 51, 3) := by decide +kernel
theorem d_q_Grid_penaltyOfBalance_41 : decode b_q_Grid_penaltyOfBalance 41 = .ok (.sipush 441, 3) := by decide +kernel
theorem d_q_Grid_penaltyOfBalance_44 : decode b_q_Grid_penaltyOfBalance 44 = .ok (.idiv, 1) := by decide +kernel
theorem d_q_Grid_penaltyOfBalance_45 : decode b_q_Grid_penaltyOfBalance 45 = .ok (.imul, 1) := by decide +kernel
theorem d_q_Grid_penaltyOfBalance_46 : decode b_q_Grid_penaltyOfBalance 46 = .ok (.ireturn, 1) := by decide +kernel
end
section
variable {p : Program} {l : Launch} {e : Env} {R : Room} {s : State} {m : MethodId} {args : Array Value} {below : List Frame} {meth : Method} {c : Code} {cells slots : Nat} {Q : State → Prop} {A : Nat → Prop} {H0 : Heap} {D : va_G}
set_option maxHeartbeats 1000000 in
set_option maxRecDepth 100000 in
theorem lp_q_Grid_penaltyOfBalance_4 (cI cC : ClassId) (go ga : Nat) (ro : Nat → Nat) (hro : ∀ j, j < 21 → ro j < 2097152) (S : CallFix p m c b_q_Grid_penaltyOfBalance 3 s args (cd_q_Grid_penaltyOfBalance :: WS) R_Grid) (hRf : 1 ≤ R.frames) (hRl : 60 ≤ R.locals) (hRc : cells ≤ R.cells ∧ slots ≤ R.slots) (hK : va_K D classes [(cI, .int), (cC, .char)] s) (kx : ∀ (ls : Array Slot) (H : Heap) (locs : List Loc), lv_has ls 3 [(0, .ref go), (1, .int (nI (pbL ro 21))), (2, .int (nI 21))] → va_P D classes [(go, .inr (2, [.ref ga])), (ga, .inl (cI, 21, .inl (fun j => nI (ro j))))] H → va_S A H0 H locs → W p l e R s m args below meth c H locs cells slots Q (F0 m 28 ls [])) :
    ∀ k, k ≤ 21 → ∀ (ls : Array Slot) (H : Heap) (locs : List Loc), lv_has ls 3 [(0, .ref go), (1, .int (nI (pbL ro k))), (2, .int (nI k))] → va_P D classes [(go, .inr (2, [.ref ga])), (ga, .inl (cI, 21, .inl (fun j => nI (ro j))))] H → va_S A H0 H locs → W p l e R s m args below meth c H locs cells slots Q (F0 m 4 ls []) := by
  obtain ⟨hx, hb, hml, hown, hts⟩ := id S
  refine up_loop (fun k hkk ih => ?_)
  intro ls H locs hl hP hS
  refine lv_iload_n hx hb d_q_Grid_penaltyOfBalance_4 rfl (lv_at hl 2 rfl) ?_
  refine lv_bipush (v := nI 21) hx hb d_q_Grid_penaltyOfBalance_5 (by decide) ?_
  refine n_icmp_ge hx hb d_q_Grid_penaltyOfBalance_7 (tgt := 28) rfl (by omega) (by omega) (fun g7 => ?_) (fun g7 => ?_)
  · skip
    obtain rfl : k = 21 := by omega
    exact kx ls H locs (lv_sub hl [0, 1, 2] rfl) hP hS
  · skip
    have hr1 := hro k (by omega)
    refine lv_iload_n hx hb d_q_Grid_penaltyOfBalance_10 rfl (lv_at hl 1 rfl) ?_
    refine lv_aload_n hx hb d_q_Grid_penaltyOfBalance_11 rfl (lv_at hl 0 rfl) ?_
    refine n_get (C := R_Grid) (T := F_Grid) (N := 1) (v := .ref ga) hx hb hts u_Grid_in hown hK hP 0 rfl rfl 0 (by decide) kw_42 rfl d_q_Grid_penaltyOfBalance_12 ?_
    refine lv_iload_n hx hb d_q_Grid_penaltyOfBalance_15 rfl (lv_at hl 2 rfl) ?_
    refine n_iald hx hb hK hP 1 0 rfl rfl (by omega) (by decide) d_q_Grid_penaltyOfBalance_16 ?_
    refine q_pureS (n := 1) (As := [.int (nI (ro k))]) (rest := [.int (nI (pbL ro k))]) S (c_j_Integer_bitCount l (ro k) (by omega)) (q_goodS kw_248 kw_249 kw_26 kw_250) (by decide +kernel) rfl rfl ⟨Nat.le_trans (Nat.le_of_ble_eq_true rfl) hRf, Nat.le_trans (Nat.le_of_ble_eq_true rfl) hRl⟩ rfl hl.1 rfl (Nat.le_of_ble_eq_true rfl) d_q_Grid_penaltyOfBalance_17 hRc hS (fun H locs hkp hS => ?_)
    replace hP := hP.kept (fun k q hq => hkp q.1 (hP k q hq).lt)
    refine n_iadd hx hb d_q_Grid_penaltyOfBalance_20 ?_
    refine n_topn (show (pbL ro k) + (bcN (ro k)) = pbL ro (k + 1) from rfl) ?_
    refine lv_istore_n hx hb d_q_Grid_penaltyOfBalance_21 rfl hl (Nat.le_of_ble_eq_true rfl) rfl (fun ls hl => ?_)
    have hl : lv_has ls 3 [(1, .int (nI (pbL ro (k + 1)))), (0, .ref go), (2, .int (nI k))] := hl
    refine lv_iinc (k := 2) (v := nI (k + 1)) hx hb d_q_Grid_penaltyOfBalance_22 hl rfl (nx_inc k 1) (Nat.le_of_ble_eq_true rfl) rfl (fun ls hl => ?_)
    have hl : lv_has ls 3 [(2, .int (nI (k + 1))), (1, .int (nI (pbL ro (k + 1)))), (0, .ref go)] := hl
    refine lv_goto hx hb d_q_Grid_penaltyOfBalance_25 (tgt := 4) rfl ?_
    exact ih (by omega) ls H locs (lv_sub hl [2, 1, 0] rfl) hP hS
set_option maxHeartbeats 1000000 in
set_option maxRecDepth 100000 in
theorem bd_q_Grid_penaltyOfBalance (cI cC : ClassId) (go ga : Nat) (ro : Nat → Nat) (hro : ∀ j, j < 21 → ro j < 2097152) (S : CallFix p m c b_q_Grid_penaltyOfBalance 3 s args (cd_q_Grid_penaltyOfBalance :: WS) R_Grid) (hRf : 1 ≤ R.frames) (hRl : 60 ≤ R.locals) (hRc : cells ≤ R.cells ∧ slots ≤ R.slots) (hK : va_K D classes [(cI, .int), (cC, .char)] s) (kr : ∀ (pc : Nat) (ls : Array Slot) (H : Heap) (locs : List Loc), decode b_q_Grid_penaltyOfBalance pc = .ok (.ireturn, 1) → va_P D classes [(go, .inr (2, [.ref ga])), (ga, .inl (cI, 21, .inl (fun j => nI (ro j))))] H → va_S A H0 H locs → W p l e R s m args below meth c H locs cells slots Q (F0 m pc ls [.int (nI (10 * (adN (20 * pbL ro 21) / 441)))])) : ∀ (ls : Array Slot) (H : Heap) (locs : List Loc), lv_has ls 3 [(0, .ref go)] → va_P D classes [(go, .inr (2, [.ref ga])), (ga, .inl (cI, 21, .inl (fun j => nI (ro j))))] H → va_S A H0 H locs → W p l e R s m args below meth c H locs cells slots Q (F0 m 0 ls []) := by
  obtain ⟨hx, hb, hml, hown, hts⟩ := id S
  intro ls H locs hl hP hS
  refine lv_iconst (v := nI 0) hx hb d_q_Grid_penaltyOfBalance_0 (by decide) ?_
  refine lv_istore_n hx hb d_q_Grid_penaltyOfBalance_1 rfl hl (Nat.le_of_ble_eq_true rfl) rfl (fun ls hl => ?_)
  have hl : lv_has ls 3 [(1, .int (nI 0)), (0, .ref go)] := hl
  refine lv_iconst (v := nI 0) hx hb d_q_Grid_penaltyOfBalance_2 (by decide) ?_
  refine lv_istore_n hx hb d_q_Grid_penaltyOfBalance_3 rfl hl (Nat.le_of_ble_eq_true rfl) rfl (fun ls hl => ?_)
  have hl : lv_has ls 3 [(2, .int (nI 0)), (1, .int (nI 0)), (0, .ref go)] := hl
  refine lp_q_Grid_penaltyOfBalance_4 cI cC go ga ro hro S hRf hRl hRc hK  (fun ls H locs hl hP hS => ?_) 0 (by omega) ls H locs (lv_sub hl [2, 1, 0] rfl) hP hS
  have hpb := pbL_le ro 21
  have had := adN_lt (20 * pbL ro 21)
  refine lv_bipush (v := nI 10) hx hb d_q_Grid_penaltyOfBalance_28 (by decide) ?_
  refine lv_bipush (v := nI 20) hx hb d_q_Grid_penaltyOfBalance_30 (by decide) ?_
  refine lv_iload_n hx hb d_q_Grid_penaltyOfBalance_32 rfl (lv_at hl 1 rfl) ?_
  refine n_imul hx hb d_q_Grid_penaltyOfBalance_33 ?_
  refine lv_sipush (v := nI 4410) hx hb d_q_Grid_penaltyOfBalance_34 (by decide) ?_
  refine lv_isub hx hb d_q_Grid_penaltyOfBalance_37 ?_
  refine va_mabs (rest := [.int (nI 10)]) hx hb (hml.trans hl.1.symm) hown (hts _ (List.mem_cons_of_mem _ kw_258)) (hts _ (List.mem_cons_of_mem _ kw_259)) (hts _ (List.mem_cons_of_mem _ kw_19)) (hts _ (List.mem_cons_of_mem _ kw_260)) (Nat.le_trans (Nat.le_of_ble_eq_true rfl) hRf) (Nat.le_trans (Nat.le_of_ble_eq_true rfl) hRl) hRc.1 hRc.2 d_q_Grid_penaltyOfBalance_38 ?_
  refine n_top (show (if 0 ≤ nI (20 * (pbL ro 21)) - nI 4410 then nI (20 * (pbL ro 21)) - nI 4410 else 0 - (nI (20 * (pbL ro 21)) - nI 4410)) = nI (adN (20 * pbL ro 21)) from nx_abs (by omega)) ?_
  refine lv_sipush (v := nI 441) hx hb d_q_Grid_penaltyOfBalance_41 (by decide) ?_
  refine n_idiv hx hb d_q_Grid_penaltyOfBalance_44 (by omega) (by omega) (by omega) ?_
  refine n_imul hx hb d_q_Grid_penaltyOfBalance_45 ?_
  refine n_topn (show 10 * ((adN (20 * pbL ro 21)) / 441) = 10 * (adN (20 * pbL ro 21) / 441) from rfl) ?_
  exact kr _ ls H locs d_q_Grid_penaltyOfBalance_46 hP hS
set_option maxHeartbeats 1000000 in
set_option maxRecDepth 100000 in
theorem c_q_Grid_penaltyOfBalance (l : Launch) (D : va_G) (cI cC : ClassId) (go ga : Nat) (ro : Nat → Nat) (hro : ∀ j, j < 21 → ro j < 2097152) : Met l y_q_Grid_penaltyOfBalance (cd_q_Grid_penaltyOfBalance :: WS) { frames := 1, cells := 0, slots := 0, locals := 60 } (va_Pc [.ref go] (rP D [(go, .inr (2, [.ref ga])), (ga, .inl (cI, 21, .inl (fun j => nI (ro j))))] [(cI, .int), (cC, .char)])) (pQ (nI (10 * (adN (20 * pbL ro 21) / 441)))) 0 0 noA := by
  refine Met.ofW (cc := b_q_Grid_penaltyOfBalance) (maxL := 3) (ret := (some .int)) (by decide) rfl ?_
  intro p e s m args below meth c s₁ B hml hv0
  obtain ⟨rfl, hP, hK⟩ := hv0
  have hts := atoms_spec (ws := cd_q_Grid_penaltyOfBalance :: WS) B.pre
  have hown : s.vm.findClass R_Grid = some m.cls := findClass_of_methodNamed B.named
  have hlocks := B.notSynchronized
  have hl := lv_entry ([.ref go]) (n := 3) (Nat.le_of_ble_eq_true rfl)
  rw [lg_entry_eq]
  generalize (lg_sl ([.ref go]) ++ List.replicate (3 - (lg_sl ([.ref go])).length) Slot.unset).toArray = ls at hl ⊢
  refine bd_q_Grid_penaltyOfBalance cI cC go ga ro hro ⟨B.exec, B.bytes, hml, hown, hts⟩ (Nat.le_refl _) (Nat.le_refl _) ⟨Nat.le_refl _, Nat.le_refl _⟩ hK (fun pc ls H locs hd hP hS => ?_) ls _ _ hl hP (va_S.rf (A := noA))
  exact W.iret B.exec B.bytes B.returns (fun t ht _ => ⟨⟨_, (), rfl, rfl, trivial⟩, hS.F ht⟩) hS.2.2 hd
end
section
theorem d_q_Grid_penalty_0 : decode b_q_Grid_penalty 0 = .ok (.aload_n 0, 1) := by decide +kernel
theorem d_q_Grid_penalty_1 : decode b_q_Grid_penalty 1 = .ok (.invokevirtual 21, 3) := by decide +kernel
theorem d_q_Grid_penalty_4 : decode b_q_Grid_penalty 4 = .ok (.aload_n 0, 1) := by decide +kernel
theorem d_q_Grid_penalty_5 : decode b_q_Grid_penalty 5 = .ok (.invokevirtual 25, 3) := by decide +kernel
theorem d_q_Grid_penalty_8 : decode b_q_Grid_penalty 8 = .ok (.iadd, 1) := by decide +kernel
theorem d_q_Grid_penalty_9 : decode b_q_Grid_penalty 9 = .ok (.istore_n 1, 1) := by decide +kernel
theorem d_q_Grid_penalty_10 : decode b_q_Grid_penalty 10 = .ok (.iconst 0, 1) := by decide +kernel
theorem d_q_Grid_penalty_11 : decode b_q_Grid_penalty 11 = .ok (.istore_n 2, 1) := by decide +kernel
theorem d_q_Grid_penalty_12 : decode b_q_Grid_penalty 12 = .ok (.iload_n 2, 1) := by decide +kernel
theorem d_q_Grid_penalty_13 : decode b_q_Grid_penalty 13 = .ok (.bipush 21, 2) := by decide +kernel
theorem d_q_Grid_penalty_15 : decode b_q_Grid_penalty 15 = .ok (.if_icmp .ge 30, 3) := by decide +kernel
theorem d_q_Grid_penalty_18 : decode b_q_Grid_penalty 18 = .ok (.iload_n 1, 1) := by decide +kernel
theorem d_q_Grid_penalty_19 : decode b_q_Grid_penalty 19 = .ok (.aload_n 0, 1) := by decide +kernel
theorem d_q_Grid_penalty_20 : decode b_q_Grid_penalty 20 = .ok (.getfield 9, 3) := by decide +kernel
theorem d_q_Grid_penalty_23 : decode b_q_Grid_penalty 23 = .ok (.iload_n 2, 1) := by decide +kernel
theorem d_q_Grid_penalty_24 : decode b_q_Grid_penalty 24 = .ok (.iaload, 1) := by decide +kernel
theorem d_q_Grid_penalty_25 : decode b_q_Grid_penalty 25 = .ok (.invokestatic 28, 3) := by decide +kernel
theorem d_q_Grid_penalty_28 : decode b_q_Grid_penalty 28 = .ok (.aload_n 0, 1) := by decide +kernel
theorem d_q_Grid_penalty_29 : decode b_q_Grid_penalty 29 = .ok (.iload_n 2, 1) := by decide +kernel
theorem d_q_Grid_penalty_30 : decode b_q_Grid_penalty 30 = .ok (.invokevirtual 32, 3) := by decide +kernel
theorem d_q_Grid_penalty_33 : decode b_q_Grid_penalty 33 = .ok (.invokestatic 28, 3) := by decide +kernel
theorem d_q_Grid_penalty_36 : decode b_q_Grid_penalty 36 = .ok (.iadd, 1) := by decide +kernel
theorem d_q_Grid_penalty_37 : decode b_q_Grid_penalty 37 = .ok (.iadd, 1) := by decide +kernel
theorem d_q_Grid_penalty_38 : decode b_q_Grid_penalty 38 = .ok (.istore_n 1, 1) := by decide +kernel
theorem d_q_Grid_penalty_39 : decode b_q_Grid_penalty 39 = .ok (.iinc 2 1, 3) := by decide +kernel
theorem d_q_Grid_penalty_42 : decode b_q_Grid_penalty 42 = .ok (.goto (-30), 3) := by decide +kernel
theorem d_q_Grid_penalty_45 : decode b_q_Grid_penalty 45 = .ok (.iload_n 1, 1) := by decide +kernel
theorem d_q_Grid_penalty_46 : decode b_q_Grid_penalty 46 = .ok (.ireturn, 1) := by decide +kernel
end
section
variable {p : Program} {l : Launch} {e : Env} {R : Room} {s : State} {m : MethodId} {args : Array Value} {below : List Frame} {meth : Method} {c : Code} {cells slots : Nat} {Q : State → Prop} {A : Nat → Prop} {H0 : Heap} {D : va_G}
set_option maxHeartbeats 1000000 in
set_option maxRecDepth 100000 in
theorem lp_q_Grid_penalty_12 (cI cC : ClassId) (go ga : Nat) (ro : Nat → Nat) (hro : ∀ j, j < 21 → ro j < 2097152) (S : CallFix p m c b_q_Grid_penalty 3 s args (cd_q_Grid_penalty :: WS) R_Grid) (hRf : 2 ≤ R.frames) (hRl : 82 ≤ R.locals) (hRc : cells ≤ R.cells ∧ slots ≤ R.slots) (hK : va_K D classes [(cI, .int), (cC, .char)] s) (kx : ∀ (ls : Array Slot) (H : Heap) (locs : List Loc), lv_has ls 3 [(0, .ref go), (1, .int (nI (peN ro 21))), (2, .int (nI 21))] → va_P D classes [(go, .inr (2, [.ref ga])), (ga, .inl (cI, 21, .inl (fun j => nI (ro j))))] H → va_S A H0 H locs → W p l e R s m args below meth c H locs cells slots Q (F0 m 45 ls [])) :
    ∀ k, k ≤ 21 → ∀ (ls : Array Slot) (H : Heap) (locs : List Loc), lv_has ls 3 [(0, .ref go), (1, .int (nI (peN ro k))), (2, .int (nI k))] → va_P D classes [(go, .inr (2, [.ref ga])), (ga, .inl (cI, 21, .inl (fun j => nI (ro j))))] H → va_S A H0 H locs → W p l e R s m args below meth c H locs cells slots Q (F0 m 12 ls []) := by
  obtain ⟨hx, hb, hml, hown, hts⟩ := id S
  refine up_loop (fun k hkk ih => ?_)
  intro ls H locs hl hP hS
  refine lv_iload_n hx hb d_q_Grid_penalty_12 rfl (lv_at hl 2 rfl) ?_
  refine lv_bipush (v := nI 21) hx hb d_q_Grid_penalty_13 (by decide) ?_
  refine n_icmp_ge hx hb d_q_Grid_penalty_15 (tgt := 45) rfl (by omega) (by omega) (fun g15 => ?_) (fun g15 => ?_)
  · skip
    obtain rfl : k = 21 := by omega
    exact kx ls H locs (lv_sub hl [0, 1, 2] rfl) hP hS
  · skip
    have hr1 := hro k (by omega)
    have hcl := clN_lt ro k 21
    refine lv_iload_n hx hb d_q_Grid_penalty_18 rfl (lv_at hl 1 rfl) ?_
    refine lv_aload_n hx hb d_q_Grid_penalty_19 rfl (lv_at hl 0 rfl) ?_
    refine n_get (C := R_Grid) (T := F_Grid) (N := 1) (v := .ref ga) hx hb hts u_Grid_in hown hK hP 0 rfl rfl 0 (by decide) kw_42 rfl d_q_Grid_penalty_20 ?_
    refine lv_iload_n hx hb d_q_Grid_penalty_23 rfl (lv_at hl 2 rfl) ?_
    refine n_iald hx hb hK hP 1 0 rfl rfl (by omega) (by decide) d_q_Grid_penalty_24 ?_
    refine q_pureS (n := 1) (As := [.int (nI (ro k))]) (rest := [.int (nI (peN ro k))]) S (c_q_Grid_penaltyOfLine l (ro k) (by omega)) (q_goodS kw_261 kw_262 kw_2 kw_263) (by decide +kernel) rfl rfl ⟨Nat.le_trans (Nat.le_of_ble_eq_true rfl) hRf, Nat.le_trans (Nat.le_of_ble_eq_true rfl) hRl⟩ rfl hl.1 rfl (Nat.le_of_ble_eq_true rfl) d_q_Grid_penalty_25 hRc hS (fun H locs hkp hS => ?_)
    replace hP := hP.kept (fun k q hq => hkp q.1 (hP k q hq).lt)
    refine lv_aload_n hx hb d_q_Grid_penalty_28 rfl (lv_at hl 0 rfl) ?_
    refine lv_iload_n hx hb d_q_Grid_penalty_29 rfl (lv_at hl 2 rfl) ?_
    refine q_readV (n := 1) (As := [.int (nI k)]) (rest := [.int (nI ((prL (ro k) 21).1 + peL (ro k) 11)), .int (nI (peN ro k))]) (wc := [(go, .inr (2, [.ref ga])), (ga, .inl (cI, 21, .inl (fun j => nI (ro j))))]) S (c_q_Grid_columnBits l D cI cC go ga ro k (by omega) hro) hK hP (q0 := 0) rfl rfl [0, 1] rfl (q_goodV kw_270 kw_272 ks_2 kw_2 kw_273) (by decide +kernel) rfl rfl rfl ⟨Nat.le_trans (Nat.le_of_ble_eq_true rfl) hRf, Nat.le_trans (Nat.le_of_ble_eq_true rfl) hRl⟩ rfl hl.1 rfl (Nat.le_of_ble_eq_true rfl) d_q_Grid_penalty_30 hRc hS (fun H locs hP hS => ?_)
    refine q_pureS (n := 1) (As := [.int (nI (clN ro k 21))]) (rest := [.int (nI ((prL (ro k) 21).1 + peL (ro k) 11)), .int (nI (peN ro k))]) S (c_q_Grid_penaltyOfLine l (clN ro k 21) (by omega)) (q_goodS kw_261 kw_262 kw_2 kw_263) (by decide +kernel) rfl rfl ⟨Nat.le_trans (Nat.le_of_ble_eq_true rfl) hRf, Nat.le_trans (Nat.le_of_ble_eq_true rfl) hRl⟩ rfl hl.1 rfl (Nat.le_of_ble_eq_true rfl) d_q_Grid_penalty_33 hRc hS (fun H locs hkp hS => ?_)
    replace hP := hP.kept (fun k q hq => hkp q.1 (hP k q hq).lt)
    refine n_iadd hx hb d_q_Grid_penalty_36 ?_
    refine n_iadd hx hb d_q_Grid_penalty_37 ?_
    refine n_topn (show (peN ro k) + (((prL (ro k) 21).1 + peL (ro k) 11) + ((prL (clN ro k 21) 21).1 + peL (clN ro k 21) 11)) = peN ro (k + 1) from rfl) ?_
    refine lv_istore_n hx hb d_q_Grid_penalty_38 rfl hl (Nat.le_of_ble_eq_true rfl) rfl (fun ls hl => ?_)
    have hl : lv_has ls 3 [(1, .int (nI (peN ro (k + 1)))), (0, .ref go), (2, .int (nI k))] := hl
    refine lv_iinc (k := 2) (v := nI (k + 1)) hx hb d_q_Grid_penalty_39 hl rfl (nx_inc k 1) (Nat.le_of_ble_eq_true rfl) rfl (fun ls hl => ?_)
    have hl : lv_has ls 3 [(2, .int (nI (k + 1))), (1, .int (nI (peN ro (k + 1)))), (0, .ref go)] := hl
    refine lv_goto hx hb d_q_Grid_penalty_42 (tgt := 12) rfl ?_
    exact ih (by omega) ls H locs (lv_sub hl [2, 1, 0] rfl) hP hS
set_option maxHeartbeats 1000000 in
set_option maxRecDepth 100000 in
theorem bd_q_Grid_penalty (cI cC : ClassId) (go ga : Nat) (ro : Nat → Nat) (hro : ∀ j, j < 21 → ro j < 2097152) (S : CallFix p m c b_q_Grid_penalty 3 s args (cd_q_Grid_penalty :: WS) R_Grid) (hRf : 2 ≤ R.frames) (hRl : 82 ≤ R.locals) (hRc : cells ≤ R.cells ∧ slots ≤ R.slots) (hK : va_K D classes [(cI, .int), (cC, .char)] s) (kr : ∀ (pc : Nat) (ls : Array Slot) (H : Heap) (locs : List Loc), decode b_q_Grid_penalty pc = .ok (.ireturn, 1) → va_P D classes [(go, .inr (2, [.ref ga])), (ga, .inl (cI, 21, .inl (fun j => nI (ro j))))] H → va_S A H0 H locs → W p l e R s m args below meth c H locs cells slots Q (F0 m pc ls [.int (nI (peN ro 21))])) : ∀ (ls : Array Slot) (H : Heap) (locs : List Loc), lv_has ls 3 [(0, .ref go)] → va_P D classes [(go, .inr (2, [.ref ga])), (ga, .inl (cI, 21, .inl (fun j => nI (ro j))))] H → va_S A H0 H locs → W p l e R s m args below meth c H locs cells slots Q (F0 m 0 ls []) := by
  obtain ⟨hx, hb, hml, hown, hts⟩ := id S
  intro ls H locs hl hP hS
  refine lv_aload_n hx hb d_q_Grid_penalty_0 rfl (lv_at hl 0 rfl) ?_
  refine q_readV (n := 0) (As := []) (rest := []) (wc := [(go, .inr (2, [.ref ga])), (ga, .inl (cI, 21, .inl (fun j => nI (ro j))))]) S (c_q_Grid_penaltyOfSquares l D cI cC go ga ro hro) hK hP (q0 := 0) rfl rfl [0, 1] rfl (q_goodV kw_243 kw_245 ks_0 kw_2 kw_246) (by decide +kernel) rfl rfl rfl ⟨Nat.le_trans (Nat.le_of_ble_eq_true rfl) hRf, Nat.le_trans (Nat.le_of_ble_eq_true rfl) hRl⟩ rfl hl.1 rfl (Nat.le_of_ble_eq_true rfl) d_q_Grid_penalty_1 hRc hS (fun H locs hP hS => ?_)
  refine lv_aload_n hx hb d_q_Grid_penalty_4 rfl (lv_at hl 0 rfl) ?_
  refine q_readV (n := 0) (As := []) (rest := [.int (nI (3 * pqL ro 20))]) (wc := [(go, .inr (2, [.ref ga])), (ga, .inl (cI, 21, .inl (fun j => nI (ro j))))]) S (c_q_Grid_penaltyOfBalance l D cI cC go ga ro hro) hK hP (q0 := 0) rfl rfl [0, 1] rfl (q_goodV kw_254 kw_256 ks_1 kw_2 kw_257) (by decide +kernel) rfl rfl rfl ⟨Nat.le_trans (Nat.le_of_ble_eq_true rfl) hRf, Nat.le_trans (Nat.le_of_ble_eq_true rfl) hRl⟩ rfl hl.1 rfl (Nat.le_of_ble_eq_true rfl) d_q_Grid_penalty_5 hRc hS (fun H locs hP hS => ?_)
  refine n_iadd hx hb d_q_Grid_penalty_8 ?_
  refine lv_istore_n hx hb d_q_Grid_penalty_9 rfl hl (Nat.le_of_ble_eq_true rfl) rfl (fun ls hl => ?_)
  have hl : lv_has ls 3 [(1, .int (nI ((3 * pqL ro 20) + (10 * (adN (20 * pbL ro 21) / 441))))), (0, .ref go)] := hl
  refine lv_iconst (v := nI 0) hx hb d_q_Grid_penalty_10 (by decide) ?_
  refine lv_istore_n hx hb d_q_Grid_penalty_11 rfl hl (Nat.le_of_ble_eq_true rfl) rfl (fun ls hl => ?_)
  have hl : lv_has ls 3 [(2, .int (nI 0)), (1, .int (nI ((3 * pqL ro 20) + (10 * (adN (20 * pbL ro 21) / 441))))), (0, .ref go)] := hl
  refine lp_q_Grid_penalty_12 cI cC go ga ro hro S hRf hRl hRc hK  (fun ls H locs hl hP hS => ?_) 0 (by omega) ls H locs (lv_sub hl [2, 1, 0] rfl) hP hS
  refine lv_iload_n hx hb d_q_Grid_penalty_45 rfl (lv_at hl 1 rfl) ?_
  exact kr _ ls H locs d_q_Grid_penalty_46 hP hS
set_option maxHeartbeats 1000000 in
set_option maxRecDepth 100000 in
theorem c_q_Grid_penalty (l : Launch) (D : va_G) (cI cC : ClassId) (go ga : Nat) (ro : Nat → Nat) (hro : ∀ j, j < 21 → ro j < 2097152) : Met l y_q_Grid_penalty (cd_q_Grid_penalty :: WS) { frames := 2, cells := 0, slots := 0, locals := 82 } (va_Pc [.ref go] (rP D [(go, .inr (2, [.ref ga])), (ga, .inl (cI, 21, .inl (fun j => nI (ro j))))] [(cI, .int), (cC, .char)])) (pQ (nI (peN ro 21))) 0 0 noA := by
  refine Met.ofW (cc := b_q_Grid_penalty) (maxL := 3) (ret := (some .int)) (by decide) rfl ?_
  intro p e s m args below meth c s₁ B hml hv0
  obtain ⟨rfl, hP, hK⟩ := hv0
  have hts := atoms_spec (ws := cd_q_Grid_penalty :: WS) B.pre
  have hown : s.vm.findClass R_Grid = some m.cls := findClass_of_methodNamed B.named
  have hlocks := B.notSynchronized
  have hl := lv_entry ([.ref go]) (n := 3) (Nat.le_of_ble_eq_true rfl)
  rw [lg_entry_eq]
  generalize (lg_sl ([.ref go]) ++ List.replicate (3 - (lg_sl ([.ref go])).length) Slot.unset).toArray = ls at hl ⊢
  refine bd_q_Grid_penalty cI cC go ga ro hro ⟨B.exec, B.bytes, hml, hown, hts⟩ (Nat.le_refl _) (Nat.le_refl _) ⟨Nat.le_refl _, Nat.le_refl _⟩ hK (fun pc ls H locs hd hP hS => ?_) ls _ _ hl hP (va_S.rf (A := noA))
  exact W.iret B.exec B.bytes B.returns (fun t ht _ => ⟨⟨_, (), rfl, rfl, trivial⟩, hS.F ht⟩) hS.2.2 hd
end
section
theorem d_q_bitOf_0 : decode b_q_bitOf 0 = .ok (.aload_n 0, 1) := by decide +kernel
theorem d_q_bitOf_1 : decode b_q_bitOf 1 = .ok (.iload_n 1, 1) := by decide +kernel
theorem d_q_bitOf_2 : decode b_q_bitOf 2 = .ok (.iconst 3, 1) := by decide +kernel
theorem d_q_bitOf_3 : decode b_q_bitOf 3 = .ok (.ishr, 1) := by decide +kernel
theorem d_q_bitOf_4 : decode b_q_bitOf 4 = .ok (.iaload, 1) := by decide +kernel
theorem d_q_bitOf_5 : decode b_q_bitOf 5 = .ok (.bipush 7, 2) := by decide +kernel
theorem d_q_bitOf_7 : decode b_q_bitOf 7 = .ok (.iload_n 1, 1) := by decide +kernel
theorem d_q_bitOf_8 : decode b_q_bitOf 8 = .ok (.bipush 7, 2) := by decide +kernel
theorem d_q_bitOf_10 : decode b_q_bitOf 10 = .ok (.iand, 1) := by decide +kernel
theorem d_q_bitOf_11 : decode b_q_bitOf 11 = .ok (.isub, 1) := by decide +kernel
theorem d_q_bitOf_12 : decode b_q_bitOf 12 = .ok (.ishr, 1) := by decide +kernel
theorem d_q_bitOf_13 : decode b_q_bitOf 13 = .ok (.iconst 1, 1) := by decide +kernel
theorem d_q_bitOf_14 : decode b_q_bitOf 14 = .ok (.iand, 1) := by decide +kernel
theorem d_q_bitOf_15 : decode b_q_bitOf 15 = .ok (.ireturn, 1) := by decide +kernel
end
section
variable {p : Program} {l : Launch} {e : Env} {R : Room} {s : State} {m : MethodId} {args : Array Value} {below : List Frame} {meth : Method} {c : Code} {cells slots : Nat} {Q : State → Prop} {A : Nat → Prop} {H0 : Heap} {D : va_G}
set_option maxHeartbeats 1000000 in
set_option maxRecDepth 100000 in
theorem bd_q_bitOf (cI cC : ClassId) (ba : Nat) (bt : Nat → Nat) (x : Nat) (hx0 : x < 208) (hbt : lt256 26 bt) (S : CallFix p m c b_q_bitOf 2 s args (cd_q_bitOf :: WS) R_SquareCodes) (hRf : 0 ≤ R.frames) (hRl : 0 ≤ R.locals) (hRc : cells ≤ R.cells ∧ slots ≤ R.slots) (hK : va_K D classes [(cI, .int), (cC, .char)] s) (kr : ∀ (pc : Nat) (ls : Array Slot) (H : Heap) (locs : List Loc), decode b_q_bitOf pc = .ok (.ireturn, 1) → va_P D classes [(ba, .inl (cI, 26, .inl (fun j => nI (bt j))))] H → va_S A H0 H locs → W p l e R s m args below meth c H locs cells slots Q (F0 m pc ls [.int (nI (bt (x / 8) / 2 ^ (7 - x % 8) % 2))])) : ∀ (ls : Array Slot) (H : Heap) (locs : List Loc), lv_has ls 2 [(0, .ref ba), (1, .int (nI x))] → va_P D classes [(ba, .inl (cI, 26, .inl (fun j => nI (bt j))))] H → va_S A H0 H locs → W p l e R s m args below meth c H locs cells slots Q (F0 m 0 ls []) := by
  obtain ⟨hx, hb, hml, hown, hts⟩ := id S
  intro ls H locs hl hP hS
  have hb1 := hbt (x / 8) (by omega)
  refine lv_aload_n hx hb d_q_bitOf_0 rfl (lv_at hl 0 rfl) ?_
  refine lv_iload_n hx hb d_q_bitOf_1 rfl (lv_at hl 1 rfl) ?_
  refine lv_iconst (v := nI 3) hx hb d_q_bitOf_2 (by decide) ?_
  refine n_ishr hx hb d_q_bitOf_3 (by omega) (by omega) ?_
  refine n_topn (show x / 2 ^ 3 = x / 8 from rfl) ?_
  refine n_iald hx hb hK hP 0 0 rfl rfl (by omega) (by decide) d_q_bitOf_4 ?_
  refine lv_bipush (v := nI 7) hx hb d_q_bitOf_5 (by decide) ?_
  refine lv_iload_n hx hb d_q_bitOf_7 rfl (lv_at hl 1 rfl) ?_
  refine lv_bipush (v := nI 7) hx hb d_q_bitOf_8 (by decide) ?_
  refine n_iand hx hb d_q_bitOf_10 ?_
  refine n_topn (show x &&& 7 = x % 8 from (Nat.and_two_pow_sub_one_eq_mod x 3)) ?_
  refine n_isub hx hb d_q_bitOf_11 (by omega) ?_
  refine n_ishr hx hb d_q_bitOf_12 (by omega) (by omega) ?_
  refine lv_iconst (v := nI 1) hx hb d_q_bitOf_13 (by decide) ?_
  refine n_and1 hx hb d_q_bitOf_14 ?_
  refine n_topn (show ((bt (x / 8)) / 2 ^ (7 - (x % 8))) % 2 = bt (x / 8) / 2 ^ (7 - x % 8) % 2 from rfl) ?_
  exact kr _ ls H locs d_q_bitOf_15 hP hS
set_option maxHeartbeats 1000000 in
set_option maxRecDepth 100000 in
theorem c_q_bitOf (l : Launch) (D : va_G) (cI cC : ClassId) (ba : Nat) (bt : Nat → Nat) (x : Nat) (hx0 : x < 208) (hbt : lt256 26 bt) : Met l y_q_bitOf (cd_q_bitOf :: WS) { frames := 0, cells := 0, slots := 0, locals := 0 } (va_Pc [.ref ba, .int (nI x)] (rP D [(ba, .inl (cI, 26, .inl (fun j => nI (bt j))))] [(cI, .int), (cC, .char)])) (pQ (nI (bt (x / 8) / 2 ^ (7 - x % 8) % 2))) 0 0 noA := by
  refine Met.ofW (cc := b_q_bitOf) (maxL := 2) (ret := (some .int)) (by decide) rfl ?_
  intro p e s m args below meth c s₁ B hml hv0
  obtain ⟨rfl, hP, hK⟩ := hv0
  have hts := atoms_spec (ws := cd_q_bitOf :: WS) B.pre
  have hown : s.vm.findClass R_SquareCodes = some m.cls := findClass_of_methodNamed B.named
  have hlocks := B.notSynchronized
  have hl := lv_entry ([.ref ba, .int (nI x)]) (n := 2) (Nat.le_of_ble_eq_true rfl)
  rw [lg_entry_eq]
  generalize (lg_sl ([.ref ba, .int (nI x)]) ++ List.replicate (2 - (lg_sl ([.ref ba, .int (nI x)])).length) Slot.unset).toArray = ls at hl ⊢
  refine bd_q_bitOf cI cC ba bt x hx0 hbt ⟨B.exec, B.bytes, hml, hown, hts⟩ (Nat.le_refl _) (Nat.le_refl _) ⟨Nat.le_refl _, Nat.le_refl _⟩ hK (fun pc ls H locs hd hP hS => ?_) ls _ _ hl hP (va_S.rf (A := noA))
  exact W.iret B.exec B.bytes B.returns (fun t ht _ => ⟨⟨_, (), rfl, rfl, trivial⟩, hS.F ht⟩) hS.2.2 hd
end
