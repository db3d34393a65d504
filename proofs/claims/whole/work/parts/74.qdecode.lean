theorem kw_759 : (Jvm.Cond.methodLink "SquareCodes$TextReader" (72 : Nat) ({ cls := "java/lang/System", name := "arraycopy", desc := "(Ljava/lang/Object;ILjava/lang/Object;II)V" } : Jvm.MethodName)) ∈ WS := WS_tbl 759 (by decide +kernel) rfl
theorem kw_751 : (Jvm.Cond.methodLink "SquareCodes$Reading" (34 : Nat) ({ cls := "SquareCodes$TextReader", name := "length", desc := "()I" } : Jvm.MethodName)) ∈ WS := WS_tbl 751 (by decide +kernel) rfl
theorem kw_752 : (Jvm.Cond.instanceMethod ({ cls := "SquareCodes$TextReader", name := "length", desc := "()I" } : Jvm.MethodName)) ∈ WS := WS_tbl 752 (by decide +kernel) rfl
theorem kw_753 : (Jvm.Cond.selects "SquareCodes$TextReader" ({ cls := "SquareCodes$TextReader", name := "length", desc := "()I" } : Jvm.MethodName) ({ cls := "SquareCodes$TextReader", name := "length", desc := "()I" } : Jvm.MethodName)) ∈ WS := WS_tbl 753 (by decide +kernel) rfl
set_option maxRecDepth 1000000 in
theorem kw_754 : cd_q_TextReader_length ∈ WS := WS_tbl 754 rfl rfl
theorem kw_755 : (Jvm.Cond.methodLink "SquareCodes$Reading" (44 : Nat) ({ cls := "SquareCodes$TextReader", name := "copyTo", desc := "([C)V" } : Jvm.MethodName)) ∈ WS := WS_tbl 755 (by decide +kernel) rfl
theorem kw_756 : (Jvm.Cond.instanceMethod ({ cls := "SquareCodes$TextReader", name := "copyTo", desc := "([C)V" } : Jvm.MethodName)) ∈ WS := WS_tbl 756 (by decide +kernel) rfl
theorem kw_757 : (Jvm.Cond.selects "SquareCodes$TextReader" ({ cls := "SquareCodes$TextReader", name := "copyTo", desc := "([C)V" } : Jvm.MethodName) ({ cls := "SquareCodes$TextReader", name := "copyTo", desc := "([C)V" } : Jvm.MethodName)) ∈ WS := WS_tbl 757 (by decide +kernel) rfl
set_option maxRecDepth 1000000 in
theorem kw_758 : cd_q_TextReader_copyTo ∈ WS := WS_tbl 758 rfl rfl
theorem kw_681 : (Jvm.Cond.methodLink "SquareCodes$TextReader" (29 : Nat) ({ cls := "SquareCodes$Kind", name := "withCode", desc := "(I)LSquareCodes$Kind;" } : Jvm.MethodName)) ∈ WS := WS_tbl 681 (by decide +kernel) rfl
theorem kw_682 : (Jvm.Cond.static ({ cls := "SquareCodes$Kind", name := "withCode", desc := "(I)LSquareCodes$Kind;" } : Jvm.MethodName)) ∈ WS := WS_tbl 682 (by decide +kernel) rfl
set_option maxRecDepth 1000000 in
theorem kw_683 : cd_q_Kind_withCode ∈ WS := WS_tbl 683 rfl rfl
theorem kw_684 : (Jvm.Cond.methodLink "SquareCodes$TextReader" (35 : Nat) ({ cls := "SquareCodes$TextReader", name := "takePart", desc := "([ILSquareCodes$Kind;)Z" } : Jvm.MethodName)) ∈ WS := WS_tbl 684 (by decide +kernel) rfl
theorem kw_686 : (Jvm.Cond.instanceMethod ({ cls := "SquareCodes$TextReader", name := "takePart", desc := "([ILSquareCodes$Kind;)Z" } : Jvm.MethodName)) ∈ WS := WS_tbl 686 (by decide +kernel) rfl
theorem ks_18 : Cond.selects R_TextReader y_q_TextReader_takePart y_q_TextReader_takePart ∈ WS := WS_sel 18 (by decide +kernel) rfl
set_option maxRecDepth 1000000 in
theorem kw_687 : cd_q_TextReader_takePart ∈ WS := WS_tbl 687 rfl rfl
theorem kw_185 : (Jvm.Cond.fieldLink "SquareCodes" (59 : Nat) "SquareCodes" "typedCount" "I") ∈ WS := WS_tbl 185 (by decide +kernel) rfl
theorem kw_184 : (Jvm.Cond.fieldLink "SquareCodes" (9 : Nat) "SquareCodes" "typed" "[C") ∈ WS := WS_tbl 184 (by decide +kernel) rfl
theorem kw_220 : (Jvm.Cond.methodLink "SquareCodes" (94 : Nat) ({ cls := "SquareCodes", name := "isInside", desc := "(II)Z" } : Jvm.MethodName)) ∈ WS := WS_tbl 220 (by decide +kernel) rfl
theorem kw_221 : (Jvm.Cond.static ({ cls := "SquareCodes", name := "isInside", desc := "(II)Z" } : Jvm.MethodName)) ∈ WS := WS_tbl 221 (by decide +kernel) rfl
set_option maxRecDepth 1000000 in
theorem kw_222 : cd_q_isInside ∈ WS := WS_tbl 222 rfl rfl
theorem kw_226 : (Jvm.Cond.methodLink "SquareCodes" (98 : Nat) ({ cls := "SquareCodes$Grid", name := "at", desc := "(II)I" } : Jvm.MethodName)) ∈ WS := WS_tbl 226 (by decide +kernel) rfl
theorem kw_234 : (Jvm.Cond.methodLink "SquareCodes" (112 : Nat) ({ cls := "SquareCodes$Grid", name := "rowBits", desc := "(I)I" } : Jvm.MethodName)) ∈ WS := WS_tbl 234 (by decide +kernel) rfl
theorem kw_70 : (Jvm.Cond.instanceMethod ({ cls := "SquareCodes$Grid", name := "rowBits", desc := "(I)I" } : Jvm.MethodName)) ∈ WS := WS_tbl 70 (by decide +kernel) rfl
theorem kw_71 : (Jvm.Cond.selects "SquareCodes$Grid" ({ cls := "SquareCodes$Grid", name := "rowBits", desc := "(I)I" } : Jvm.MethodName) ({ cls := "SquareCodes$Grid", name := "rowBits", desc := "(I)I" } : Jvm.MethodName)) ∈ WS := WS_tbl 71 (by decide +kernel) rfl
set_option maxRecDepth 1000000 in
theorem kw_72 : cd_q_Grid_rowBits ∈ WS := WS_tbl 72 rfl rfl
theorem kw_191 : (Jvm.Cond.fieldLink "SquareCodes" (51 : Nat) "SquareCodes" "latest" "LSquareCodes$Reading;") ∈ WS := WS_tbl 191 (by decide +kernel) rfl
theorem kw_279 : (Jvm.Cond.methodLink "SquareCodes" (173 : Nat) ({ cls := "SquareCodes$Reading", name := "character", desc := "(I)I" } : Jvm.MethodName)) ∈ WS := WS_tbl 279 (by decide +kernel) rfl
theorem kw_280 : (Jvm.Cond.instanceMethod ({ cls := "SquareCodes$Reading", name := "character", desc := "(I)I" } : Jvm.MethodName)) ∈ WS := WS_tbl 280 (by decide +kernel) rfl
theorem kw_281 : (Jvm.Cond.selects "SquareCodes$Reading" ({ cls := "SquareCodes$Reading", name := "character", desc := "(I)I" } : Jvm.MethodName) ({ cls := "SquareCodes$Reading", name := "character", desc := "(I)I" } : Jvm.MethodName)) ∈ WS := WS_tbl 281 (by decide +kernel) rfl
theorem kw_8 : (Jvm.Cond.initialized "SquareCodes$Reading") ∈ WS := WS_tbl 8 (by decide +kernel) rfl
set_option maxRecDepth 1000000 in
theorem kw_282 : cd_q_Reading_character ∈ WS := WS_tbl 282 rfl rfl
theorem kw_287 : (Jvm.Cond.methodLink "SquareCodes" (176 : Nat) ({ cls := "SquareCodes$Reading", name := "fact", desc := "(I)I" } : Jvm.MethodName)) ∈ WS := WS_tbl 287 (by decide +kernel) rfl
theorem kw_288 : (Jvm.Cond.instanceMethod ({ cls := "SquareCodes$Reading", name := "fact", desc := "(I)I" } : Jvm.MethodName)) ∈ WS := WS_tbl 288 (by decide +kernel) rfl
theorem kw_289 : (Jvm.Cond.selects "SquareCodes$Reading" ({ cls := "SquareCodes$Reading", name := "fact", desc := "(I)I" } : Jvm.MethodName) ({ cls := "SquareCodes$Reading", name := "fact", desc := "(I)I" } : Jvm.MethodName)) ∈ WS := WS_tbl 289 (by decide +kernel) rfl
set_option maxRecDepth 1000000 in
theorem kw_290 : cd_q_Reading_fact ∈ WS := WS_tbl 290 rfl rfl
theorem kw_295 : (Jvm.Cond.methodLink "SquareCodes" (179 : Nat) ({ cls := "SquareCodes$Reading", name := "byteAt", desc := "(I)I" } : Jvm.MethodName)) ∈ WS := WS_tbl 295 (by decide +kernel) rfl
theorem kw_296 : (Jvm.Cond.instanceMethod ({ cls := "SquareCodes$Reading", name := "byteAt", desc := "(I)I" } : Jvm.MethodName)) ∈ WS := WS_tbl 296 (by decide +kernel) rfl
theorem kw_297 : (Jvm.Cond.selects "SquareCodes$Reading" ({ cls := "SquareCodes$Reading", name := "byteAt", desc := "(I)I" } : Jvm.MethodName) ({ cls := "SquareCodes$Reading", name := "byteAt", desc := "(I)I" } : Jvm.MethodName)) ∈ WS := WS_tbl 297 (by decide +kernel) rfl
set_option maxRecDepth 1000000 in
theorem kw_298 : cd_q_Reading_byteAt ∈ WS := WS_tbl 298 rfl rfl
section
theorem d_q_TextReader_copyTo_0 : decode b_q_TextReader_copyTo 0 = .ok (.aload_n 0, 1) := by decide +kernel
theorem d_q_TextReader_copyTo_1 : decode b_q_TextReader_copyTo 1 = .ok (.getfield 9, 3) := by decide +kernel
theorem d_q_TextReader_copyTo_4 : decode b_q_TextReader_copyTo 4 = .ok (.iconst 0, 1) := by decide +kernel
theorem d_q_TextReader_copyTo_5 : decode b_q_TextReader_copyTo 5 = .ok (.aload_n 1, 1) := by decide +kernel
theorem d_q_TextReader_copyTo_6 : decode b_q_TextReader_copyTo 6 = .ok (.iconst 0, 1) := by decide +kernel
theorem d_q_TextReader_copyTo_7 : decode b_q_TextReader_copyTo 7 = .ok (.bipush 64, 2) := by decide +kernel
theorem d_q_TextReader_copyTo_9 : decode b_q_TextReader_copyTo 9 = .ok (.invokestatic 72, 3) := by decide +kernel
theorem d_q_TextReader_copyTo_12 : decode b_q_TextReader_copyTo 12 = .ok (.return_, 1) := by decide +kernel
end
section
variable {p : Program} {l : Launch} {e : Env} {R : Room} {s : State} {m : MethodId} {args : Array Value} {below : List Frame} {meth : Method} {c : Code} {cells slots : Nat} {Q : State → Prop} {A : Nat → Prop} {H0 : Heap} {D : va_G}
set_option maxHeartbeats 1000000 in
set_option maxRecDepth 100000 in
theorem bd_q_TextReader_copyTo (cI cC : ClassId) (td tq ct nx en : Nat) (ra9 : Nat) (ch rh : Nat → Nat) (hch : ∀ j, j < 64 → ch j < 65536) (S : CallFix p m c b_q_TextReader_copyTo 2 s args (cd_q_TextReader_copyTo :: WS) R_TextReader) (hRf : 1 ≤ R.frames) (hRl : 60 ≤ R.locals) (hRc : cells ≤ R.cells ∧ slots ≤ R.slots) (hK : va_K D classes [(cI, .int), (cC, .char)] s) (hA : ∀ q, H0.size ≤ q → A q) (kr : ∀ (pc : Nat) (ls : Array Slot) (H : Heap) (locs : List Loc), decode b_q_TextReader_copyTo pc = .ok (.return_, 1) → va_P D classes [(td, .inr (5, [.ref tq, .int (nI ct), .int (nI nx), .int (nI en)])), (tq, .inl (cC, 64, .inl (fun j => nI (ch j)))), (ra9, .inl (cC, 64, .inl (fun j => nI ((va_cpy ch rh 0 0 64) j))))] H → va_D A [(td, .inr (5, [.ref tq, .int (nI ct), .int (nI nx), .int (nI en)])), (tq, .inl (cC, 64, .inl (fun j => nI (ch j)))), (ra9, .inl (cC, 64, .inl (fun j => nI ((va_cpy ch rh 0 0 64) j))))] → va_S A H0 H locs → W p l e R s m args below meth c H locs cells slots Q (F0 m pc ls [])) : ∀ (ls : Array Slot) (H : Heap) (locs : List Loc), lv_has ls 2 [(0, .ref td), (1, .ref ra9)] → va_P D classes [(td, .inr (5, [.ref tq, .int (nI ct), .int (nI nx), .int (nI en)])), (tq, .inl (cC, 64, .inl (fun j => nI (ch j)))), (ra9, .inl (cC, 64, .inl (fun j => nI (rh j))))] H → va_D A [(td, .inr (5, [.ref tq, .int (nI ct), .int (nI nx), .int (nI en)])), (tq, .inl (cC, 64, .inl (fun j => nI (ch j)))), (ra9, .inl (cC, 64, .inl (fun j => nI (rh j))))] → va_S A H0 H locs → W p l e R s m args below meth c H locs cells slots Q (F0 m 0 ls []) := by
  obtain ⟨hx, hb, hml, hown, hts⟩ := id S
  intro ls H locs hl hP hD hS
  refine lv_aload_n hx hb d_q_TextReader_copyTo_0 rfl (lv_at hl 0 rfl) ?_
  refine n_get (C := R_TextReader) (T := F_TextReader) (N := 4) (v := .ref tq) hx hb hts u_TextReader_in hown hK hP 0 rfl rfl 0 (by decide) kw_149 rfl d_q_TextReader_copyTo_1 ?_
  refine lv_iconst (v := nI 0) hx hb d_q_TextReader_copyTo_4 (by decide) ?_
  refine lv_aload_n hx hb d_q_TextReader_copyTo_5 rfl (lv_at hl 1 rfl) ?_
  refine lv_iconst (v := nI 0) hx hb d_q_TextReader_copyTo_6 (by decide) ?_
  refine lv_bipush (v := nI 64) hx hb d_q_TextReader_copyTo_7 (by decide) ?_
  refine n_copyc S hl.1 kw_759 kw_546 kw_545 kw_24 hK hP hD hS 1 2 1 rfl rfl rfl rfl (by decide) (by decide) (by decide) (by decide) hch (Nat.le_trans (Nat.le_of_ble_eq_true rfl) hRf) (Nat.le_trans (Nat.le_of_ble_eq_true rfl) hRl) d_q_TextReader_copyTo_9 (fun H locs hP hD hS => ?_)
  have hP : va_P D classes [(td, .inr (5, [.ref tq, .int (nI ct), .int (nI nx), .int (nI en)])), (tq, .inl (cC, 64, .inl (fun j => nI (ch j)))), (ra9, .inl (cC, 64, .inl (fun j => nI ((va_cpy ch rh 0 0 64) j))))] H := hP
  have hD : va_D A [(td, .inr (5, [.ref tq, .int (nI ct), .int (nI nx), .int (nI en)])), (tq, .inl (cC, 64, .inl (fun j => nI (ch j)))), (ra9, .inl (cC, 64, .inl (fun j => nI ((va_cpy ch rh 0 0 64) j))))] := hD
  exact kr _ ls H locs d_q_TextReader_copyTo_12 hP hD hS
set_option maxHeartbeats 1000000 in
set_option maxRecDepth 100000 in
theorem c_q_TextReader_copyTo (l : Launch) (D : va_G) (cI cC : ClassId) (td tq ct nx en : Nat) (ra9 : Nat) (ch rh : Nat → Nat) (hch : ∀ j, j < 64 → ch j < 65536) (sz : Nat) : Met l y_q_TextReader_copyTo (cd_q_TextReader_copyTo :: WS) { frames := 1, cells := 0, slots := 0, locals := 60 } (va_Pc [.ref td, .ref ra9] (wP D [(td, .inr (5, [.ref tq, .int (nI ct), .int (nI nx), .int (nI en)])), (tq, .inl (cC, 64, .inl (fun j => nI (ch j)))), (ra9, .inl (cC, 64, .inl (fun j => nI (rh j))))] [(cI, .int), (cC, .char)] sz)) (wQv D [(td, .inr (5, [.ref tq, .int (nI ct), .int (nI nx), .int (nI en)])), (tq, .inl (cC, 64, .inl (fun j => nI (ch j)))), (ra9, .inl (cC, 64, .inl (fun j => nI (rh j))))] [(td, .inr (5, [.ref tq, .int (nI ct), .int (nI nx), .int (nI en)])), (tq, .inl (cC, 64, .inl (fun j => nI (ch j)))), (ra9, .inl (cC, 64, .inl (fun j => nI ((va_cpy ch rh 0 0 64) j))))] sz) 0 0 (va_A [(td, .inr (5, [.ref tq, .int (nI ct), .int (nI nx), .int (nI en)])), (tq, .inl (cC, 64, .inl (fun j => nI (ch j)))), (ra9, .inl (cC, 64, .inl (fun j => nI (rh j))))] sz) := by
  refine Met.ofW (cc := b_q_TextReader_copyTo) (maxL := 2) (ret := none) (by decide) rfl ?_
  intro p e s m args below meth c s₁ B hml hv0
  obtain ⟨rfl, hP, hK, hD0, hsz⟩ := hv0
  have hts := atoms_spec (ws := cd_q_TextReader_copyTo :: WS) B.pre
  have hown : s.vm.findClass R_TextReader = some m.cls := findClass_of_methodNamed B.named
  have hlocks := B.notSynchronized
  subst hsz
  have hD := hD0.self (sz := s.heap.size)
  have hl := lv_entry ([.ref td, .ref ra9]) (n := 2) (Nat.le_of_ble_eq_true rfl)
  rw [lg_entry_eq]
  generalize (lg_sl ([.ref td, .ref ra9]) ++ List.replicate (2 - (lg_sl ([.ref td, .ref ra9])).length) Slot.unset).toArray = ls at hl ⊢
  refine bd_q_TextReader_copyTo cI cC td tq ct nx en ra9 ch rh hch ⟨B.exec, B.bytes, hml, hown, hts⟩ (Nat.le_refl _) (Nat.le_refl _) ⟨Nat.le_refl _, Nat.le_refl _⟩ hK (fun q h => Or.inr h) (fun pc ls H locs hd hP hD hS => ?_) ls _ _ hl hP hD (va_S.rf)
  exact W.vret B.exec B.bytes B.returns (fun t ht _ => ⟨⟨(), rfl, trivial, (by have h9 := hP; rw [← ht] at h9; exact h9)⟩, hS.F ht⟩) hS.2.2 hd
end
section
theorem d_q_Reading_keepText_0 : decode b_q_Reading_keepText 0 = .ok (.aload_n 0, 1) := by decide +kernel
theorem d_q_Reading_keepText_1 : decode b_q_Reading_keepText 1 = .ok (.aload_n 1, 1) := by decide +kernel
theorem d_q_Reading_keepText_2 : decode b_q_Reading_keepText 2 = .ok (.invokevirtual 34, 3) := by decide +kernel
theorem d_q_Reading_keepText_5 : decode b_q_Reading_keepText 5 = .ok (.putfield 40, 3) := by decide +kernel
theorem d_q_Reading_keepText_8 : decode b_q_Reading_keepText 8 = .ok (.aload_n 1, 1) := by decide +kernel
theorem d_q_Reading_keepText_9 : decode b_q_Reading_keepText 9 = .ok (.aload_n 0, 1) := by decide +kernel
theorem d_q_Reading_keepText_10 : decode b_q_Reading_keepText 10 = .ok (.getfield 18, 3) := by decide +kernel
theorem d_q_Reading_keepText_13 : decode b_q_Reading_keepText 13 = .ok (.invokevirtual 44, 3) := by decide +kernel
theorem d_q_Reading_keepText_16 : decode b_q_Reading_keepText 16 = .ok (.return_, 1) := by decide +kernel
end
section
variable {p : Program} {l : Launch} {e : Env} {R : Room} {s : State} {m : MethodId} {args : Array Value} {below : List Frame} {meth : Method} {c : Code} {cells slots : Nat} {Q : State → Prop} {A : Nat → Prop} {H0 : Heap} {D : va_G}
set_option maxHeartbeats 1000000 in
set_option maxRecDepth 100000 in
theorem bd_q_Reading_keepText (cI cC : ClassId) (rg r1 r2 r3 rc : Nat) (td tq ct nx en : Nat) (rh ch : Nat → Nat) (hch : ∀ j, j < 64 → ch j < 65536) (S : CallFix p m c b_q_Reading_keepText 2 s args (cd_q_Reading_keepText :: WS) R_Reading) (hRf : 2 ≤ R.frames) (hRl : 81 ≤ R.locals) (hRc : cells ≤ R.cells ∧ slots ≤ R.slots) (hK : va_K D classes [(cI, .int), (cC, .char)] s) (hA : ∀ q, H0.size ≤ q → A q) (kr : ∀ (pc : Nat) (ls : Array Slot) (H : Heap) (locs : List Loc), decode b_q_Reading_keepText pc = .ok (.return_, 1) → va_P D classes [(rg, .inr (4, [.ref r1, .ref r2, .ref r3, .int (nI ct)])), (r3, .inl (cC, 64, .inl (fun j => nI ((va_cpy ch rh 0 0 64) j)))), (td, .inr (5, [.ref tq, .int (nI ct), .int (nI nx), .int (nI en)])), (tq, .inl (cC, 64, .inl (fun j => nI (ch j))))] H → va_D A [(rg, .inr (4, [.ref r1, .ref r2, .ref r3, .int (nI ct)])), (r3, .inl (cC, 64, .inl (fun j => nI ((va_cpy ch rh 0 0 64) j)))), (td, .inr (5, [.ref tq, .int (nI ct), .int (nI nx), .int (nI en)])), (tq, .inl (cC, 64, .inl (fun j => nI (ch j))))] → va_S A H0 H locs → W p l e R s m args below meth c H locs cells slots Q (F0 m pc ls [])) : ∀ (ls : Array Slot) (H : Heap) (locs : List Loc), lv_has ls 2 [(0, .ref rg), (1, .ref td)] → va_P D classes [(rg, .inr (4, [.ref r1, .ref r2, .ref r3, .int (nI rc)])), (r3, .inl (cC, 64, .inl (fun j => nI (rh j)))), (td, .inr (5, [.ref tq, .int (nI ct), .int (nI nx), .int (nI en)])), (tq, .inl (cC, 64, .inl (fun j => nI (ch j))))] H → va_D A [(rg, .inr (4, [.ref r1, .ref r2, .ref r3, .int (nI rc)])), (r3, .inl (cC, 64, .inl (fun j => nI (rh j)))), (td, .inr (5, [.ref tq, .int (nI ct), .int (nI nx), .int (nI en)])), (tq, .inl (cC, 64, .inl (fun j => nI (ch j))))] → va_S A H0 H locs → W p l e R s m args below meth c H locs cells slots Q (F0 m 0 ls []) := by
  obtain ⟨hx, hb, hml, hown, hts⟩ := id S
  intro ls H locs hl hP hD hS
  refine lv_aload_n hx hb d_q_Reading_keepText_0 rfl (lv_at hl 0 rfl) ?_
  refine lv_aload_n hx hb d_q_Reading_keepText_1 rfl (lv_at hl 1 rfl) ?_
  refine q_readV (n := 0) (As := []) (rest := [.ref rg]) (wc := [(td, .inr (5, [.ref tq, .int (nI ct), .int (nI nx), .int (nI en)]))]) S (c_q_TextReader_length l D cI cC td tq ct nx en) hK hP (q0 := 2) rfl rfl [2] rfl (q_goodV kw_751 kw_752 kw_753 kw_7 kw_754) (by decide +kernel) rfl rfl rfl ⟨Nat.le_trans (Nat.le_of_ble_eq_true rfl) hRf, Nat.le_trans (Nat.le_of_ble_eq_true rfl) hRl⟩ rfl hl.1 rfl (Nat.le_of_ble_eq_true rfl) d_q_Reading_keepText_2 hRc hS (fun H locs hP hS => ?_)
  refine n_put (C := R_Reading) (T := F_Reading) (N := 4) (v := .int (nI ct)) hx hb hts u_Reading_in t_Reading t_Reading_ok n_Reading hown hK hP hD hS 0 rfl rfl 3 (by decide) kw_174 rfl rfl rfl (Nat.le_of_ble_eq_true rfl) d_q_Reading_keepText_5 (fun H locs hP hD hS => ?_)
  have hP : va_P D classes [(rg, .inr (4, [.ref r1, .ref r2, .ref r3, .int (nI ct)])), (r3, .inl (cC, 64, .inl (fun j => nI (rh j)))), (td, .inr (5, [.ref tq, .int (nI ct), .int (nI nx), .int (nI en)])), (tq, .inl (cC, 64, .inl (fun j => nI (ch j))))] H := hP
  have hD : va_D A [(rg, .inr (4, [.ref r1, .ref r2, .ref r3, .int (nI ct)])), (r3, .inl (cC, 64, .inl (fun j => nI (rh j)))), (td, .inr (5, [.ref tq, .int (nI ct), .int (nI nx), .int (nI en)])), (tq, .inl (cC, 64, .inl (fun j => nI (ch j))))] := hD
  refine lv_aload_n hx hb d_q_Reading_keepText_8 rfl (lv_at hl 1 rfl) ?_
  refine lv_aload_n hx hb d_q_Reading_keepText_9 rfl (lv_at hl 0 rfl) ?_
  refine n_get (C := R_Reading) (T := F_Reading) (N := 4) (v := .ref r3) hx hb hts u_Reading_in hown hK hP 0 rfl rfl 2 (by decide) kw_173 rfl d_q_Reading_keepText_10 ?_
  refine q_writeVv (n := 1) (As := [.ref r3]) (rest := []) (wc := [(td, .inr (5, [.ref tq, .int (nI ct), .int (nI nx), .int (nI en)])), (tq, .inl (cC, 64, .inl (fun j => nI (ch j)))), (r3, .inl (cC, 64, .inl (fun j => nI (rh j))))]) (wr := [(rg, .inr (4, [.ref r1, .ref r2, .ref r3, .int (nI ct)]))]) (w1 := [(td, .inr (5, [.ref tq, .int (nI ct), .int (nI nx), .int (nI en)])), (tq, .inl (cC, 64, .inl (fun j => nI (ch j)))), (r3, .inl (cC, 64, .inl (fun j => nI ((va_cpy ch rh 0 0 64) j))))]) S (c_q_TextReader_copyTo l D cI cC td tq ct nx en r3 ch rh hch H.size) hK hP hD hA (q0 := 2) rfl rfl [2, 3, 1] [0] rfl rfl rfl rfl (by decide) rfl (q_goodV kw_755 kw_756 kw_757 kw_7 kw_758) (by decide +kernel) rfl rfl rfl ⟨Nat.le_trans (Nat.le_of_ble_eq_true rfl) hRf, Nat.le_trans (Nat.le_of_ble_eq_true rfl) hRl⟩ rfl hl.1 rfl (Nat.le_of_ble_eq_true rfl) d_q_Reading_keepText_13 hRc hS (fun H locs hP hD hS => ?_)
  replace hP : va_P D classes [(rg, .inr (4, [.ref r1, .ref r2, .ref r3, .int (nI ct)])), (r3, .inl (cC, 64, .inl (fun j => nI ((va_cpy ch rh 0 0 64) j)))), (td, .inr (5, [.ref tq, .int (nI ct), .int (nI nx), .int (nI en)])), (tq, .inl (cC, 64, .inl (fun j => nI (ch j))))] H := hP.sub [0, 3, 1, 2] rfl
  replace hD : va_D A [(rg, .inr (4, [.ref r1, .ref r2, .ref r3, .int (nI ct)])), (r3, .inl (cC, 64, .inl (fun j => nI ((va_cpy ch rh 0 0 64) j)))), (td, .inr (5, [.ref tq, .int (nI ct), .int (nI nx), .int (nI en)])), (tq, .inl (cC, 64, .inl (fun j => nI (ch j))))] := hD.sub [0, 3, 1, 2] rfl rfl
  exact kr _ ls H locs d_q_Reading_keepText_16 hP hD hS
set_option maxHeartbeats 1000000 in
set_option maxRecDepth 100000 in
theorem c_q_Reading_keepText (l : Launch) (D : va_G) (cI cC : ClassId) (rg r1 r2 r3 rc : Nat) (td tq ct nx en : Nat) (rh ch : Nat → Nat) (hch : ∀ j, j < 64 → ch j < 65536) (sz : Nat) : Met l y_q_Reading_keepText (cd_q_Reading_keepText :: WS) { frames := 2, cells := 0, slots := 0, locals := 81 } (va_Pc [.ref rg, .ref td] (wP D [(rg, .inr (4, [.ref r1, .ref r2, .ref r3, .int (nI rc)])), (r3, .inl (cC, 64, .inl (fun j => nI (rh j)))), (td, .inr (5, [.ref tq, .int (nI ct), .int (nI nx), .int (nI en)])), (tq, .inl (cC, 64, .inl (fun j => nI (ch j))))] [(cI, .int), (cC, .char)] sz)) (wQv D [(rg, .inr (4, [.ref r1, .ref r2, .ref r3, .int (nI rc)])), (r3, .inl (cC, 64, .inl (fun j => nI (rh j)))), (td, .inr (5, [.ref tq, .int (nI ct), .int (nI nx), .int (nI en)])), (tq, .inl (cC, 64, .inl (fun j => nI (ch j))))] [(rg, .inr (4, [.ref r1, .ref r2, .ref r3, .int (nI ct)])), (r3, .inl (cC, 64, .inl (fun j => nI ((va_cpy ch rh 0 0 64) j)))), (td, .inr (5, [.ref tq, .int (nI ct), .int (nI nx), .int (nI en)])), (tq, .inl (cC, 64, .inl (fun j => nI (ch j))))] sz) 0 0 (va_A [(rg, .inr (4, [.ref r1, .ref r2, .ref r3, .int (nI rc)])), (r3, .inl (cC, 64, .inl (fun j => nI (rh j)))), (td, .inr (5, [.ref tq, .int (nI ct), .int (nI nx), .int (nI en)])), (tq, .inl (cC, 64, .inl (fun j => nI (ch j))))] sz) := by
  refine Met.ofW (cc := b_q_Reading_keepText) (maxL := 2) (ret := none) (by decide) rfl ?_
  intro p e s m args below meth c s₁ B hml hv0
  obtain ⟨rfl, hP, hK, hD0, hsz⟩ := hv0
  have hts := atoms_spec (ws := cd_q_Reading_keepText :: WS) B.pre
  have hown : s.vm.findClass R_Reading = some m.cls := findClass_of_methodNamed B.named
  have hlocks := B.notSynchronized
  subst hsz
  have hD := hD0.self (sz := s.heap.size)
  have hl := lv_entry ([.ref rg, .ref td]) (n := 2) (Nat.le_of_ble_eq_true rfl)
  rw [lg_entry_eq]
  generalize (lg_sl ([.ref rg, .ref td]) ++ List.replicate (2 - (lg_sl ([.ref rg, .ref td])).length) Slot.unset).toArray = ls at hl ⊢
  refine bd_q_Reading_keepText cI cC rg r1 r2 r3 rc td tq ct nx en rh ch hch ⟨B.exec, B.bytes, hml, hown, hts⟩ (Nat.le_refl _) (Nat.le_refl _) ⟨Nat.le_refl _, Nat.le_refl _⟩ hK (fun q h => Or.inr h) (fun pc ls H locs hd hP hD hS => ?_) ls _ _ hl hP hD (va_S.rf)
  exact W.vret B.exec B.bytes B.returns (fun t ht _ => ⟨⟨(), rfl, trivial, (by have h9 := hP; rw [← ht] at h9; exact h9)⟩, hS.F ht⟩) hS.2.2 hd
end
section
theorem d_q_TextReader_decode_0 : decode b_q_TextReader_decode 0 = .ok (.aload_n 0, 1) := by decide +kernel
theorem d_q_TextReader_decode_1 : decode b_q_TextReader_decode 1 = .ok (.iconst 0, 1) := by decide +kernel
theorem d_q_TextReader_decode_2 : decode b_q_TextReader_decode 2 = .ok (.putfield 15, 3) := by decide +kernel
theorem d_q_TextReader_decode_5 : decode b_q_TextReader_decode 5 = .ok (.aload_n 0, 1) := by decide +kernel
theorem d_q_TextReader_decode_6 : decode b_q_TextReader_decode 6 = .ok (.iconst 0, 1) := by decide +kernel
theorem d_q_TextReader_decode_7 : decode b_q_TextReader_decode 7 = .ok (.putfield 19, 3) := by decide +kernel
theorem d_q_TextReader_decode_10 : decode b_q_TextReader_decode 10 = .ok (.aload_n 0, 1) := by decide +kernel
theorem d_q_TextReader_decode_11 : decode b_q_TextReader_decode 11 = .ok (.bipush 8, 2) := by decide +kernel
theorem d_q_TextReader_decode_13 : decode b_q_TextReader_decode 13 = .ok (.iload_n 2, 1) := by decide +kernel
theorem d_q_TextReader_decode_14 : decode b_q_TextReader_decode 14 = .ok (.imul, 1) := by decide +kernel
theorem d_q_TextReader_decode_15 : decode b_q_TextReader_decode 15 = .ok (.putfield 22, 3) := by decide +kernel
theorem d_q_TextReader_decode_18 : decode b_q_TextReader_decode 18 = .ok (.iconst 0, 1) := by decide +kernel
theorem d_q_TextReader_decode_19 : decode b_q_TextReader_decode 19 = .ok (.istore_n 3, 1) := by decide +kernel
theorem d_q_TextReader_decode_20 : decode b_q_TextReader_decode 20 = .ok (.iload_n 3, 1) := by decide +kernel
theorem d_q_TextReader_decode_21 : decode b_q_TextReader_decode 21 = .ok (.aload_n 0, 1) := by decide +kernel
theorem d_q_TextReader_decode_22 : decode b_q_TextReader_decode 22 = .ok (.getfield 22, 3) := by decide +kernel
theorem d_q_TextReader_decode_25 : decode b_q_TextReader_decode 25 = .ok (.if_icmp .ge 61, 3) := by decide +kernel
theorem d_q_TextReader_decode_28 : decode b_q_TextReader_decode 28 = .ok (.aload_n 0, 1) := by decide +kernel
theorem d_q_TextReader_decode_29 : decode b_q_TextReader_decode 29 = .ok (.getfield 22, 3) := by decide +kernel
theorem d_q_TextReader_decode_32 : decode b_q_TextReader_decode 32 = .ok (.aload_n 0, 1) := by decide +kernel
theorem d_q_TextReader_decode_33 : decode b_q_TextReader_decode 33 = .ok (.getfield 19, 3) := by decide +kernel
theorem d_q_TextReader_decode_36 : decode b_q_TextReader_decode 36 = .ok (.isub, 1) := by decide +kernel
theorem d_q_TextReader_decode_37 : decode b_q_TextReader_decode 37 = .ok (.iconst 4, 1) := by decide +kernel
theorem d_q_TextReader_decode_38 : decode b_q_TextReader_decode 38 = .ok (.if_icmp .lt 48, 3) := by decide +kernel
theorem d_q_TextReader_decode_41 : decode b_q_TextReader_decode 41 = .ok (.aload_n 0, 1) := by decide +kernel
theorem d_q_TextReader_decode_42 : decode b_q_TextReader_decode 42 = .ok (.aload_n 1, 1) := by decide +kernel
theorem d_q_TextReader_decode_43 : decode b_q_TextReader_decode 43 = .ok (.iconst 4, 1) := by decide +kernel
theorem d_q_TextReader_decode_44 : decode b_q_TextReader_decode 44 = .ok (.invokevirtual 25, 3) := by decide +kernel
theorem d_q_TextReader_decode_47 : decode b_q_TextReader_decode 47 = .ok (.istore 4, 2) := by decide +kernel
theorem d_q_TextReader_decode_49 : decode b_q_TextReader_decode 49 = .ok (.iload 4, 2) := by decide +kernel
theorem d_q_TextReader_decode_51 : decode b_q_TextReader_decode 51 = .ok (.ifCond .ne 5, 3) := by decide +kernel
theorem d_q_TextReader_decode_54 : decode b_q_TextReader_decode 54 = .ok (.iconst 1, 1) := by decide +kernel
theorem d_q_TextReader_decode_55 : decode b_q_TextReader_decode 55 = .ok (.ireturn, 1) := by decide +kernel
theorem d_q_TextReader_decode_56 : decode b_q_TextReader_decode 56 = .ok (.iload 4, 2) := by decide +kernel
theorem d_q_TextReader_decode_58 : decode b_q_TextReader_decode 58 = .ok (.invokestatic 29, 3) := by decide +kernel
theorem d_q_TextReader_decode_61 : decode b_q_TextReader_decode 61 = .ok (.astore 5, 2) := by decide +kernel
theorem d_q_TextReader_decode_63 : decode b_q_TextReader_decode 63 = .ok (.aload 5, 2) := by decide +kernel
theorem d_q_TextReader_decode_65 : decode b_q_TextReader_decode 65 = .ok (.ifnull 13, 3) := by decide +kernel
theorem d_q_TextReader_decode_68 : decode b_q_TextReader_decode 68 = .ok (.aload_n 0, 1) := by decide +kernel
theorem d_q_TextReader_decode_69 : decode b_q_TextReader_decode 69 = .ok (.aload_n 1, 1) := by decide +kernel
theorem d_q_TextReader_decode_70 : decode b_q_TextReader_decode 70 = .ok (.aload 5, 2) := by decide +kernel
theorem d_q_TextReader_decode_72 : decode b_q_TextReader_decode 72 = .ok (.invokevirtual 35, 3) := by decide +kernel
theorem d_q_TextReader_decode_75 : decode b_q_TextReader_decode 75 = .ok (.ifCond .ne 5, 3) := by decide +kernel
theorem d_q_TextReader_decode_78 : decode b_q_TextReader_decode 78 = .ok (.iconst 0, 1) := by decide +kernel
theorem d_q_TextReader_decode_79 : decode b_q_TextReader_decode 79 = .ok (.ireturn, 1) := by decide +kernel
theorem d_q_TextReader_decode_80 : decode b_q_TextReader_decode 80 = .ok (.iinc 3 1, 3) := by decide +kernel
theorem d_q_TextReader_decode_83 : decode b_q_TextReader_decode 83 = .ok (.goto (-63), 3) := by decide +kernel
theorem d_q_TextReader_decode_86 : decode b_q_TextReader_decode 86 = .ok (.iconst 1, 1) := by decide +kernel
theorem d_q_TextReader_decode_87 : decode b_q_TextReader_decode 87 = .ok (.ireturn, 1) := by decide +kernel
end
section
variable {p : Program} {l : Launch} {e : Env} {R : Room} {s : State} {m : MethodId} {args : Array Value} {below : List Frame} {meth : Method} {c : Code} {cells slots : Nat} {Q : State → Prop} {A : Nat → Prop} {H0 : Heap} {D : va_G}
set_option maxHeartbeats 1000000 in
set_option maxRecDepth 100000 in
theorem lw_q_TextReader_decode_20 (cI cC : ClassId) (sa : Nat → Nat) (td tq ct nx en ba dt : Nat) (ch bt : Nat → Nat) (fi : Nat × Nat × Nat × (Nat → Nat)) (hdt : dt ≤ 19) (hbt : lt256 26 bt) (hfi : dcW bt dt (8 * dt) 0 0 ch = fi) (S : CallFix p m c b_q_TextReader_decode 6 s args (cd_q_TextReader_decode :: WS) R_TextReader) (hRf : 7 ≤ R.frames) (hRl : 157 ≤ R.locals) (hRc : cells ≤ R.cells ∧ slots ≤ R.slots) (hK : va_K D classes [(cI, .int), (cC, .char)] s) (hA : ∀ q, s.heap.size ≤ q → A q) (hSt : SB sa A s s.heap) (kr : ∀ (pc : Nat) (ls : Array Slot) (H : Heap) (locs : List Loc), decode b_q_TextReader_decode pc = .ok (.ireturn, 1) → va_P D classes [(td, .inr (5, [.ref tq, .int (nI fi.2.2.1), .int (nI fi.2.1), .int (nI (8 * dt))])), (tq, .inl (cC, 64, .inl (fun j => nI (fi.2.2.2 j)))), (ba, .inl (cI, 26, .inl (fun j => nI (bt j))))] H → va_D A [(td, .inr (5, [.ref tq, .int (nI fi.2.2.1), .int (nI fi.2.1), .int (nI (8 * dt))])), (tq, .inl (cC, 64, .inl (fun j => nI (fi.2.2.2 j)))), (ba, .inl (cI, 26, .inl (fun j => nI (bt j))))] → va_S A s.heap H locs → W p l e R s m args below meth c H locs cells slots Q (F0 m pc ls [.int (nI fi.1)])) :
    ∀ (n : Nat) (pt : Nat) (pl : Nat) (fd : Nat) (rd : Nat → Nat), (8 * dt - pl ≤ n) → (10 * fd ≤ 3 * pl) → (pl ≤ 8 * dt) → (4 * pt ≤ pl) → (dcW bt dt n pl fd rd = fi) → ∀ (ls : Array Slot) (H : Heap) (locs : List Loc), lv_has ls 6 [(0, .ref td), (1, .ref ba), (2, .int (nI dt)), (3, .int (nI pt))] → va_P D classes [(td, .inr (5, [.ref tq, .int (nI fd), .int (nI pl), .int (nI (8 * dt))])), (tq, .inl (cC, 64, .inl (fun j => nI (rd j)))), (ba, .inl (cI, 26, .inl (fun j => nI (bt j))))] H → va_D A [(td, .inr (5, [.ref tq, .int (nI fd), .int (nI pl), .int (nI (8 * dt))])), (tq, .inl (cC, 64, .inl (fun j => nI (rd j)))), (ba, .inl (cI, 26, .inl (fun j => nI (bt j))))] → va_S A s.heap H locs → W p l e R s m args below meth c H locs cells slots Q (F0 m 20 ls []) := by
  obtain ⟨hx, hb, hml, hown, hts⟩ := id S
  refine fuel_ind (fun n ih => ?_)
  intro pt pl fd rd hln hi1 hi2 hi3 hcur ls H locs hl hP hD hS
  rcases Nat.lt_or_ge (8 * dt - pl) 4 with hr4 | hr4
  · skip
    have hq := hcur.symm.trans (dcW_e hr4)
    refine lv_iload_n hx hb d_q_TextReader_decode_20 rfl (lv_at hl 3 rfl) ?_
    refine lv_aload_n hx hb d_q_TextReader_decode_21 rfl (lv_at hl 0 rfl) ?_
    refine n_get (C := R_TextReader) (T := F_TextReader) (N := 4) (v := .int (nI (8 * dt))) hx hb hts u_TextReader_in hown hK hP 0 rfl rfl 3 (by decide) kw_152 rfl d_q_TextReader_decode_22 ?_
    refine n_icmp_ge hx hb d_q_TextReader_decode_25 (tgt := 86) rfl (by omega) (by omega) (fun g25 => ?_) (fun g25 => ?_)
    · skip
      refine lv_iconst (v := nI 1) hx hb d_q_TextReader_decode_86 (by decide) ?_
      rw [hq] at kr
      exact kr _ ls H locs d_q_TextReader_decode_87 hP hD hS
    · skip
      refine lv_aload_n hx hb d_q_TextReader_decode_28 rfl (lv_at hl 0 rfl) ?_
      refine n_get (C := R_TextReader) (T := F_TextReader) (N := 4) (v := .int (nI (8 * dt))) hx hb hts u_TextReader_in hown hK hP 0 rfl rfl 3 (by decide) kw_152 rfl d_q_TextReader_decode_29 ?_
      refine lv_aload_n hx hb d_q_TextReader_decode_32 rfl (lv_at hl 0 rfl) ?_
      refine n_get (C := R_TextReader) (T := F_TextReader) (N := 4) (v := .int (nI pl)) hx hb hts u_TextReader_in hown hK hP 0 rfl rfl 2 (by decide) kw_151 rfl d_q_TextReader_decode_33 ?_
      refine n_isub hx hb d_q_TextReader_decode_36 (by omega) ?_
      refine lv_iconst (v := nI 4) hx hb d_q_TextReader_decode_37 (by decide) ?_
      refine n_icmp_lt hx hb d_q_TextReader_decode_38 (tgt := 86) rfl (by omega) (by omega) (fun g38 => ?_) (fun g38 => absurd g38 (by omega))
      refine lv_iconst (v := nI 1) hx hb d_q_TextReader_decode_86 (by decide) ?_
      rw [hq] at kr
      exact kr _ ls H locs d_q_TextReader_decode_87 hP hD hS
  · skip
    refine lv_iload_n hx hb d_q_TextReader_decode_20 rfl (lv_at hl 3 rfl) ?_
    refine lv_aload_n hx hb d_q_TextReader_decode_21 rfl (lv_at hl 0 rfl) ?_
    refine n_get (C := R_TextReader) (T := F_TextReader) (N := 4) (v := .int (nI (8 * dt))) hx hb hts u_TextReader_in hown hK hP 0 rfl rfl 3 (by decide) kw_152 rfl d_q_TextReader_decode_22 ?_
    refine n_icmp_ge hx hb d_q_TextReader_decode_25 (tgt := 86) rfl (by omega) (by omega) (fun g25 => absurd g25 (by omega)) (fun g25 => ?_)
    refine lv_aload_n hx hb d_q_TextReader_decode_28 rfl (lv_at hl 0 rfl) ?_
    refine n_get (C := R_TextReader) (T := F_TextReader) (N := 4) (v := .int (nI (8 * dt))) hx hb hts u_TextReader_in hown hK hP 0 rfl rfl 3 (by decide) kw_152 rfl d_q_TextReader_decode_29 ?_
    refine lv_aload_n hx hb d_q_TextReader_decode_32 rfl (lv_at hl 0 rfl) ?_
    refine n_get (C := R_TextReader) (T := F_TextReader) (N := 4) (v := .int (nI pl)) hx hb hts u_TextReader_in hown hK hP 0 rfl rfl 2 (by decide) kw_151 rfl d_q_TextReader_decode_33 ?_
    refine n_isub hx hb d_q_TextReader_decode_36 (by omega) ?_
    refine lv_iconst (v := nI 4) hx hb d_q_TextReader_decode_37 (by decide) ?_
    refine n_icmp_lt hx hb d_q_TextReader_decode_38 (tgt := 86) rfl (by omega) (by omega) (fun g38 => absurd g38 (by omega)) (fun g38 => ?_)
    refine lv_aload_n hx hb d_q_TextReader_decode_41 rfl (lv_at hl 0 rfl) ?_
    refine lv_aload_n hx hb d_q_TextReader_decode_42 rfl (lv_at hl 1 rfl) ?_
    refine lv_iconst (v := nI 4) hx hb d_q_TextReader_decode_43 (by decide) ?_
    refine q_writeVis (n := 2) (As := [.ref ba, .int (nI 4)]) (rest := []) (wc := [(td, .inr (5, [.ref tq, .int (nI fd), .int (nI pl), .int (nI (8 * dt))])), (ba, .inl (cI, 26, .inl (fun j => nI (bt j))))]) (wr := [(tq, .inl (cC, 64, .inl (fun j => nI (rd j))))]) (w1 := [(td, .inr (5, [.ref tq, .int (nI fd), .int (nI (pl + 4)), .int (nI (8 * dt))])), (ba, .inl (cI, 26, .inl (fun j => nI (bt j))))]) S (c_q_TextReader_take_ok l D cI cC sa td tq fd pl (8 * dt) ba 4 bt (by omega) (by decide) (by omega) hbt H.size) hSt hK hP hD hA (q0 := 0) rfl rfl [0, 2] [1] rfl rfl rfl rfl (by decide) rfl (q_goodV kw_676 kw_678 ks_17 kw_7 kw_679) (by decide +kernel) rfl rfl rfl ⟨Nat.le_trans (Nat.le_of_ble_eq_true rfl) hRf, Nat.le_trans (Nat.le_of_ble_eq_true rfl) hRl⟩ rfl hl.1 rfl (Nat.le_of_ble_eq_true rfl) d_q_TextReader_decode_44 hRc hS (fun H locs hP hD hS => ?_)
    replace hP : va_P D classes [(td, .inr (5, [.ref tq, .int (nI fd), .int (nI (pl + 4)), .int (nI (8 * dt))])), (tq, .inl (cC, 64, .inl (fun j => nI (rd j)))), (ba, .inl (cI, 26, .inl (fun j => nI (bt j))))] H := hP.sub [1, 0, 2] rfl
    replace hD : va_D A [(td, .inr (5, [.ref tq, .int (nI fd), .int (nI (pl + 4)), .int (nI (8 * dt))])), (tq, .inl (cC, 64, .inl (fun j => nI (rd j)))), (ba, .inl (cI, 26, .inl (fun j => nI (bt j))))] := hD.sub [1, 0, 2] rfl rfl
    refine lv_istore hx hb d_q_TextReader_decode_47 hl (Nat.le_of_ble_eq_true rfl) rfl (fun ls hl => ?_)
    have hl : lv_has ls 6 [(4, .int (nI (nxL bt pl 4))), (0, .ref td), (1, .ref ba), (2, .int (nI dt)), (3, .int (nI pt))] := hl
    have hn4 := nxL_lt hbt pl 4
    rcases (show nxL bt pl 4 = 0 ∨ nxL bt pl 4 = 1 ∨ nxL bt pl 4 = 2 ∨ nxL bt pl 4 = 4 ∨ (nxL bt pl 4 ≠ 0 ∧ nxL bt pl 4 ≠ 1 ∧ nxL bt pl 4 ≠ 2 ∧ nxL bt pl 4 ≠ 4) by omega) with hk | hk | hk | hk | hk
    · skip
      have hl : lv_has ls 6 [(4, .int (nI 0)), (0, .ref td), (1, .ref ba), (2, .int (nI dt)), (3, .int (nI pt))] := lv_re hl (by rw [hk])
      have hq := hcur.symm.trans (by obtain ⟨m9, rfl⟩ : ∃ m9, n = m9 + 1 := ⟨n - 1, by omega⟩; exact dcW_z (by omega) hk)
      refine lv_iload hx hb d_q_TextReader_decode_49 (lv_at hl 0 rfl) ?_
      refine n_if_ne hx hb d_q_TextReader_decode_51 (tgt := 56) rfl (by omega) (fun g51 => absurd g51 (by decide)) (fun g51 => ?_)
      refine lv_iconst (v := nI 1) hx hb d_q_TextReader_decode_54 (by decide) ?_
      rw [hq] at kr
      exact kr _ ls H locs d_q_TextReader_decode_55 hP hD hS
    · skip
      have hl : lv_has ls 6 [(4, .int (nI 1)), (0, .ref td), (1, .ref ba), (2, .int (nI dt)), (3, .int (nI pt))] := lv_re hl (by rw [hk])
      refine lv_iload hx hb d_q_TextReader_decode_49 (lv_at hl 0 rfl) ?_
      refine n_if_ne hx hb d_q_TextReader_decode_51 (tgt := 56) rfl (by omega) (fun g51 => ?_) (fun g51 => absurd g51 (by decide))
      refine lv_iload hx hb d_q_TextReader_decode_56 (lv_at hl 0 rfl) ?_
      refine q_readSq (n := 1) (As := [.int (nI 1)]) (rest := []) (wc := []) S (c_q_Kind_withCode_0 l D cI cC sa) hSt hK hP [] rfl (q_goodS kw_681 kw_682 kw_16 kw_683) (by decide +kernel) rfl rfl ⟨Nat.le_trans (Nat.le_of_ble_eq_true rfl) hRf, Nat.le_trans (Nat.le_of_ble_eq_true rfl) hRl⟩ rfl hl.1 rfl (Nat.le_of_ble_eq_true rfl) d_q_TextReader_decode_58 hRc hS (fun H locs hP hS => ?_)
      refine lv_astore hx hb d_q_TextReader_decode_61 hl (Nat.le_of_ble_eq_true rfl) rfl (fun ls hl => ?_)
      have hl : lv_has ls 6 [(5, .ref (sa 7)), (4, .int (nI 1)), (0, .ref td), (1, .ref ba), (2, .int (nI dt)), (3, .int (nI pt))] := hl
      refine lv_aload hx hb d_q_TextReader_decode_63 (lv_at hl 0 rfl) ?_
      refine lv_ifnull hx hb d_q_TextReader_decode_65 ?_
      rcases Nat.lt_or_ge (8 * dt) (pl + 4 + 10) with hrm | hrm
      · skip
        have hq := hcur.symm.trans (by obtain ⟨m9, rfl⟩ : ∃ m9, n = m9 + 1 := ⟨n - 1, by omega⟩; exact dcW_n (by omega) hk (Or.inl rfl) rfl hrm)
        refine lv_aload_n hx hb d_q_TextReader_decode_68 rfl (lv_at hl 2 rfl) ?_
        refine lv_aload_n hx hb d_q_TextReader_decode_69 rfl (lv_at hl 3 rfl) ?_
        refine lv_aload hx hb d_q_TextReader_decode_70 (lv_at hl 0 rfl) ?_
        refine q_readVs (n := 2) (As := [.ref ba, .ref (sa 7)]) (rest := []) (wc := [(td, .inr (5, [.ref tq, .int (nI fd), .int (nI (pl + 4)), .int (nI (8 * dt))])), (tq, .inl (cC, 64, .inl (fun j => nI (rd j)))), (ba, .inl (cI, 26, .inl (fun j => nI (bt j))))]) S (c_q_TextReader_takePart_0_no l D cI cC sa td tq fd (pl + 4) ba _ rd bt hdt (by omega) hrm) hSt hK hP (q0 := 0) rfl rfl [0, 1, 2] rfl (q_goodV kw_684 kw_686 ks_18 kw_7 kw_687) (by decide +kernel) rfl rfl rfl ⟨Nat.le_trans (Nat.le_of_ble_eq_true rfl) hRf, Nat.le_trans (Nat.le_of_ble_eq_true rfl) hRl⟩ rfl hl.1 rfl (Nat.le_of_ble_eq_true rfl) d_q_TextReader_decode_72 hRc hS (fun H locs hP hS => ?_)
        refine n_if_ne hx hb d_q_TextReader_decode_75 (tgt := 80) rfl (by omega) (fun g75 => absurd g75 (by decide)) (fun g75 => ?_)
        refine lv_iconst (v := nI 0) hx hb d_q_TextReader_decode_78 (by decide) ?_
        rw [hq] at kr
        exact kr _ ls H locs d_q_TextReader_decode_79 hP hD hS
      · skip
        refine lv_aload_n hx hb d_q_TextReader_decode_68 rfl (lv_at hl 2 rfl) ?_
        refine lv_aload_n hx hb d_q_TextReader_decode_69 rfl (lv_at hl 3 rfl) ?_
        refine lv_aload hx hb d_q_TextReader_decode_70 (lv_at hl 0 rfl) ?_
        refine q_writeVis (n := 2) (As := [.ref ba, .ref (sa 7)]) (rest := []) (wc := [(td, .inr (5, [.ref tq, .int (nI fd), .int (nI (pl + 4)), .int (nI (8 * dt))])), (tq, .inl (cC, 64, .inl (fun j => nI (rd j)))), (ba, .inl (cI, 26, .inl (fun j => nI (bt j))))]) (wr := []) (w1 := [(td, .inr (5, [.ref tq, .int (nI ((tpW bt 1 dt (nxL bt (pl + 4) 10) (nxL bt (pl + 4) 10) (pl + 4 + 10) fd rd).2.2.1)), .int (nI ((tpW bt 1 dt (nxL bt (pl + 4) 10) (nxL bt (pl + 4) 10) (pl + 4 + 10) fd rd).2.1)), .int (nI (8 * dt))])), (tq, .inl (cC, 64, .inl (fun j => nI (((tpW bt 1 dt (nxL bt (pl + 4) 10) (nxL bt (pl + 4) 10) (pl + 4 + 10) fd rd).2.2.2) j)))), (ba, .inl (cI, 26, .inl (fun j => nI (bt j))))]) S (c_q_TextReader_takePart_0_ok l D cI cC sa td tq fd (pl + 4) ba _ rd bt (tpW bt 1 dt (nxL bt (pl + 4) 10) (nxL bt (pl + 4) 10) (pl + 4 + 10) fd rd) hdt hbt hrm (by omega) rfl H.size) hSt hK hP hD hA (q0 := 0) rfl rfl [0, 1, 2] [] rfl rfl rfl rfl (by decide) rfl (q_goodV kw_684 kw_686 ks_18 kw_7 kw_687) (by decide +kernel) rfl rfl rfl ⟨Nat.le_trans (Nat.le_of_ble_eq_true rfl) hRf, Nat.le_trans (Nat.le_of_ble_eq_true rfl) hRl⟩ rfl hl.1 rfl (Nat.le_of_ble_eq_true rfl) d_q_TextReader_decode_72 hRc hS (fun H locs hP hD hS => ?_)
        replace hP : va_P D classes [(td, .inr (5, [.ref tq, .int (nI ((tpW bt 1 dt (nxL bt (pl + 4) 10) (nxL bt (pl + 4) 10) (pl + 4 + 10) fd rd).2.2.1)), .int (nI ((tpW bt 1 dt (nxL bt (pl + 4) 10) (nxL bt (pl + 4) 10) (pl + 4 + 10) fd rd).2.1)), .int (nI (8 * dt))])), (tq, .inl (cC, 64, .inl (fun j => nI (((tpW bt 1 dt (nxL bt (pl + 4) 10) (nxL bt (pl + 4) 10) (pl + 4 + 10) fd rd).2.2.2) j)))), (ba, .inl (cI, 26, .inl (fun j => nI (bt j))))] H := hP.sub [0, 1, 2] rfl
        replace hD : va_D A [(td, .inr (5, [.ref tq, .int (nI ((tpW bt 1 dt (nxL bt (pl + 4) 10) (nxL bt (pl + 4) 10) (pl + 4 + 10) fd rd).2.2.1)), .int (nI ((tpW bt 1 dt (nxL bt (pl + 4) 10) (nxL bt (pl + 4) 10) (pl + 4 + 10) fd rd).2.1)), .int (nI (8 * dt))])), (tq, .inl (cC, 64, .inl (fun j => nI (((tpW bt 1 dt (nxL bt (pl + 4) 10) (nxL bt (pl + 4) 10) (pl + 4 + 10) fd rd).2.2.2) j)))), (ba, .inl (cI, 26, .inl (fun j => nI (bt j))))] := hD.sub [0, 1, 2] rfl rfl
        refine n_if_ne hx hb d_q_TextReader_decode_75 (tgt := 80) rfl (Nat.lt_of_le_of_lt (tpW_le _ _ _ _ _ _ _ _) (by decide)) (fun g75 => ?_) (fun g75 => ?_)
        · skip
          refine lv_iinc (k := 5) (v := nI (pt + 1)) hx hb d_q_TextReader_decode_80 hl rfl (nx_inc pt 1) (Nat.le_of_ble_eq_true rfl) rfl (fun ls hl => ?_)
          have hl : lv_has ls 6 [(3, .int (nI (pt + 1))), (5, .ref (sa 7)), (4, .int (nI 1)), (0, .ref td), (1, .ref ba), (2, .int (nI dt))] := hl
          refine lv_goto hx hb d_q_TextReader_decode_83 (tgt := 20) rfl ?_
          obtain ⟨m9, rfl⟩ : ∃ m9, n = m9 + 1 := ⟨n - 1, by omega⟩
          have htc := tp_ch bt 1 dt (nxL bt (pl + 4) 10) (nxL bt (pl + 4) 10) (pl + 4 + 10) fd rd
          have hci := chW_inv bt 1 dt hdt (Or.inl rfl) (nxL bt (pl + 4) 10) (nxL bt (pl + 4) 10) (pl + 4 + 10) fd rd (by omega) (by omega)
          rw [← htc.2 (by rw [← htc.1]; exact g75)] at hci
          obtain ⟨hc1, hc2, hc3⟩ := hci
          have hcur2 := (dcW_s (by omega) hk (Or.inl rfl) rfl hrm g75).symm.trans hcur
          exact ih _ rfl (pt + 1) ((tpW bt 1 dt (nxL bt (pl + 4) 10) (nxL bt (pl + 4) 10) (pl + 4 + 10) fd rd).2.1) ((tpW bt 1 dt (nxL bt (pl + 4) 10) (nxL bt (pl + 4) 10) (pl + 4 + 10) fd rd).2.2.1) ((tpW bt 1 dt (nxL bt (pl + 4) 10) (nxL bt (pl + 4) 10) (pl + 4 + 10) fd rd).2.2.2) (by omega) hc2 hc1 (by omega) hcur2 ls H locs (lv_sub hl [3, 4, 5, 0] rfl) hP hD hS
        · skip
          have hq := hcur.symm.trans (by obtain ⟨m9, rfl⟩ : ∃ m9, n = m9 + 1 := ⟨n - 1, by omega⟩; exact dcW_b (by omega) hk (Or.inl rfl) rfl hrm g75)
          refine lv_iconst (v := nI 0) hx hb d_q_TextReader_decode_78 (by decide) ?_
          rw [hq] at kr
          exact kr _ ls H locs d_q_TextReader_decode_79 hP hD hS
    · skip
      have hl : lv_has ls 6 [(4, .int (nI 2)), (0, .ref td), (1, .ref ba), (2, .int (nI dt)), (3, .int (nI pt))] := lv_re hl (by rw [hk])
      refine lv_iload hx hb d_q_TextReader_decode_49 (lv_at hl 0 rfl) ?_
      refine n_if_ne hx hb d_q_TextReader_decode_51 (tgt := 56) rfl (by omega) (fun g51 => ?_) (fun g51 => absurd g51 (by decide))
      refine lv_iload hx hb d_q_TextReader_decode_56 (lv_at hl 0 rfl) ?_
      refine q_readSq (n := 1) (As := [.int (nI 2)]) (rest := []) (wc := []) S (c_q_Kind_withCode_1 l D cI cC sa) hSt hK hP [] rfl (q_goodS kw_681 kw_682 kw_16 kw_683) (by decide +kernel) rfl rfl ⟨Nat.le_trans (Nat.le_of_ble_eq_true rfl) hRf, Nat.le_trans (Nat.le_of_ble_eq_true rfl) hRl⟩ rfl hl.1 rfl (Nat.le_of_ble_eq_true rfl) d_q_TextReader_decode_58 hRc hS (fun H locs hP hS => ?_)
      refine lv_astore hx hb d_q_TextReader_decode_61 hl (Nat.le_of_ble_eq_true rfl) rfl (fun ls hl => ?_)
      have hl : lv_has ls 6 [(5, .ref (sa 8)), (4, .int (nI 2)), (0, .ref td), (1, .ref ba), (2, .int (nI dt)), (3, .int (nI pt))] := hl
      refine lv_aload hx hb d_q_TextReader_decode_63 (lv_at hl 0 rfl) ?_
      refine lv_ifnull hx hb d_q_TextReader_decode_65 ?_
      rcases Nat.lt_or_ge (8 * dt) (pl + 4 + 9) with hrm | hrm
      · skip
        have hq := hcur.symm.trans (by obtain ⟨m9, rfl⟩ : ∃ m9, n = m9 + 1 := ⟨n - 1, by omega⟩; exact dcW_n (by omega) hk (Or.inr (Or.inl rfl)) rfl hrm)
        refine lv_aload_n hx hb d_q_TextReader_decode_68 rfl (lv_at hl 2 rfl) ?_
        refine lv_aload_n hx hb d_q_TextReader_decode_69 rfl (lv_at hl 3 rfl) ?_
        refine lv_aload hx hb d_q_TextReader_decode_70 (lv_at hl 0 rfl) ?_
        refine q_readVs (n := 2) (As := [.ref ba, .ref (sa 8)]) (rest := []) (wc := [(td, .inr (5, [.ref tq, .int (nI fd), .int (nI (pl + 4)), .int (nI (8 * dt))])), (tq, .inl (cC, 64, .inl (fun j => nI (rd j)))), (ba, .inl (cI, 26, .inl (fun j => nI (bt j))))]) S (c_q_TextReader_takePart_1_no l D cI cC sa td tq fd (pl + 4) ba _ rd bt hdt (by omega) hrm) hSt hK hP (q0 := 0) rfl rfl [0, 1, 2] rfl (q_goodV kw_684 kw_686 ks_18 kw_7 kw_687) (by decide +kernel) rfl rfl rfl ⟨Nat.le_trans (Nat.le_of_ble_eq_true rfl) hRf, Nat.le_trans (Nat.le_of_ble_eq_true rfl) hRl⟩ rfl hl.1 rfl (Nat.le_of_ble_eq_true rfl) d_q_TextReader_decode_72 hRc hS (fun H locs hP hS => ?_)
        refine n_if_ne hx hb d_q_TextReader_decode_75 (tgt := 80) rfl (by omega) (fun g75 => absurd g75 (by decide)) (fun g75 => ?_)
        refine lv_iconst (v := nI 0) hx hb d_q_TextReader_decode_78 (by decide) ?_
        rw [hq] at kr
        exact kr _ ls H locs d_q_TextReader_decode_79 hP hD hS
      · skip
        refine lv_aload_n hx hb d_q_TextReader_decode_68 rfl (lv_at hl 2 rfl) ?_
        refine lv_aload_n hx hb d_q_TextReader_decode_69 rfl (lv_at hl 3 rfl) ?_
        refine lv_aload hx hb d_q_TextReader_decode_70 (lv_at hl 0 rfl) ?_
        refine q_writeVis (n := 2) (As := [.ref ba, .ref (sa 8)]) (rest := []) (wc := [(td, .inr (5, [.ref tq, .int (nI fd), .int (nI (pl + 4)), .int (nI (8 * dt))])), (tq, .inl (cC, 64, .inl (fun j => nI (rd j)))), (ba, .inl (cI, 26, .inl (fun j => nI (bt j))))]) (wr := []) (w1 := [(td, .inr (5, [.ref tq, .int (nI ((tpW bt 2 dt (nxL bt (pl + 4) 9) (nxL bt (pl + 4) 9) (pl + 4 + 9) fd rd).2.2.1)), .int (nI ((tpW bt 2 dt (nxL bt (pl + 4) 9) (nxL bt (pl + 4) 9) (pl + 4 + 9) fd rd).2.1)), .int (nI (8 * dt))])), (tq, .inl (cC, 64, .inl (fun j => nI (((tpW bt 2 dt (nxL bt (pl + 4) 9) (nxL bt (pl + 4) 9) (pl + 4 + 9) fd rd).2.2.2) j)))), (ba, .inl (cI, 26, .inl (fun j => nI (bt j))))]) S (c_q_TextReader_takePart_1_ok l D cI cC sa td tq fd (pl + 4) ba _ rd bt (tpW bt 2 dt (nxL bt (pl + 4) 9) (nxL bt (pl + 4) 9) (pl + 4 + 9) fd rd) hdt hbt hrm (by omega) rfl H.size) hSt hK hP hD hA (q0 := 0) rfl rfl [0, 1, 2] [] rfl rfl rfl rfl (by decide) rfl (q_goodV kw_684 kw_686 ks_18 kw_7 kw_687) (by decide +kernel) rfl rfl rfl ⟨Nat.le_trans (Nat.le_of_ble_eq_true rfl) hRf, Nat.le_trans (Nat.le_of_ble_eq_true rfl) hRl⟩ rfl hl.1 rfl (Nat.le_of_ble_eq_true rfl) d_q_TextReader_decode_72 hRc hS (fun H locs hP hD hS => ?_)
        replace hP : va_P D classes [(td, .inr (5, [.ref tq, .int (nI ((tpW bt 2 dt (nxL bt (pl + 4) 9) (nxL bt (pl + 4) 9) (pl + 4 + 9) fd rd).2.2.1)), .int (nI ((tpW bt 2 dt (nxL bt (pl + 4) 9) (nxL bt (pl + 4) 9) (pl + 4 + 9) fd rd).2.1)), .int (nI (8 * dt))])), (tq, .inl (cC, 64, .inl (fun j => nI (((tpW bt 2 dt (nxL bt (pl + 4) 9) (nxL bt (pl + 4) 9) (pl + 4 + 9) fd rd).2.2.2) j)))), (ba, .inl (cI, 26, .inl (fun j => nI (bt j))))] H := hP.sub [0, 1, 2] rfl
        replace hD : va_D A [(td, .inr (5, [.ref tq, .int (nI ((tpW bt 2 dt (nxL bt (pl + 4) 9) (nxL bt (pl + 4) 9) (pl + 4 + 9) fd rd).2.2.1)), .int (nI ((tpW bt 2 dt (nxL bt (pl + 4) 9) (nxL bt (pl + 4) 9) (pl + 4 + 9) fd rd).2.1)), .int (nI (8 * dt))])), (tq, .inl (cC, 64, .inl (fun j => nI (((tpW bt 2 dt (nxL bt (pl + 4) 9) (nxL bt (pl + 4) 9) (pl + 4 + 9) fd rd).2.2.2) j)))), (ba, .inl (cI, 26, .inl (fun j => nI (bt j))))] := hD.sub [0, 1, 2] rfl rfl
        refine n_if_ne hx hb d_q_TextReader_decode_75 (tgt := 80) rfl (Nat.lt_of_le_of_lt (tpW_le _ _ _ _ _ _ _ _) (by decide)) (fun g75 => ?_) (fun g75 => ?_)
        · skip
          refine lv_iinc (k := 5) (v := nI (pt + 1)) hx hb d_q_TextReader_decode_80 hl rfl (nx_inc pt 1) (Nat.le_of_ble_eq_true rfl) rfl (fun ls hl => ?_)
          have hl : lv_has ls 6 [(3, .int (nI (pt + 1))), (5, .ref (sa 8)), (4, .int (nI 2)), (0, .ref td), (1, .ref ba), (2, .int (nI dt))] := hl
          refine lv_goto hx hb d_q_TextReader_decode_83 (tgt := 20) rfl ?_
          obtain ⟨m9, rfl⟩ : ∃ m9, n = m9 + 1 := ⟨n - 1, by omega⟩
          have htc := tp_ch bt 2 dt (nxL bt (pl + 4) 9) (nxL bt (pl + 4) 9) (pl + 4 + 9) fd rd
          have hci := chW_inv bt 2 dt hdt (Or.inr (Or.inl rfl)) (nxL bt (pl + 4) 9) (nxL bt (pl + 4) 9) (pl + 4 + 9) fd rd (by omega) (by omega)
          rw [← htc.2 (by rw [← htc.1]; exact g75)] at hci
          obtain ⟨hc1, hc2, hc3⟩ := hci
          have hcur2 := (dcW_s (by omega) hk (Or.inr (Or.inl rfl)) rfl hrm g75).symm.trans hcur
          exact ih _ rfl (pt + 1) ((tpW bt 2 dt (nxL bt (pl + 4) 9) (nxL bt (pl + 4) 9) (pl + 4 + 9) fd rd).2.1) ((tpW bt 2 dt (nxL bt (pl + 4) 9) (nxL bt (pl + 4) 9) (pl + 4 + 9) fd rd).2.2.1) ((tpW bt 2 dt (nxL bt (pl + 4) 9) (nxL bt (pl + 4) 9) (pl + 4 + 9) fd rd).2.2.2) (by omega) hc2 hc1 (by omega) hcur2 ls H locs (lv_sub hl [3, 4, 5, 0] rfl) hP hD hS
        · skip
          have hq := hcur.symm.trans (by obtain ⟨m9, rfl⟩ : ∃ m9, n = m9 + 1 := ⟨n - 1, by omega⟩; exact dcW_b (by omega) hk (Or.inr (Or.inl rfl)) rfl hrm g75)
          refine lv_iconst (v := nI 0) hx hb d_q_TextReader_decode_78 (by decide) ?_
          rw [hq] at kr
          exact kr _ ls H locs d_q_TextReader_decode_79 hP hD hS
    · skip
      have hl : lv_has ls 6 [(4, .int (nI 4)), (0, .ref td), (1, .ref ba), (2, .int (nI dt)), (3, .int (nI pt))] := lv_re hl (by rw [hk])
      refine lv_iload hx hb d_q_TextReader_decode_49 (lv_at hl 0 rfl) ?_
      refine n_if_ne hx hb d_q_TextReader_decode_51 (tgt := 56) rfl (by omega) (fun g51 => ?_) (fun g51 => absurd g51 (by decide))
      refine lv_iload hx hb d_q_TextReader_decode_56 (lv_at hl 0 rfl) ?_
      refine q_readSq (n := 1) (As := [.int (nI 4)]) (rest := []) (wc := []) S (c_q_Kind_withCode_2 l D cI cC sa) hSt hK hP [] rfl (q_goodS kw_681 kw_682 kw_16 kw_683) (by decide +kernel) rfl rfl ⟨Nat.le_trans (Nat.le_of_ble_eq_true rfl) hRf, Nat.le_trans (Nat.le_of_ble_eq_true rfl) hRl⟩ rfl hl.1 rfl (Nat.le_of_ble_eq_true rfl) d_q_TextReader_decode_58 hRc hS (fun H locs hP hS => ?_)
      refine lv_astore hx hb d_q_TextReader_decode_61 hl (Nat.le_of_ble_eq_true rfl) rfl (fun ls hl => ?_)
      have hl : lv_has ls 6 [(5, .ref (sa 9)), (4, .int (nI 4)), (0, .ref td), (1, .ref ba), (2, .int (nI dt)), (3, .int (nI pt))] := hl
      refine lv_aload hx hb d_q_TextReader_decode_63 (lv_at hl 0 rfl) ?_
      refine lv_ifnull hx hb d_q_TextReader_decode_65 ?_
      rcases Nat.lt_or_ge (8 * dt) (pl + 4 + 8) with hrm | hrm
      · skip
        have hq := hcur.symm.trans (by obtain ⟨m9, rfl⟩ : ∃ m9, n = m9 + 1 := ⟨n - 1, by omega⟩; exact dcW_n (by omega) hk (Or.inr (Or.inr rfl)) rfl hrm)
        refine lv_aload_n hx hb d_q_TextReader_decode_68 rfl (lv_at hl 2 rfl) ?_
        refine lv_aload_n hx hb d_q_TextReader_decode_69 rfl (lv_at hl 3 rfl) ?_
        refine lv_aload hx hb d_q_TextReader_decode_70 (lv_at hl 0 rfl) ?_
        refine q_readVs (n := 2) (As := [.ref ba, .ref (sa 9)]) (rest := []) (wc := [(td, .inr (5, [.ref tq, .int (nI fd), .int (nI (pl + 4)), .int (nI (8 * dt))])), (tq, .inl (cC, 64, .inl (fun j => nI (rd j)))), (ba, .inl (cI, 26, .inl (fun j => nI (bt j))))]) S (c_q_TextReader_takePart_2_no l D cI cC sa td tq fd (pl + 4) ba _ rd bt hdt (by omega) hrm) hSt hK hP (q0 := 0) rfl rfl [0, 1, 2] rfl (q_goodV kw_684 kw_686 ks_18 kw_7 kw_687) (by decide +kernel) rfl rfl rfl ⟨Nat.le_trans (Nat.le_of_ble_eq_true rfl) hRf, Nat.le_trans (Nat.le_of_ble_eq_true rfl) hRl⟩ rfl hl.1 rfl (Nat.le_of_ble_eq_true rfl) d_q_TextReader_decode_72 hRc hS (fun H locs hP hS => ?_)
        refine n_if_ne hx hb d_q_TextReader_decode_75 (tgt := 80) rfl (by omega) (fun g75 => absurd g75 (by decide)) (fun g75 => ?_)
        refine lv_iconst (v := nI 0) hx hb d_q_TextReader_decode_78 (by decide) ?_
        rw [hq] at kr
        exact kr _ ls H locs d_q_TextReader_decode_79 hP hD hS
      · skip
        refine lv_aload_n hx hb d_q_TextReader_decode_68 rfl (lv_at hl 2 rfl) ?_
        refine lv_aload_n hx hb d_q_TextReader_decode_69 rfl (lv_at hl 3 rfl) ?_
        refine lv_aload hx hb d_q_TextReader_decode_70 (lv_at hl 0 rfl) ?_
        refine q_writeVis (n := 2) (As := [.ref ba, .ref (sa 9)]) (rest := []) (wc := [(td, .inr (5, [.ref tq, .int (nI fd), .int (nI (pl + 4)), .int (nI (8 * dt))])), (tq, .inl (cC, 64, .inl (fun j => nI (rd j)))), (ba, .inl (cI, 26, .inl (fun j => nI (bt j))))]) (wr := []) (w1 := [(td, .inr (5, [.ref tq, .int (nI ((tpW bt 4 dt (nxL bt (pl + 4) 8) (nxL bt (pl + 4) 8) (pl + 4 + 8) fd rd).2.2.1)), .int (nI ((tpW bt 4 dt (nxL bt (pl + 4) 8) (nxL bt (pl + 4) 8) (pl + 4 + 8) fd rd).2.1)), .int (nI (8 * dt))])), (tq, .inl (cC, 64, .inl (fun j => nI (((tpW bt 4 dt (nxL bt (pl + 4) 8) (nxL bt (pl + 4) 8) (pl + 4 + 8) fd rd).2.2.2) j)))), (ba, .inl (cI, 26, .inl (fun j => nI (bt j))))]) S (c_q_TextReader_takePart_2_ok l D cI cC sa td tq fd (pl + 4) ba _ rd bt (tpW bt 4 dt (nxL bt (pl + 4) 8) (nxL bt (pl + 4) 8) (pl + 4 + 8) fd rd) hdt hbt hrm (by omega) rfl H.size) hSt hK hP hD hA (q0 := 0) rfl rfl [0, 1, 2] [] rfl rfl rfl rfl (by decide) rfl (q_goodV kw_684 kw_686 ks_18 kw_7 kw_687) (by decide +kernel) rfl rfl rfl ⟨Nat.le_trans (Nat.le_of_ble_eq_true rfl) hRf, Nat.le_trans (Nat.le_of_ble_eq_true rfl) hRl⟩ rfl hl.1 rfl (Nat.le_of_ble_eq_true rfl) d_q_TextReader_decode_72 hRc hS (fun H locs hP hD hS => ?_)
        replace hP : va_P D classes [(td, .inr (5, [.ref tq, .int (nI ((tpW bt 4 dt (nxL bt (pl + 4) 8) (nxL bt (pl + 4) 8) (pl + 4 + 8) fd rd).2.2.1)), .int (nI ((tpW bt 4 dt (nxL bt (pl + 4) 8) (nxL bt (pl + 4) 8) (pl + 4 + 8) fd rd).2.1)), .int (nI (8 * dt))])), (tq, .inl (cC, 64, .inl (fun j => nI (((tpW bt 4 dt (nxL bt (pl + 4) 8) (nxL bt (pl + 4) 8) (pl + 4 + 8) fd rd).2.2.2) j)))), (ba, .inl (cI, 26, .inl (fun j => nI (bt j))))] H := hP.sub [0, 1, 2] rfl
        replace hD : va_D A [(td, .inr (5, [.ref tq, .int (nI ((tpW bt 4 dt (nxL bt (pl + 4) 8) (nxL bt (pl + 4) 8) (pl + 4 + 8) fd rd).2.2.1)), .int (nI ((tpW bt 4 dt (nxL bt (pl + 4) 8) (nxL bt (pl + 4) 8) (pl + 4 + 8) fd rd).2.1)), .int (nI (8 * dt))])), (tq, .inl (cC, 64, .inl (fun j => nI (((tpW bt 4 dt (nxL bt (pl + 4) 8) (nxL bt (pl + 4) 8) (pl + 4 + 8) fd rd).2.2.2) j)))), (ba, .inl (cI, 26, .inl (fun j => nI (bt j))))] := hD.sub [0, 1, 2] rfl rfl
        refine n_if_ne hx hb d_q_TextReader_decode_75 (tgt := 80) rfl (Nat.lt_of_le_of_lt (tpW_le _ _ _ _ _ _ _ _) (by decide)) (fun g75 => ?_) (fun g75 => ?_)
        · skip
          refine lv_iinc (k := 5) (v := nI (pt + 1)) hx hb d_q_TextReader_decode_80 hl rfl (nx_inc pt 1) (Nat.le_of_ble_eq_true rfl) rfl (fun ls hl => ?_)
          have hl : lv_has ls 6 [(3, .int (nI (pt + 1))), (5, .ref (sa 9)), (4, .int (nI 4)), (0, .ref td), (1, .ref ba), (2, .int (nI dt))] := hl
          refine lv_goto hx hb d_q_TextReader_decode_83 (tgt := 20) rfl ?_
          obtain ⟨m9, rfl⟩ : ∃ m9, n = m9 + 1 := ⟨n - 1, by omega⟩
          have htc := tp_ch bt 4 dt (nxL bt (pl + 4) 8) (nxL bt (pl + 4) 8) (pl + 4 + 8) fd rd
          have hci := chW_inv bt 4 dt hdt (Or.inr (Or.inr rfl)) (nxL bt (pl + 4) 8) (nxL bt (pl + 4) 8) (pl + 4 + 8) fd rd (by omega) (by omega)
          rw [← htc.2 (by rw [← htc.1]; exact g75)] at hci
          obtain ⟨hc1, hc2, hc3⟩ := hci
          have hcur2 := (dcW_s (by omega) hk (Or.inr (Or.inr rfl)) rfl hrm g75).symm.trans hcur
          exact ih _ rfl (pt + 1) ((tpW bt 4 dt (nxL bt (pl + 4) 8) (nxL bt (pl + 4) 8) (pl + 4 + 8) fd rd).2.1) ((tpW bt 4 dt (nxL bt (pl + 4) 8) (nxL bt (pl + 4) 8) (pl + 4 + 8) fd rd).2.2.1) ((tpW bt 4 dt (nxL bt (pl + 4) 8) (nxL bt (pl + 4) 8) (pl + 4 + 8) fd rd).2.2.2) (by omega) hc2 hc1 (by omega) hcur2 ls H locs (lv_sub hl [3, 4, 5, 0] rfl) hP hD hS
        · skip
          have hq := hcur.symm.trans (by obtain ⟨m9, rfl⟩ : ∃ m9, n = m9 + 1 := ⟨n - 1, by omega⟩; exact dcW_b (by omega) hk (Or.inr (Or.inr rfl)) rfl hrm g75)
          refine lv_iconst (v := nI 0) hx hb d_q_TextReader_decode_78 (by decide) ?_
          rw [hq] at kr
          exact kr _ ls H locs d_q_TextReader_decode_79 hP hD hS
    · skip
      have hq := hcur.symm.trans (by obtain ⟨m9, rfl⟩ : ∃ m9, n = m9 + 1 := ⟨n - 1, by omega⟩; exact dcW_k (by omega) hk)
      refine lv_iload hx hb d_q_TextReader_decode_49 (lv_at hl 0 rfl) ?_
      refine n_if_ne hx hb d_q_TextReader_decode_51 (tgt := 56) rfl (by omega) (fun g51 => ?_) (fun g51 => absurd g51 (by omega))
      refine lv_iload hx hb d_q_TextReader_decode_56 (lv_at hl 0 rfl) ?_
      refine q_readSq (n := 1) (As := [.int (nI (nxL bt pl 4))]) (rest := []) (wc := []) S (c_q_Kind_withCode_no l D cI cC sa (nxL bt pl 4) (by omega) (by omega)) hSt hK hP [] rfl (q_goodS kw_681 kw_682 kw_16 kw_683) (by decide +kernel) rfl rfl ⟨Nat.le_trans (Nat.le_of_ble_eq_true rfl) hRf, Nat.le_trans (Nat.le_of_ble_eq_true rfl) hRl⟩ rfl hl.1 rfl (Nat.le_of_ble_eq_true rfl) d_q_TextReader_decode_58 hRc hS (fun H locs hP hS => ?_)
      refine lv_astoreN hx hb d_q_TextReader_decode_61 hl (Nat.le_of_ble_eq_true rfl) rfl (fun ls hl => ?_)
      have hl : lv_has ls 6 [(5, .null), (4, .int (nI (nxL bt pl 4))), (0, .ref td), (1, .ref ba), (2, .int (nI dt)), (3, .int (nI pt))] := hl
      refine lv_aloadN hx hb d_q_TextReader_decode_63 (lv_at hl 0 rfl) ?_
      refine lv_ifnullN hx hb d_q_TextReader_decode_65 (tgt := 78) rfl ?_
      refine lv_iconst (v := nI 0) hx hb d_q_TextReader_decode_78 (by decide) ?_
      rw [hq] at kr
      exact kr _ ls H locs d_q_TextReader_decode_79 hP hD hS
set_option maxHeartbeats 1000000 in
set_option maxRecDepth 100000 in
theorem bd_q_TextReader_decode (cI cC : ClassId) (sa : Nat → Nat) (td tq ct nx en ba dt : Nat) (ch bt : Nat → Nat) (fi : Nat × Nat × Nat × (Nat → Nat)) (hdt : dt ≤ 19) (hbt : lt256 26 bt) (hfi : dcW bt dt (8 * dt) 0 0 ch = fi) (S : CallFix p m c b_q_TextReader_decode 6 s args (cd_q_TextReader_decode :: WS) R_TextReader) (hRf : 7 ≤ R.frames) (hRl : 157 ≤ R.locals) (hRc : cells ≤ R.cells ∧ slots ≤ R.slots) (hK : va_K D classes [(cI, .int), (cC, .char)] s) (hA : ∀ q, s.heap.size ≤ q → A q) (hSt : SB sa A s s.heap) (kr : ∀ (pc : Nat) (ls : Array Slot) (H : Heap) (locs : List Loc), decode b_q_TextReader_decode pc = .ok (.ireturn, 1) → va_P D classes [(td, .inr (5, [.ref tq, .int (nI fi.2.2.1), .int (nI fi.2.1), .int (nI (8 * dt))])), (tq, .inl (cC, 64, .inl (fun j => nI (fi.2.2.2 j)))), (ba, .inl (cI, 26, .inl (fun j => nI (bt j))))] H → va_D A [(td, .inr (5, [.ref tq, .int (nI fi.2.2.1), .int (nI fi.2.1), .int (nI (8 * dt))])), (tq, .inl (cC, 64, .inl (fun j => nI (fi.2.2.2 j)))), (ba, .inl (cI, 26, .inl (fun j => nI (bt j))))] → va_S A s.heap H locs → W p l e R s m args below meth c H locs cells slots Q (F0 m pc ls [.int (nI fi.1)])) : ∀ (ls : Array Slot) (H : Heap) (locs : List Loc), lv_has ls 6 [(0, .ref td), (1, .ref ba), (2, .int (nI dt))] → va_P D classes [(td, .inr (5, [.ref tq, .int (nI ct), .int (nI nx), .int (nI en)])), (tq, .inl (cC, 64, .inl (fun j => nI (ch j)))), (ba, .inl (cI, 26, .inl (fun j => nI (bt j))))] H → va_D A [(td, .inr (5, [.ref tq, .int (nI ct), .int (nI nx), .int (nI en)])), (tq, .inl (cC, 64, .inl (fun j => nI (ch j)))), (ba, .inl (cI, 26, .inl (fun j => nI (bt j))))] → va_S A s.heap H locs → W p l e R s m args below meth c H locs cells slots Q (F0 m 0 ls []) := by
  obtain ⟨hx, hb, hml, hown, hts⟩ := id S
  intro ls H locs hl hP hD hS
  refine lv_aload_n hx hb d_q_TextReader_decode_0 rfl (lv_at hl 0 rfl) ?_
  refine lv_iconst (v := nI 0) hx hb d_q_TextReader_decode_1 (by decide) ?_
  refine n_put (C := R_TextReader) (T := F_TextReader) (N := 4) (v := .int (nI 0)) hx hb hts u_TextReader_in t_TextReader t_TextReader_ok n_TextReader hown hK hP hD hS 0 rfl rfl 1 (by decide) kw_150 rfl rfl rfl (Nat.le_of_ble_eq_true rfl) d_q_TextReader_decode_2 (fun H locs hP hD hS => ?_)
  have hP : va_P D classes [(td, .inr (5, [.ref tq, .int (nI 0), .int (nI nx), .int (nI en)])), (tq, .inl (cC, 64, .inl (fun j => nI (ch j)))), (ba, .inl (cI, 26, .inl (fun j => nI (bt j))))] H := hP
  have hD : va_D A [(td, .inr (5, [.ref tq, .int (nI 0), .int (nI nx), .int (nI en)])), (tq, .inl (cC, 64, .inl (fun j => nI (ch j)))), (ba, .inl (cI, 26, .inl (fun j => nI (bt j))))] := hD
  refine lv_aload_n hx hb d_q_TextReader_decode_5 rfl (lv_at hl 0 rfl) ?_
  refine lv_iconst (v := nI 0) hx hb d_q_TextReader_decode_6 (by decide) ?_
  refine n_put (C := R_TextReader) (T := F_TextReader) (N := 4) (v := .int (nI 0)) hx hb hts u_TextReader_in t_TextReader t_TextReader_ok n_TextReader hown hK hP hD hS 0 rfl rfl 2 (by decide) kw_151 rfl rfl rfl (Nat.le_of_ble_eq_true rfl) d_q_TextReader_decode_7 (fun H locs hP hD hS => ?_)
  have hP : va_P D classes [(td, .inr (5, [.ref tq, .int (nI 0), .int (nI 0), .int (nI en)])), (tq, .inl (cC, 64, .inl (fun j => nI (ch j)))), (ba, .inl (cI, 26, .inl (fun j => nI (bt j))))] H := hP
  have hD : va_D A [(td, .inr (5, [.ref tq, .int (nI 0), .int (nI 0), .int (nI en)])), (tq, .inl (cC, 64, .inl (fun j => nI (ch j)))), (ba, .inl (cI, 26, .inl (fun j => nI (bt j))))] := hD
  refine lv_aload_n hx hb d_q_TextReader_decode_10 rfl (lv_at hl 0 rfl) ?_
  refine lv_bipush (v := nI 8) hx hb d_q_TextReader_decode_11 (by decide) ?_
  refine lv_iload_n hx hb d_q_TextReader_decode_13 rfl (lv_at hl 2 rfl) ?_
  refine n_imul hx hb d_q_TextReader_decode_14 ?_
  refine n_put (C := R_TextReader) (T := F_TextReader) (N := 4) (v := .int (nI (8 * dt))) hx hb hts u_TextReader_in t_TextReader t_TextReader_ok n_TextReader hown hK hP hD hS 0 rfl rfl 3 (by decide) kw_152 rfl rfl rfl (Nat.le_of_ble_eq_true rfl) d_q_TextReader_decode_15 (fun H locs hP hD hS => ?_)
  have hP : va_P D classes [(td, .inr (5, [.ref tq, .int (nI 0), .int (nI 0), .int (nI (8 * dt))])), (tq, .inl (cC, 64, .inl (fun j => nI (ch j)))), (ba, .inl (cI, 26, .inl (fun j => nI (bt j))))] H := hP
  have hD : va_D A [(td, .inr (5, [.ref tq, .int (nI 0), .int (nI 0), .int (nI (8 * dt))])), (tq, .inl (cC, 64, .inl (fun j => nI (ch j)))), (ba, .inl (cI, 26, .inl (fun j => nI (bt j))))] := hD
  refine lv_iconst (v := nI 0) hx hb d_q_TextReader_decode_18 (by decide) ?_
  refine lv_istore_n hx hb d_q_TextReader_decode_19 rfl hl (Nat.le_of_ble_eq_true rfl) rfl (fun ls hl => ?_)
  have hl : lv_has ls 6 [(3, .int (nI 0)), (0, .ref td), (1, .ref ba), (2, .int (nI dt))] := hl
  exact lw_q_TextReader_decode_20 cI cC sa td tq ct nx en ba dt ch bt fi hdt hbt hfi S hRf hRl hRc hK hA hSt  kr (8 * dt) 0 0 0 ch (by omega) (by omega) (by omega) (by omega) hfi ls H locs (lv_sub hl [1, 2, 3, 0] rfl) hP hD hS
set_option maxHeartbeats 1000000 in
set_option maxRecDepth 100000 in
theorem c_q_TextReader_decode (l : Launch) (D : va_G) (cI cC : ClassId) (sa : Nat → Nat) (td tq ct nx en ba dt : Nat) (ch bt : Nat → Nat) (fi : Nat × Nat × Nat × (Nat → Nat)) (hdt : dt ≤ 19) (hbt : lt256 26 bt) (hfi : dcW bt dt (8 * dt) 0 0 ch = fi) (sz : Nat) : Met l y_q_TextReader_decode (cd_q_TextReader_decode :: WS) { frames := 7, cells := 0, slots := 0, locals := 157 } (va_Pc [.ref td, .ref ba, .int (nI dt)] (swP sa D [(td, .inr (5, [.ref tq, .int (nI ct), .int (nI nx), .int (nI en)])), (tq, .inl (cC, 64, .inl (fun j => nI (ch j)))), (ba, .inl (cI, 26, .inl (fun j => nI (bt j))))] [(cI, .int), (cC, .char)] sz)) (wQi D (nI fi.1) [(td, .inr (5, [.ref tq, .int (nI ct), .int (nI nx), .int (nI en)])), (tq, .inl (cC, 64, .inl (fun j => nI (ch j)))), (ba, .inl (cI, 26, .inl (fun j => nI (bt j))))] [(td, .inr (5, [.ref tq, .int (nI fi.2.2.1), .int (nI fi.2.1), .int (nI (8 * dt))])), (tq, .inl (cC, 64, .inl (fun j => nI (fi.2.2.2 j)))), (ba, .inl (cI, 26, .inl (fun j => nI (bt j))))] sz) 0 0 (va_A [(td, .inr (5, [.ref tq, .int (nI ct), .int (nI nx), .int (nI en)])), (tq, .inl (cC, 64, .inl (fun j => nI (ch j)))), (ba, .inl (cI, 26, .inl (fun j => nI (bt j))))] sz) := by
  refine Met.ofW (cc := b_q_TextReader_decode) (maxL := 6) (ret := (some .boolean)) (by decide) rfl ?_
  intro p e s m args below meth c s₁ B hml hv0
  obtain ⟨rfl, ⟨hP, hK, hD0, hsz⟩, hSt⟩ := hv0
  have hts := atoms_spec (ws := cd_q_TextReader_decode :: WS) B.pre
  have hown : s.vm.findClass R_TextReader = some m.cls := findClass_of_methodNamed B.named
  have hlocks := B.notSynchronized
  subst hsz
  have hD := hD0.self (sz := s.heap.size)
  have hl := lv_entry ([.ref td, .ref ba, .int (nI dt)]) (n := 6) (Nat.le_of_ble_eq_true rfl)
  rw [lg_entry_eq]
  generalize (lg_sl ([.ref td, .ref ba, .int (nI dt)]) ++ List.replicate (6 - (lg_sl ([.ref td, .ref ba, .int (nI dt)])).length) Slot.unset).toArray = ls at hl ⊢
  refine bd_q_TextReader_decode cI cC sa td tq ct nx en ba dt ch bt fi hdt hbt hfi ⟨B.exec, B.bytes, hml, hown, hts⟩ (Nat.le_refl _) (Nat.le_refl _) ⟨Nat.le_refl _, Nat.le_refl _⟩ hK (fun q h => Or.inr h) hSt (fun pc ls H locs hd hP hD hS => ?_) ls _ _ hl hP hD (va_S.rf)
  exact W.zret B.exec B.bytes B.returns (by rw [← hfi]; exact le1_fit (dcW_le _ _ _ _ _ _)) (fun t ht _ => ⟨⟨_, (), rfl, rfl, (by have h9 := hP; rw [← ht] at h9; exact h9)⟩, hS.F ht⟩) hS.2.2 hd
end
section
theorem d_q_type_0 : decode b_q_type 0 = .ok (.iload_n 1, 1) := by decide +kernel
theorem d_q_type_1 : decode b_q_type 1 = .ok (.bipush 32, 2) := by decide +kernel
theorem d_q_type_3 : decode b_q_type 3 = .ok (.if_icmp .lt 18, 3) := by decide +kernel
theorem d_q_type_6 : decode b_q_type 6 = .ok (.iload_n 1, 1) := by decide +kernel
theorem d_q_type_7 : decode b_q_type 7 = .ok (.bipush 126, 2) := by decide +kernel
theorem d_q_type_9 : decode b_q_type 9 = .ok (.if_icmp .gt 12, 3) := by decide +kernel
theorem d_q_type_12 : decode b_q_type 12 = .ok (.aload_n 0, 1) := by decide +kernel
theorem d_q_type_13 : decode b_q_type 13 = .ok (.getfield 59, 3) := by decide +kernel
theorem d_q_type_16 : decode b_q_type 16 = .ok (.bipush 45, 2) := by decide +kernel
theorem d_q_type_18 : decode b_q_type 18 = .ok (.if_icmp .lt 5, 3) := by decide +kernel
theorem d_q_type_21 : decode b_q_type 21 = .ok (.iconst 0, 1) := by decide +kernel
theorem d_q_type_22 : decode b_q_type 22 = .ok (.ireturn, 1) := by decide +kernel
theorem d_q_type_23 : decode b_q_type 23 = .ok (.aload_n 0, 1) := by decide +kernel
theorem d_q_type_24 : decode b_q_type 24 = .ok (.getfield 9, 3) := by decide +kernel
theorem d_q_type_27 : decode b_q_type 27 = .ok (.aload_n 0, 1) := by decide +kernel
theorem d_q_type_28 : decode b_q_type 28 = .ok (.getfield 59, 3) := by decide +kernel
theorem d_q_type_31 : decode b_q_type 31 = .ok (.iload_n 1, 1) := by decide +kernel
theorem d_q_type_32 : decode b_q_type 32 = .ok (.castore, 1) := by decide +kernel
theorem d_q_type_33 : decode b_q_type 33 = .ok (.aload_n 0, 1) := by decide +kernel
theorem d_q_type_34 : decode b_q_type 34 = .ok (.dup, 1) := by decide +kernel
theorem d_q_type_35 : decode b_q_type 35 = .ok (.getfield 59, 3) := by decide +kernel
theorem d_q_type_38 : decode b_q_type 38 = .ok (.iconst 1, 1) := by decide +kernel
theorem d_q_type_39 : decode b_q_type 39 = .ok (.iadd, 1) := by decide +kernel
theorem d_q_type_40 : decode b_q_type 40 = .ok (.putfield 59, 3) := by decide +kernel
theorem d_q_type_43 : decode b_q_type 43 = .ok (.iconst 1, 1) := by decide +kernel
theorem d_q_type_44 : decode b_q_type 44 = .ok (.ireturn, 1) := by decide +kernel
end
section
variable {p : Program} {l : Launch} {e : Env} {R : Room} {s : State} {m : MethodId} {args : Array Value} {below : List Frame} {meth : Method} {c : Code} {cells slots : Nat} {Q : State → Prop} {A : Nat → Prop} {H0 : Heap} {D : va_G}
set_option maxHeartbeats 1000000 in
set_option maxRecDepth 100000 in
theorem bd_q_type_no (cI cC : ClassId) (qo qt tc co tw td rg : Nat) (go ly ba : Nat) (ty : Nat → Nat) (x : Nat) (hx0 : x < 65536) (htc : tc ≤ 45) (hno : x < 32 ∨ 126 < x ∨ tc = 45) (S : CallFix p m c b_q_type 2 s args (cd_q_type :: WS) R_SquareCodes) (hRf : 0 ≤ R.frames) (hRl : 0 ≤ R.locals) (hRc : cells ≤ R.cells ∧ slots ≤ R.slots) (hK : va_K D classes [(cI, .int), (cC, .char)] s) (hA : ∀ q, H0.size ≤ q → A q) (kr : ∀ (pc : Nat) (ls : Array Slot) (H : Heap) (locs : List Loc), decode b_q_type pc = .ok (.ireturn, 1) → va_P D classes [(qo, .inr (7, [.ref qt, .int (nI tc), .ref go, .ref ly, .ref co, .ref tw, .ref td, .ref rg, .ref ba])), (qt, .inl (cC, 45, .inl (fun j => nI (ty j))))] H → va_D A [(qo, .inr (7, [.ref qt, .int (nI tc), .ref go, .ref ly, .ref co, .ref tw, .ref td, .ref rg, .ref ba])), (qt, .inl (cC, 45, .inl (fun j => nI (ty j))))] → va_S A H0 H locs → W p l e R s m args below meth c H locs cells slots Q (F0 m pc ls [.int (nI 0)])) : ∀ (ls : Array Slot) (H : Heap) (locs : List Loc), lv_has ls 2 [(0, .ref qo), (1, .int (nI x))] → va_P D classes [(qo, .inr (7, [.ref qt, .int (nI tc), .ref go, .ref ly, .ref co, .ref tw, .ref td, .ref rg, .ref ba])), (qt, .inl (cC, 45, .inl (fun j => nI (ty j))))] H → va_D A [(qo, .inr (7, [.ref qt, .int (nI tc), .ref go, .ref ly, .ref co, .ref tw, .ref td, .ref rg, .ref ba])), (qt, .inl (cC, 45, .inl (fun j => nI (ty j))))] → va_S A H0 H locs → W p l e R s m args below meth c H locs cells slots Q (F0 m 0 ls []) := by
  obtain ⟨hx, hb, hml, hown, hts⟩ := id S
  intro ls H locs hl hP hD hS
  refine lv_iload_n hx hb d_q_type_0 rfl (lv_at hl 1 rfl) ?_
  refine lv_bipush (v := nI 32) hx hb d_q_type_1 (by decide) ?_
  refine n_icmp_lt hx hb d_q_type_3 (tgt := 21) rfl (by omega) (by omega) (fun g3 => ?_) (fun g3 => ?_)
  · skip
    refine lv_iconst (v := nI 0) hx hb d_q_type_21 (by decide) ?_
    exact kr _ ls H locs d_q_type_22 hP hD hS
  · skip
    refine lv_iload_n hx hb d_q_type_6 rfl (lv_at hl 1 rfl) ?_
    refine lv_bipush (v := nI 126) hx hb d_q_type_7 (by decide) ?_
    refine n_icmp_gt hx hb d_q_type_9 (tgt := 21) rfl (by omega) (by omega) (fun g9 => ?_) (fun g9 => ?_)
    · skip
      refine lv_iconst (v := nI 0) hx hb d_q_type_21 (by decide) ?_
      exact kr _ ls H locs d_q_type_22 hP hD hS
    · skip
      refine lv_aload_n hx hb d_q_type_12 rfl (lv_at hl 0 rfl) ?_
      refine n_get (C := R_SquareCodes) (T := F_SquareCodes) (N := 9) (v := .int (nI tc)) hx hb hts u_SquareCodes_in hown hK hP 0 rfl rfl 1 (by decide) kw_185 rfl d_q_type_13 ?_
      refine lv_bipush (v := nI 45) hx hb d_q_type_16 (by decide) ?_
      refine n_icmp_lt hx hb d_q_type_18 (tgt := 23) rfl (by omega) (by omega) (fun g18 => absurd g18 (by omega)) (fun g18 => ?_)
      refine lv_iconst (v := nI 0) hx hb d_q_type_21 (by decide) ?_
      exact kr _ ls H locs d_q_type_22 hP hD hS
set_option maxHeartbeats 1000000 in
set_option maxRecDepth 100000 in
theorem c_q_type_no (l : Launch) (D : va_G) (cI cC : ClassId) (qo qt tc co tw td rg : Nat) (go ly ba : Nat) (ty : Nat → Nat) (x : Nat) (hx0 : x < 65536) (htc : tc ≤ 45) (hno : x < 32 ∨ 126 < x ∨ tc = 45) (sz : Nat) : Met l y_q_type (cd_q_type :: WS) { frames := 0, cells := 0, slots := 0, locals := 0 } (va_Pc [.ref qo, .int (nI x)] (wP D [(qo, .inr (7, [.ref qt, .int (nI tc), .ref go, .ref ly, .ref co, .ref tw, .ref td, .ref rg, .ref ba])), (qt, .inl (cC, 45, .inl (fun j => nI (ty j))))] [(cI, .int), (cC, .char)] sz)) (wQi D (nI 0) [(qo, .inr (7, [.ref qt, .int (nI tc), .ref go, .ref ly, .ref co, .ref tw, .ref td, .ref rg, .ref ba])), (qt, .inl (cC, 45, .inl (fun j => nI (ty j))))] [(qo, .inr (7, [.ref qt, .int (nI tc), .ref go, .ref ly, .ref co, .ref tw, .ref td, .ref rg, .ref ba])), (qt, .inl (cC, 45, .inl (fun j => nI (ty j))))] sz) 0 0 (va_A [(qo, .inr (7, [.ref qt, .int (nI tc), .ref go, .ref ly, .ref co, .ref tw, .ref td, .ref rg, .ref ba])), (qt, .inl (cC, 45, .inl (fun j => nI (ty j))))] sz) := by
  refine Met.ofW (cc := b_q_type) (maxL := 2) (ret := (some .boolean)) (by decide) rfl ?_
  intro p e s m args below meth c s₁ B hml hv0
  obtain ⟨rfl, hP, hK, hD0, hsz⟩ := hv0
  have hts := atoms_spec (ws := cd_q_type :: WS) B.pre
  have hown : s.vm.findClass R_SquareCodes = some m.cls := findClass_of_methodNamed B.named
  have hlocks := B.notSynchronized
  subst hsz
  have hD := hD0.self (sz := s.heap.size)
  have hl := lv_entry ([.ref qo, .int (nI x)]) (n := 2) (Nat.le_of_ble_eq_true rfl)
  rw [lg_entry_eq]
  generalize (lg_sl ([.ref qo, .int (nI x)]) ++ List.replicate (2 - (lg_sl ([.ref qo, .int (nI x)])).length) Slot.unset).toArray = ls at hl ⊢
  refine bd_q_type_no cI cC qo qt tc co tw td rg go ly ba ty x hx0 htc hno ⟨B.exec, B.bytes, hml, hown, hts⟩ (Nat.le_refl _) (Nat.le_refl _) ⟨Nat.le_refl _, Nat.le_refl _⟩ hK (fun q h => Or.inr h) (fun pc ls H locs hd hP hD hS => ?_) ls _ _ hl hP hD (va_S.rf)
  exact W.zret B.exec B.bytes B.returns rfl (fun t ht _ => ⟨⟨_, (), rfl, rfl, (by have h9 := hP; rw [← ht] at h9; exact h9)⟩, hS.F ht⟩) hS.2.2 hd
end
section
variable {p : Program} {l : Launch} {e : Env} {R : Room} {s : State} {m : MethodId} {args : Array Value} {below : List Frame} {meth : Method} {c : Code} {cells slots : Nat} {Q : State → Prop} {A : Nat → Prop} {H0 : Heap} {D : va_G}
set_option maxHeartbeats 1000000 in
set_option maxRecDepth 100000 in
theorem bd_q_type_yes (cI cC : ClassId) (qo qt tc co tw td rg : Nat) (go ly ba : Nat) (ty : Nat → Nat) (x : Nat) (hx0 : 32 ≤ x) (hx1 : x ≤ 126) (htc : tc < 45) (S : CallFix p m c b_q_type 2 s args (cd_q_type :: WS) R_SquareCodes) (hRf : 0 ≤ R.frames) (hRl : 0 ≤ R.locals) (hRc : cells ≤ R.cells ∧ slots ≤ R.slots) (hK : va_K D classes [(cI, .int), (cC, .char)] s) (hA : ∀ q, H0.size ≤ q → A q) (kr : ∀ (pc : Nat) (ls : Array Slot) (H : Heap) (locs : List Loc), decode b_q_type pc = .ok (.ireturn, 1) → va_P D classes [(qo, .inr (7, [.ref qt, .int (nI (tc + 1)), .ref go, .ref ly, .ref co, .ref tw, .ref td, .ref rg, .ref ba])), (qt, .inl (cC, 45, .inl (fun j => nI ((va_up ty tc x) j))))] H → va_D A [(qo, .inr (7, [.ref qt, .int (nI (tc + 1)), .ref go, .ref ly, .ref co, .ref tw, .ref td, .ref rg, .ref ba])), (qt, .inl (cC, 45, .inl (fun j => nI ((va_up ty tc x) j))))] → va_S A H0 H locs → W p l e R s m args below meth c H locs cells slots Q (F0 m pc ls [.int (nI 1)])) : ∀ (ls : Array Slot) (H : Heap) (locs : List Loc), lv_has ls 2 [(0, .ref qo), (1, .int (nI x))] → va_P D classes [(qo, .inr (7, [.ref qt, .int (nI tc), .ref go, .ref ly, .ref co, .ref tw, .ref td, .ref rg, .ref ba])), (qt, .inl (cC, 45, .inl (fun j => nI (ty j))))] H → va_D A [(qo, .inr (7, [.ref qt, .int (nI tc), .ref go, .ref ly, .ref co, .ref tw, .ref td, .ref rg, .ref ba])), (qt, .inl (cC, 45, .inl (fun j => nI (ty j))))] → va_S A H0 H locs → W p l e R s m args below meth c H locs cells slots Q (F0 m 0 ls []) := by
  obtain ⟨hx, hb, hml, hown, hts⟩ := id S
  intro ls H locs hl hP hD hS
  refine lv_iload_n hx hb d_q_type_0 rfl (lv_at hl 1 rfl) ?_
  refine lv_bipush (v := nI 32) hx hb d_q_type_1 (by decide) ?_
  refine n_icmp_lt hx hb d_q_type_3 (tgt := 21) rfl (by omega) (by omega) (fun g3 => absurd g3 (by omega)) (fun g3 => ?_)
  refine lv_iload_n hx hb d_q_type_6 rfl (lv_at hl 1 rfl) ?_
  refine lv_bipush (v := nI 126) hx hb d_q_type_7 (by decide) ?_
  refine n_icmp_gt hx hb d_q_type_9 (tgt := 21) rfl (by omega) (by omega) (fun g9 => absurd g9 (by omega)) (fun g9 => ?_)
  refine lv_aload_n hx hb d_q_type_12 rfl (lv_at hl 0 rfl) ?_
  refine n_get (C := R_SquareCodes) (T := F_SquareCodes) (N := 9) (v := .int (nI tc)) hx hb hts u_SquareCodes_in hown hK hP 0 rfl rfl 1 (by decide) kw_185 rfl d_q_type_13 ?_
  refine lv_bipush (v := nI 45) hx hb d_q_type_16 (by decide) ?_
  refine n_icmp_lt hx hb d_q_type_18 (tgt := 23) rfl (by omega) (by omega) (fun g18 => ?_) (fun g18 => absurd g18 (by omega))
  refine lv_aload_n hx hb d_q_type_23 rfl (lv_at hl 0 rfl) ?_
  refine n_get (C := R_SquareCodes) (T := F_SquareCodes) (N := 9) (v := .ref qt) hx hb hts u_SquareCodes_in hown hK hP 0 rfl rfl 0 (by decide) kw_184 rfl d_q_type_24 ?_
  refine lv_aload_n hx hb d_q_type_27 rfl (lv_at hl 0 rfl) ?_
  refine n_get (C := R_SquareCodes) (T := F_SquareCodes) (N := 9) (v := .int (nI tc)) hx hb hts u_SquareCodes_in hown hK hP 0 rfl rfl 1 (by decide) kw_185 rfl d_q_type_28 ?_
  refine lv_iload_n hx hb d_q_type_31 rfl (lv_at hl 1 rfl) ?_
  refine n_cast hx hb hK hP hD hS 1 1 rfl rfl (by omega) (by decide) (by omega) d_q_type_32 (fun H locs hP hD hS => ?_)
  have hP : va_P D classes [(qo, .inr (7, [.ref qt, .int (nI tc), .ref go, .ref ly, .ref co, .ref tw, .ref td, .ref rg, .ref ba])), (qt, .inl (cC, 45, .inl (fun j => nI ((va_up ty tc x) j))))] H := hP
  have hD : va_D A [(qo, .inr (7, [.ref qt, .int (nI tc), .ref go, .ref ly, .ref co, .ref tw, .ref td, .ref rg, .ref ba])), (qt, .inl (cC, 45, .inl (fun j => nI ((va_up ty tc x) j))))] := hD
  refine lv_aload_n hx hb d_q_type_33 rfl (lv_at hl 0 rfl) ?_
  refine lv_dup hx hb d_q_type_34 rfl ?_
  refine n_get (C := R_SquareCodes) (T := F_SquareCodes) (N := 9) (v := .int (nI tc)) hx hb hts u_SquareCodes_in hown hK hP 0 rfl rfl 1 (by decide) kw_185 rfl d_q_type_35 ?_
  refine lv_iconst (v := nI 1) hx hb d_q_type_38 (by decide) ?_
  refine n_iadd hx hb d_q_type_39 ?_
  refine n_put (C := R_SquareCodes) (T := F_SquareCodes) (N := 9) (v := .int (nI (tc + 1))) hx hb hts u_SquareCodes_in t_SquareCodes t_SquareCodes_ok n_SquareCodes hown hK hP hD hS 0 rfl rfl 1 (by decide) kw_185 rfl rfl rfl (Nat.le_of_ble_eq_true rfl) d_q_type_40 (fun H locs hP hD hS => ?_)
  have hP : va_P D classes [(qo, .inr (7, [.ref qt, .int (nI (tc + 1)), .ref go, .ref ly, .ref co, .ref tw, .ref td, .ref rg, .ref ba])), (qt, .inl (cC, 45, .inl (fun j => nI ((va_up ty tc x) j))))] H := hP
  have hD : va_D A [(qo, .inr (7, [.ref qt, .int (nI (tc + 1)), .ref go, .ref ly, .ref co, .ref tw, .ref td, .ref rg, .ref ba])), (qt, .inl (cC, 45, .inl (fun j => nI ((va_up ty tc x) j))))] := hD
  refine lv_iconst (v := nI 1) hx hb d_q_type_43 (by decide) ?_
  exact kr _ ls H locs d_q_type_44 hP hD hS
set_option maxHeartbeats 1000000 in
set_option maxRecDepth 100000 in
theorem c_q_type_yes (l : Launch) (D : va_G) (cI cC : ClassId) (qo qt tc co tw td rg : Nat) (go ly ba : Nat) (ty : Nat → Nat) (x : Nat) (hx0 : 32 ≤ x) (hx1 : x ≤ 126) (htc : tc < 45) (sz : Nat) : Met l y_q_type (cd_q_type :: WS) { frames := 0, cells := 0, slots := 0, locals := 0 } (va_Pc [.ref qo, .int (nI x)] (wP D [(qo, .inr (7, [.ref qt, .int (nI tc), .ref go, .ref ly, .ref co, .ref tw, .ref td, .ref rg, .ref ba])), (qt, .inl (cC, 45, .inl (fun j => nI (ty j))))] [(cI, .int), (cC, .char)] sz)) (wQi D (nI 1) [(qo, .inr (7, [.ref qt, .int (nI tc), .ref go, .ref ly, .ref co, .ref tw, .ref td, .ref rg, .ref ba])), (qt, .inl (cC, 45, .inl (fun j => nI (ty j))))] [(qo, .inr (7, [.ref qt, .int (nI (tc + 1)), .ref go, .ref ly, .ref co, .ref tw, .ref td, .ref rg, .ref ba])), (qt, .inl (cC, 45, .inl (fun j => nI ((va_up ty tc x) j))))] sz) 0 0 (va_A [(qo, .inr (7, [.ref qt, .int (nI tc), .ref go, .ref ly, .ref co, .ref tw, .ref td, .ref rg, .ref ba])), (qt, .inl (cC, 45, .inl (fun j => nI (ty j))))] sz) := by
  refine Met.ofW (cc := b_q_type) (maxL := 2) (ret := (some .boolean)) (by decide) rfl ?_
  intro p e s m args below meth c s₁ B hml hv0
  obtain ⟨rfl, hP, hK, hD0, hsz⟩ := hv0
  have hts := atoms_spec (ws := cd_q_type :: WS) B.pre
  have hown : s.vm.findClass R_SquareCodes = some m.cls := findClass_of_methodNamed B.named
  have hlocks := B.notSynchronized
  subst hsz
  have hD := hD0.self (sz := s.heap.size)
  have hl := lv_entry ([.ref qo, .int (nI x)]) (n := 2) (Nat.le_of_ble_eq_true rfl)
  rw [lg_entry_eq]
  generalize (lg_sl ([.ref qo, .int (nI x)]) ++ List.replicate (2 - (lg_sl ([.ref qo, .int (nI x)])).length) Slot.unset).toArray = ls at hl ⊢
  refine bd_q_type_yes cI cC qo qt tc co tw td rg go ly ba ty x hx0 hx1 htc ⟨B.exec, B.bytes, hml, hown, hts⟩ (Nat.le_refl _) (Nat.le_refl _) ⟨Nat.le_refl _, Nat.le_refl _⟩ hK (fun q h => Or.inr h) (fun pc ls H locs hd hP hD hS => ?_) ls _ _ hl hP hD (va_S.rf)
  exact W.zret B.exec B.bytes B.returns rfl (fun t ht _ => ⟨⟨_, (), rfl, rfl, (by have h9 := hP; rw [← ht] at h9; exact h9)⟩, hS.F ht⟩) hS.2.2 hd
end
section
theorem d_q_module_0 : decode b_q_module 0 = .ok (.iload_n 1, 1) := by decide +kernel
theorem d_q_module_1 : decode b_q_module 1 = .ok (.iload_n 2, 1) := by decide +kernel
theorem d_q_module_2 : decode b_q_module 2 = .ok (.invokestatic 94, 3) := by decide +kernel
theorem d_q_module_5 : decode b_q_module 5 = .ok (.ifCond .eq 15, 3) := by decide +kernel
theorem d_q_module_8 : decode b_q_module 8 = .ok (.aload_n 0, 1) := by decide +kernel
theorem d_q_module_9 : decode b_q_module 9 = .ok (.getfield 16, 3) := by decide +kernel
theorem d_q_module_12 : decode b_q_module 12 = .ok (.iload_n 1, 1) := by decide +kernel
theorem d_q_module_13 : decode b_q_module 13 = .ok (.iload_n 2, 1) := by decide +kernel
theorem d_q_module_14 : decode b_q_module 14 = .ok (.invokevirtual 98, 3) := by decide +kernel
theorem d_q_module_17 : decode b_q_module 17 = .ok (.goto 4, 3) := by decide +kernel
theorem d_q_module_20 : decode b_q_module 20 = .ok (.iconst (-1), 1) := by decide +kernel
theorem d_q_module_21 : decode b_q_module 21 = .ok (.ireturn, 1) := by decide +kernel
end
section
variable {p : Program} {l : Launch} {e : Env} {R : Room} {s : State} {m : MethodId} {args : Array Value} {below : List Frame} {meth : Method} {c : Code} {cells slots : Nat} {Q : State → Prop} {A : Nat → Prop} {H0 : Heap} {D : va_G}
set_option maxHeartbeats 1000000 in
set_option maxRecDepth 100000 in
theorem bd_q_module_in (cI cC : ClassId) (qo qt tc co tw td rg : Nat) (ly ba : Nat) (go ga : Nat) (ro : Nat → Nat) (r d : Nat) (hr : r < 21) (hd0 : d < 21) (hro : ∀ j, j < 21 → ro j < 2097152) (S : CallFix p m c b_q_module 3 s args (cd_q_module :: WS) R_SquareCodes) (hRf : 2 ≤ R.frames) (hRl : 41 ≤ R.locals) (hRc : cells ≤ R.cells ∧ slots ≤ R.slots) (hK : va_K D classes [(cI, .int), (cC, .char)] s) (kr : ∀ (pc : Nat) (ls : Array Slot) (H : Heap) (locs : List Loc), decode b_q_module pc = .ok (.ireturn, 1) → va_P D classes [(qo, .inr (7, [.ref qt, .int (nI tc), .ref go, .ref ly, .ref co, .ref tw, .ref td, .ref rg, .ref ba])), (go, .inr (2, [.ref ga])), (ga, .inl (cI, 21, .inl (fun j => nI (ro j))))] H → va_S A H0 H locs → W p l e R s m args below meth c H locs cells slots Q (F0 m pc ls [.int (nI (ro r / 2 ^ (20 - d) % 2))])) : ∀ (ls : Array Slot) (H : Heap) (locs : List Loc), lv_has ls 3 [(0, .ref qo), (1, .int (nI r)), (2, .int (nI d))] → va_P D classes [(qo, .inr (7, [.ref qt, .int (nI tc), .ref go, .ref ly, .ref co, .ref tw, .ref td, .ref rg, .ref ba])), (go, .inr (2, [.ref ga])), (ga, .inl (cI, 21, .inl (fun j => nI (ro j))))] H → va_S A H0 H locs → W p l e R s m args below meth c H locs cells slots Q (F0 m 0 ls []) := by
  obtain ⟨hx, hb, hml, hown, hts⟩ := id S
  intro ls H locs hl hP hS
  refine lv_iload_n hx hb d_q_module_0 rfl (lv_at hl 1 rfl) ?_
  refine lv_iload_n hx hb d_q_module_1 rfl (lv_at hl 2 rfl) ?_
  refine q_pureS (n := 2) (As := [.int (nI r), .int (nI d)]) (rest := []) S (c_q_isInside l (nI r) (nI d)) (q_goodS kw_220 kw_221 kw_1 kw_222) (by decide +kernel) rfl rfl ⟨Nat.le_trans (Nat.le_of_ble_eq_true rfl) hRf, Nat.le_trans (Nat.le_of_ble_eq_true rfl) hRl⟩ rfl hl.1 rfl (Nat.le_of_ble_eq_true rfl) d_q_module_2 hRc hS (fun H locs hkp hS => ?_)
  replace hP := hP.kept (fun k q hq => hkp q.1 (hP k q hq).lt)
  refine n_topn (show bN (isL (nI r) ∧ isL (nI d)) = 1 from (bN_t (isL2_nI hr hd0))) ?_
  refine n_if_eq hx hb d_q_module_5 (tgt := 20) rfl (by omega) (fun g5 => absurd g5 (by decide)) (fun g5 => ?_)
  refine lv_aload_n hx hb d_q_module_8 rfl (lv_at hl 0 rfl) ?_
  refine n_get (C := R_SquareCodes) (T := F_SquareCodes) (N := 9) (v := .ref go) hx hb hts u_SquareCodes_in hown hK hP 0 rfl rfl 2 (by decide) kw_186 rfl d_q_module_9 ?_
  refine lv_iload_n hx hb d_q_module_12 rfl (lv_at hl 1 rfl) ?_
  refine lv_iload_n hx hb d_q_module_13 rfl (lv_at hl 2 rfl) ?_
  refine q_readV (n := 2) (As := [.int (nI r), .int (nI d)]) (rest := []) (wc := [(go, .inr (2, [.ref ga])), (ga, .inl (cI, 21, .inl (fun j => nI (ro j))))]) S (c_q_Grid_at l D cI cC go ga ro r d hr hd0 hro) hK hP (q0 := 1) rfl rfl [1, 2] rfl (q_goodV kw_226 kw_227 kw_228 kw_2 kw_229) (by decide +kernel) rfl rfl rfl ⟨Nat.le_trans (Nat.le_of_ble_eq_true rfl) hRf, Nat.le_trans (Nat.le_of_ble_eq_true rfl) hRl⟩ rfl hl.1 rfl (Nat.le_of_ble_eq_true rfl) d_q_module_14 hRc hS (fun H locs hP hS => ?_)
  refine lv_goto hx hb d_q_module_17 (tgt := 21) rfl ?_
  exact kr _ ls H locs d_q_module_21 hP hS
set_option maxHeartbeats 1000000 in
set_option maxRecDepth 100000 in
theorem c_q_module_in (l : Launch) (D : va_G) (cI cC : ClassId) (qo qt tc co tw td rg : Nat) (ly ba : Nat) (go ga : Nat) (ro : Nat → Nat) (r d : Nat) (hr : r < 21) (hd0 : d < 21) (hro : ∀ j, j < 21 → ro j < 2097152) : Met l y_q_module (cd_q_module :: WS) { frames := 2, cells := 0, slots := 0, locals := 41 } (va_Pc [.ref qo, .int (nI r), .int (nI d)] (rP D [(qo, .inr (7, [.ref qt, .int (nI tc), .ref go, .ref ly, .ref co, .ref tw, .ref td, .ref rg, .ref ba])), (go, .inr (2, [.ref ga])), (ga, .inl (cI, 21, .inl (fun j => nI (ro j))))] [(cI, .int), (cC, .char)])) (pQ (nI (ro r / 2 ^ (20 - d) % 2))) 0 0 noA := by
  refine Met.ofW (cc := b_q_module) (maxL := 3) (ret := (some .int)) (by decide) rfl ?_
  intro p e s m args below meth c s₁ B hml hv0
  obtain ⟨rfl, hP, hK⟩ := hv0
  have hts := atoms_spec (ws := cd_q_module :: WS) B.pre
  have hown : s.vm.findClass R_SquareCodes = some m.cls := findClass_of_methodNamed B.named
  have hlocks := B.notSynchronized
  have hl := lv_entry ([.ref qo, .int (nI r), .int (nI d)]) (n := 3) (Nat.le_of_ble_eq_true rfl)
  rw [lg_entry_eq]
  generalize (lg_sl ([.ref qo, .int (nI r), .int (nI d)]) ++ List.replicate (3 - (lg_sl ([.ref qo, .int (nI r), .int (nI d)])).length) Slot.unset).toArray = ls at hl ⊢
  refine bd_q_module_in cI cC qo qt tc co tw td rg ly ba go ga ro r d hr hd0 hro ⟨B.exec, B.bytes, hml, hown, hts⟩ (Nat.le_refl _) (Nat.le_refl _) ⟨Nat.le_refl _, Nat.le_refl _⟩ hK (fun pc ls H locs hd hP hS => ?_) ls _ _ hl hP (va_S.rf (A := noA))
  exact W.iret B.exec B.bytes B.returns (fun t ht _ => ⟨⟨_, (), rfl, rfl, trivial⟩, hS.F ht⟩) hS.2.2 hd
end
section
variable {p : Program} {l : Launch} {e : Env} {R : Room} {s : State} {m : MethodId} {args : Array Value} {below : List Frame} {meth : Method} {c : Code} {cells slots : Nat} {Q : State → Prop} {A : Nat → Prop} {H0 : Heap} {D : va_G}
set_option maxHeartbeats 1000000 in
set_option maxRecDepth 100000 in
theorem bd_q_module_out (cI cC : ClassId) (qo qt tc co tw td rg : Nat) (ly ba : Nat) (go ga : Nat) (ro : Nat → Nat) (r d : Int32) (ho : ¬ (isL r ∧ isL d)) (S : CallFix p m c b_q_module 3 s args (cd_q_module :: WS) R_SquareCodes) (hRf : 2 ≤ R.frames) (hRl : 41 ≤ R.locals) (hRc : cells ≤ R.cells ∧ slots ≤ R.slots) (hK : va_K D classes [(cI, .int), (cC, .char)] s) (kr : ∀ (pc : Nat) (ls : Array Slot) (H : Heap) (locs : List Loc), decode b_q_module pc = .ok (.ireturn, 1) → va_P D classes [(qo, .inr (7, [.ref qt, .int (nI tc), .ref go, .ref ly, .ref co, .ref tw, .ref td, .ref rg, .ref ba])), (go, .inr (2, [.ref ga])), (ga, .inl (cI, 21, .inl (fun j => nI (ro j))))] H → va_S A H0 H locs → W p l e R s m args below meth c H locs cells slots Q (F0 m pc ls [.int (-1)])) : ∀ (ls : Array Slot) (H : Heap) (locs : List Loc), lv_has ls 3 [(0, .ref qo), (1, .int r), (2, .int d)] → va_P D classes [(qo, .inr (7, [.ref qt, .int (nI tc), .ref go, .ref ly, .ref co, .ref tw, .ref td, .ref rg, .ref ba])), (go, .inr (2, [.ref ga])), (ga, .inl (cI, 21, .inl (fun j => nI (ro j))))] H → va_S A H0 H locs → W p l e R s m args below meth c H locs cells slots Q (F0 m 0 ls []) := by
  obtain ⟨hx, hb, hml, hown, hts⟩ := id S
  intro ls H locs hl hP hS
  refine lv_iload_n hx hb d_q_module_0 rfl (lv_at hl 1 rfl) ?_
  refine lv_iload_n hx hb d_q_module_1 rfl (lv_at hl 2 rfl) ?_
  refine q_pureS (n := 2) (As := [.int r, .int d]) (rest := []) S (c_q_isInside l r d) (q_goodS kw_220 kw_221 kw_1 kw_222) (by decide +kernel) rfl rfl ⟨Nat.le_trans (Nat.le_of_ble_eq_true rfl) hRf, Nat.le_trans (Nat.le_of_ble_eq_true rfl) hRl⟩ rfl hl.1 rfl (Nat.le_of_ble_eq_true rfl) d_q_module_2 hRc hS (fun H locs hkp hS => ?_)
  replace hP := hP.kept (fun k q hq => hkp q.1 (hP k q hq).lt)
  refine n_topn (show bN (isL r ∧ isL d) = 0 from (bN_f ho)) ?_
  refine n_if_eq hx hb d_q_module_5 (tgt := 20) rfl (by omega) (fun g5 => ?_) (fun g5 => absurd g5 (by decide))
  refine lv_iconst (v := (-1)) hx hb d_q_module_20 (by decide) ?_
  exact kr _ ls H locs d_q_module_21 hP hS
set_option maxHeartbeats 1000000 in
set_option maxRecDepth 100000 in
theorem c_q_module_out (l : Launch) (D : va_G) (cI cC : ClassId) (qo qt tc co tw td rg : Nat) (ly ba : Nat) (go ga : Nat) (ro : Nat → Nat) (r d : Int32) (ho : ¬ (isL r ∧ isL d)) : Met l y_q_module (cd_q_module :: WS) { frames := 2, cells := 0, slots := 0, locals := 41 } (va_Pc [.ref qo, .int r, .int d] (rP D [(qo, .inr (7, [.ref qt, .int (nI tc), .ref go, .ref ly, .ref co, .ref tw, .ref td, .ref rg, .ref ba])), (go, .inr (2, [.ref ga])), (ga, .inl (cI, 21, .inl (fun j => nI (ro j))))] [(cI, .int), (cC, .char)])) (pQ (-1)) 0 0 noA := by
  refine Met.ofW (cc := b_q_module) (maxL := 3) (ret := (some .int)) (by decide) rfl ?_
  intro p e s m args below meth c s₁ B hml hv0
  obtain ⟨rfl, hP, hK⟩ := hv0
  have hts := atoms_spec (ws := cd_q_module :: WS) B.pre
  have hown : s.vm.findClass R_SquareCodes = some m.cls := findClass_of_methodNamed B.named
  have hlocks := B.notSynchronized
  have hl := lv_entry ([.ref qo, .int r, .int d]) (n := 3) (Nat.le_of_ble_eq_true rfl)
  rw [lg_entry_eq]
  generalize (lg_sl ([.ref qo, .int r, .int d]) ++ List.replicate (3 - (lg_sl ([.ref qo, .int r, .int d])).length) Slot.unset).toArray = ls at hl ⊢
  refine bd_q_module_out cI cC qo qt tc co tw td rg ly ba go ga ro r d ho ⟨B.exec, B.bytes, hml, hown, hts⟩ (Nat.le_refl _) (Nat.le_refl _) ⟨Nat.le_refl _, Nat.le_refl _⟩ hK (fun pc ls H locs hd hP hS => ?_) ls _ _ hl hP (va_S.rf (A := noA))
  exact W.iret B.exec B.bytes B.returns (fun t ht _ => ⟨⟨_, (), rfl, rfl, trivial⟩, hS.F ht⟩) hS.2.2 hd
end
section
theorem d_q_row_0 : decode b_q_row 0 = .ok (.iload_n 1, 1) := by decide +kernel
theorem d_q_row_1 : decode b_q_row 1 = .ok (.invokestatic 108, 3) := by decide +kernel
theorem d_q_row_4 : decode b_q_row 4 = .ok (.ifCond .eq 14, 3) := by decide +kernel
theorem d_q_row_7 : decode b_q_row 7 = .ok (.aload_n 0, 1) := by decide +kernel
theorem d_q_row_8 : decode b_q_row 8 = .ok (.getfield 16, 3) := by decide +kernel
theorem d_q_row_11 : decode b_q_row 11 = .ok (.iload_n 1, 1) := by decide +kernel
theorem d_q_row_12 : decode b_q_row 12 = .ok (.invokevirtual 112, 3) := by decide +kernel
theorem d_q_row_15 : decode b_q_row 15 = .ok (.goto 4, 3) := by decide +kernel
theorem d_q_row_18 : decode b_q_row 18 = .ok (.iconst (-1), 1) := by decide +kernel
theorem d_q_row_19 : decode b_q_row 19 = .ok (.ireturn, 1) := by decide +kernel
end
section
variable {p : Program} {l : Launch} {e : Env} {R : Room} {s : State} {m : MethodId} {args : Array Value} {below : List Frame} {meth : Method} {c : Code} {cells slots : Nat} {Q : State → Prop} {A : Nat → Prop} {H0 : Heap} {D : va_G}
set_option maxHeartbeats 1000000 in
set_option maxRecDepth 100000 in
theorem bd_q_row_in (cI cC : ClassId) (qo qt tc co tw td rg : Nat) (ly ba : Nat) (go ga : Nat) (ro : Nat → Nat) (r : Nat) (hr : r < 21) (S : CallFix p m c b_q_row 2 s args (cd_q_row :: WS) R_SquareCodes) (hRf : 1 ≤ R.frames) (hRl : 21 ≤ R.locals) (hRc : cells ≤ R.cells ∧ slots ≤ R.slots) (hK : va_K D classes [(cI, .int), (cC, .char)] s) (kr : ∀ (pc : Nat) (ls : Array Slot) (H : Heap) (locs : List Loc), decode b_q_row pc = .ok (.ireturn, 1) → va_P D classes [(qo, .inr (7, [.ref qt, .int (nI tc), .ref go, .ref ly, .ref co, .ref tw, .ref td, .ref rg, .ref ba])), (go, .inr (2, [.ref ga])), (ga, .inl (cI, 21, .inl (fun j => nI (ro j))))] H → va_S A H0 H locs → W p l e R s m args below meth c H locs cells slots Q (F0 m pc ls [.int (nI (ro r))])) : ∀ (ls : Array Slot) (H : Heap) (locs : List Loc), lv_has ls 2 [(0, .ref qo), (1, .int (nI r))] → va_P D classes [(qo, .inr (7, [.ref qt, .int (nI tc), .ref go, .ref ly, .ref co, .ref tw, .ref td, .ref rg, .ref ba])), (go, .inr (2, [.ref ga])), (ga, .inl (cI, 21, .inl (fun j => nI (ro j))))] H → va_S A H0 H locs → W p l e R s m args below meth c H locs cells slots Q (F0 m 0 ls []) := by
  obtain ⟨hx, hb, hml, hown, hts⟩ := id S
  intro ls H locs hl hP hS
  refine lv_iload_n hx hb d_q_row_0 rfl (lv_at hl 1 rfl) ?_
  refine q_pureS (n := 1) (As := [.int (nI r)]) (rest := []) S (c_q_isLine l (nI r)) (q_goodS kw_223 kw_224 kw_1 kw_225) (by decide +kernel) rfl rfl ⟨Nat.le_trans (Nat.le_of_ble_eq_true rfl) hRf, Nat.le_trans (Nat.le_of_ble_eq_true rfl) hRl⟩ rfl hl.1 rfl (Nat.le_of_ble_eq_true rfl) d_q_row_1 hRc hS (fun H locs hkp hS => ?_)
  replace hP := hP.kept (fun k q hq => hkp q.1 (hP k q hq).lt)
  refine n_topn (show bN (isL (nI r)) = 1 from (bN_t (isL_nI hr))) ?_
  refine n_if_eq hx hb d_q_row_4 (tgt := 18) rfl (by omega) (fun g4 => absurd g4 (by decide)) (fun g4 => ?_)
  refine lv_aload_n hx hb d_q_row_7 rfl (lv_at hl 0 rfl) ?_
  refine n_get (C := R_SquareCodes) (T := F_SquareCodes) (N := 9) (v := .ref go) hx hb hts u_SquareCodes_in hown hK hP 0 rfl rfl 2 (by decide) kw_186 rfl d_q_row_8 ?_
  refine lv_iload_n hx hb d_q_row_11 rfl (lv_at hl 1 rfl) ?_
  refine q_readV (n := 1) (As := [.int (nI r)]) (rest := []) (wc := [(go, .inr (2, [.ref ga])), (ga, .inl (cI, 21, .inl (fun j => nI (ro j))))]) S (c_q_Grid_rowBits l D cI cC go ga ro r hr) hK hP (q0 := 1) rfl rfl [1, 2] rfl (q_goodV kw_234 kw_70 kw_71 kw_2 kw_72) (by decide +kernel) rfl rfl rfl ⟨Nat.le_trans (Nat.le_of_ble_eq_true rfl) hRf, Nat.le_trans (Nat.le_of_ble_eq_true rfl) hRl⟩ rfl hl.1 rfl (Nat.le_of_ble_eq_true rfl) d_q_row_12 hRc hS (fun H locs hP hS => ?_)
  refine lv_goto hx hb d_q_row_15 (tgt := 19) rfl ?_
  exact kr _ ls H locs d_q_row_19 hP hS
set_option maxHeartbeats 1000000 in
set_option maxRecDepth 100000 in
theorem c_q_row_in (l : Launch) (D : va_G) (cI cC : ClassId) (qo qt tc co tw td rg : Nat) (ly ba : Nat) (go ga : Nat) (ro : Nat → Nat) (r : Nat) (hr : r < 21) : Met l y_q_row (cd_q_row :: WS) { frames := 1, cells := 0, slots := 0, locals := 21 } (va_Pc [.ref qo, .int (nI r)] (rP D [(qo, .inr (7, [.ref qt, .int (nI tc), .ref go, .ref ly, .ref co, .ref tw, .ref td, .ref rg, .ref ba])), (go, .inr (2, [.ref ga])), (ga, .inl (cI, 21, .inl (fun j => nI (ro j))))] [(cI, .int), (cC, .char)])) (pQ (nI (ro r))) 0 0 noA := by
  refine Met.ofW (cc := b_q_row) (maxL := 2) (ret := (some .int)) (by decide) rfl ?_
  intro p e s m args below meth c s₁ B hml hv0
  obtain ⟨rfl, hP, hK⟩ := hv0
  have hts := atoms_spec (ws := cd_q_row :: WS) B.pre
  have hown : s.vm.findClass R_SquareCodes = some m.cls := findClass_of_methodNamed B.named
  have hlocks := B.notSynchronized
  have hl := lv_entry ([.ref qo, .int (nI r)]) (n := 2) (Nat.le_of_ble_eq_true rfl)
  rw [lg_entry_eq]
  generalize (lg_sl ([.ref qo, .int (nI r)]) ++ List.replicate (2 - (lg_sl ([.ref qo, .int (nI r)])).length) Slot.unset).toArray = ls at hl ⊢
  refine bd_q_row_in cI cC qo qt tc co tw td rg ly ba go ga ro r hr ⟨B.exec, B.bytes, hml, hown, hts⟩ (Nat.le_refl _) (Nat.le_refl _) ⟨Nat.le_refl _, Nat.le_refl _⟩ hK (fun pc ls H locs hd hP hS => ?_) ls _ _ hl hP (va_S.rf (A := noA))
  exact W.iret B.exec B.bytes B.returns (fun t ht _ => ⟨⟨_, (), rfl, rfl, trivial⟩, hS.F ht⟩) hS.2.2 hd
end
section
variable {p : Program} {l : Launch} {e : Env} {R : Room} {s : State} {m : MethodId} {args : Array Value} {below : List Frame} {meth : Method} {c : Code} {cells slots : Nat} {Q : State → Prop} {A : Nat → Prop} {H0 : Heap} {D : va_G}
set_option maxHeartbeats 1000000 in
set_option maxRecDepth 100000 in
theorem bd_q_row_out (cI cC : ClassId) (qo qt tc co tw td rg : Nat) (ly ba : Nat) (go ga : Nat) (ro : Nat → Nat) (r : Int32) (ho : ¬ isL r) (S : CallFix p m c b_q_row 2 s args (cd_q_row :: WS) R_SquareCodes) (hRf : 1 ≤ R.frames) (hRl : 21 ≤ R.locals) (hRc : cells ≤ R.cells ∧ slots ≤ R.slots) (hK : va_K D classes [(cI, .int), (cC, .char)] s) (kr : ∀ (pc : Nat) (ls : Array Slot) (H : Heap) (locs : List Loc), decode b_q_row pc = .ok (.ireturn, 1) → va_P D classes [(qo, .inr (7, [.ref qt, .int (nI tc), .ref go, .ref ly, .ref co, .ref tw, .ref td, .ref rg, .ref ba])), (go, .inr (2, [.ref ga])), (ga, .inl (cI, 21, .inl (fun j => nI (ro j))))] H → va_S A H0 H locs → W p l e R s m args below meth c H locs cells slots Q (F0 m pc ls [.int (-1)])) : ∀ (ls : Array Slot) (H : Heap) (locs : List Loc), lv_has ls 2 [(0, .ref qo), (1, .int r)] → va_P D classes [(qo, .inr (7, [.ref qt, .int (nI tc), .ref go, .ref ly, .ref co, .ref tw, .ref td, .ref rg, .ref ba])), (go, .inr (2, [.ref ga])), (ga, .inl (cI, 21, .inl (fun j => nI (ro j))))] H → va_S A H0 H locs → W p l e R s m args below meth c H locs cells slots Q (F0 m 0 ls []) := by
  obtain ⟨hx, hb, hml, hown, hts⟩ := id S
  intro ls H locs hl hP hS
  refine lv_iload_n hx hb d_q_row_0 rfl (lv_at hl 1 rfl) ?_
  refine q_pureS (n := 1) (As := [.int r]) (rest := []) S (c_q_isLine l r) (q_goodS kw_223 kw_224 kw_1 kw_225) (by decide +kernel) rfl rfl ⟨Nat.le_trans (Nat.le_of_ble_eq_true rfl) hRf, Nat.le_trans (Nat.le_of_ble_eq_true rfl) hRl⟩ rfl hl.1 rfl (Nat.le_of_ble_eq_true rfl) d_q_row_1 hRc hS (fun H locs hkp hS => ?_)
  replace hP := hP.kept (fun k q hq => hkp q.1 (hP k q hq).lt)
  refine n_topn (show bN (isL r) = 0 from (bN_f ho)) ?_
  refine n_if_eq hx hb d_q_row_4 (tgt := 18) rfl (by omega) (fun g4 => ?_) (fun g4 => absurd g4 (by decide))
  refine lv_iconst (v := (-1)) hx hb d_q_row_18 (by decide) ?_
  exact kr _ ls H locs d_q_row_19 hP hS
set_option maxHeartbeats 1000000 in
set_option maxRecDepth 100000 in
theorem c_q_row_out (l : Launch) (D : va_G) (cI cC : ClassId) (qo qt tc co tw td rg : Nat) (ly ba : Nat) (go ga : Nat) (ro : Nat → Nat) (r : Int32) (ho : ¬ isL r) : Met l y_q_row (cd_q_row :: WS) { frames := 1, cells := 0, slots := 0, locals := 21 } (va_Pc [.ref qo, .int r] (rP D [(qo, .inr (7, [.ref qt, .int (nI tc), .ref go, .ref ly, .ref co, .ref tw, .ref td, .ref rg, .ref ba])), (go, .inr (2, [.ref ga])), (ga, .inl (cI, 21, .inl (fun j => nI (ro j))))] [(cI, .int), (cC, .char)])) (pQ (-1)) 0 0 noA := by
  refine Met.ofW (cc := b_q_row) (maxL := 2) (ret := (some .int)) (by decide) rfl ?_
  intro p e s m args below meth c s₁ B hml hv0
  obtain ⟨rfl, hP, hK⟩ := hv0
  have hts := atoms_spec (ws := cd_q_row :: WS) B.pre
  have hown : s.vm.findClass R_SquareCodes = some m.cls := findClass_of_methodNamed B.named
  have hlocks := B.notSynchronized
  have hl := lv_entry ([.ref qo, .int r]) (n := 2) (Nat.le_of_ble_eq_true rfl)
  rw [lg_entry_eq]
  generalize (lg_sl ([.ref qo, .int r]) ++ List.replicate (2 - (lg_sl ([.ref qo, .int r])).length) Slot.unset).toArray = ls at hl ⊢
  refine bd_q_row_out cI cC qo qt tc co tw td rg ly ba go ga ro r ho ⟨B.exec, B.bytes, hml, hown, hts⟩ (Nat.le_refl _) (Nat.le_refl _) ⟨Nat.le_refl _, Nat.le_refl _⟩ hK (fun pc ls H locs hd hP hS => ?_) ls _ _ hl hP (va_S.rf (A := noA))
  exact W.iret B.exec B.bytes B.returns (fun t ht _ => ⟨⟨_, (), rfl, rfl, trivial⟩, hS.F ht⟩) hS.2.2 hd
end
section
theorem d_q_ugliness_0 : decode b_q_ugliness 0 = .ok (.aload_n 0, 1) := by decide +kernel
theorem d_q_ugliness_1 : decode b_q_ugliness 1 = .ok (.getfield 16, 3) := by decide +kernel
theorem d_q_ugliness_4 : decode b_q_ugliness 4 = .ok (.invokevirtual 115, 3) := by decide +kernel
theorem d_q_ugliness_7 : decode b_q_ugliness 7 = .ok (.ireturn, 1) := by decide +kernel
end
section
variable {p : Program} {l : Launch} {e : Env} {R : Room} {s : State} {m : MethodId} {args : Array Value} {below : List Frame} {meth : Method} {c : Code} {cells slots : Nat} {Q : State → Prop} {A : Nat → Prop} {H0 : Heap} {D : va_G}
set_option maxHeartbeats 1000000 in
set_option maxRecDepth 100000 in
theorem bd_q_ugliness (cI cC : ClassId) (qo qt tc co tw td rg : Nat) (ly ba : Nat) (go ga : Nat) (ro : Nat → Nat) (hro : ∀ j, j < 21 → ro j < 2097152) (S : CallFix p m c b_q_ugliness 1 s args (cd_q_ugliness :: WS) R_SquareCodes) (hRf : 3 ≤ R.frames) (hRl : 104 ≤ R.locals) (hRc : cells ≤ R.cells ∧ slots ≤ R.slots) (hK : va_K D classes [(cI, .int), (cC, .char)] s) (kr : ∀ (pc : Nat) (ls : Array Slot) (H : Heap) (locs : List Loc), decode b_q_ugliness pc = .ok (.ireturn, 1) → va_P D classes [(qo, .inr (7, [.ref qt, .int (nI tc), .ref go, .ref ly, .ref co, .ref tw, .ref td, .ref rg, .ref ba])), (go, .inr (2, [.ref ga])), (ga, .inl (cI, 21, .inl (fun j => nI (ro j))))] H → va_S A H0 H locs → W p l e R s m args below meth c H locs cells slots Q (F0 m pc ls [.int (nI (peN ro 21))])) : ∀ (ls : Array Slot) (H : Heap) (locs : List Loc), lv_has ls 1 [(0, .ref qo)] → va_P D classes [(qo, .inr (7, [.ref qt, .int (nI tc), .ref go, .ref ly, .ref co, .ref tw, .ref td, .ref rg, .ref ba])), (go, .inr (2, [.ref ga])), (ga, .inl (cI, 21, .inl (fun j => nI (ro j))))] H → va_S A H0 H locs → W p l e R s m args below meth c H locs cells slots Q (F0 m 0 ls []) := by
  obtain ⟨hx, hb, hml, hown, hts⟩ := id S
  intro ls H locs hl hP hS
  refine lv_aload_n hx hb d_q_ugliness_0 rfl (lv_at hl 0 rfl) ?_
  refine n_get (C := R_SquareCodes) (T := F_SquareCodes) (N := 9) (v := .ref go) hx hb hts u_SquareCodes_in hown hK hP 0 rfl rfl 2 (by decide) kw_186 rfl d_q_ugliness_1 ?_
  refine q_readV (n := 0) (As := []) (rest := []) (wc := [(go, .inr (2, [.ref ga])), (ga, .inl (cI, 21, .inl (fun j => nI (ro j))))]) S (c_q_Grid_penalty l D cI cC go ga ro hro) hK hP (q0 := 1) rfl rfl [1, 2] rfl (q_goodV kw_239 kw_240 kw_241 kw_2 kw_242) (by decide +kernel) rfl rfl rfl ⟨Nat.le_trans (Nat.le_of_ble_eq_true rfl) hRf, Nat.le_trans (Nat.le_of_ble_eq_true rfl) hRl⟩ rfl hl.1 rfl (Nat.le_of_ble_eq_true rfl) d_q_ugliness_4 hRc hS (fun H locs hP hS => ?_)
  exact kr _ ls H locs d_q_ugliness_7 hP hS
set_option maxHeartbeats 1000000 in
set_option maxRecDepth 100000 in
theorem c_q_ugliness (l : Launch) (D : va_G) (cI cC : ClassId) (qo qt tc co tw td rg : Nat) (ly ba : Nat) (go ga : Nat) (ro : Nat → Nat) (hro : ∀ j, j < 21 → ro j < 2097152) : Met l y_q_ugliness (cd_q_ugliness :: WS) { frames := 3, cells := 0, slots := 0, locals := 104 } (va_Pc [.ref qo] (rP D [(qo, .inr (7, [.ref qt, .int (nI tc), .ref go, .ref ly, .ref co, .ref tw, .ref td, .ref rg, .ref ba])), (go, .inr (2, [.ref ga])), (ga, .inl (cI, 21, .inl (fun j => nI (ro j))))] [(cI, .int), (cC, .char)])) (pQ (nI (peN ro 21))) 0 0 noA := by
  refine Met.ofW (cc := b_q_ugliness) (maxL := 1) (ret := (some .int)) (by decide) rfl ?_
  intro p e s m args below meth c s₁ B hml hv0
  obtain ⟨rfl, hP, hK⟩ := hv0
  have hts := atoms_spec (ws := cd_q_ugliness :: WS) B.pre
  have hown : s.vm.findClass R_SquareCodes = some m.cls := findClass_of_methodNamed B.named
  have hlocks := B.notSynchronized
  have hl := lv_entry ([.ref qo]) (n := 1) (Nat.le_of_ble_eq_true rfl)
  rw [lg_entry_eq]
  generalize (lg_sl ([.ref qo]) ++ List.replicate (1 - (lg_sl ([.ref qo])).length) Slot.unset).toArray = ls at hl ⊢
  refine bd_q_ugliness cI cC qo qt tc co tw td rg ly ba go ga ro hro ⟨B.exec, B.bytes, hml, hown, hts⟩ (Nat.le_refl _) (Nat.le_refl _) ⟨Nat.le_refl _, Nat.le_refl _⟩ hK (fun pc ls H locs hd hP hS => ?_) ls _ _ hl hP (va_S.rf (A := noA))
  exact W.iret B.exec B.bytes B.returns (fun t ht _ => ⟨⟨_, (), rfl, rfl, trivial⟩, hS.F ht⟩) hS.2.2 hd
end
section
theorem d_q_text_0 : decode b_q_text 0 = .ok (.aload_n 0, 1) := by decide +kernel
theorem d_q_text_1 : decode b_q_text 1 = .ok (.getfield 51, 3) := by decide +kernel
theorem d_q_text_4 : decode b_q_text 4 = .ok (.iload_n 1, 1) := by decide +kernel
theorem d_q_text_5 : decode b_q_text 5 = .ok (.invokevirtual 173, 3) := by decide +kernel
theorem d_q_text_8 : decode b_q_text 8 = .ok (.ireturn, 1) := by decide +kernel
end
section
variable {p : Program} {l : Launch} {e : Env} {R : Room} {s : State} {m : MethodId} {args : Array Value} {below : List Frame} {meth : Method} {c : Code} {cells slots : Nat} {Q : State → Prop} {A : Nat → Prop} {H0 : Heap} {D : va_G}
set_option maxHeartbeats 1000000 in
set_option maxRecDepth 100000 in
theorem bd_q_text_in (cI cC : ClassId) (qo qt tc co tw td go ly ba : Nat) (rg r1 r2 r3 rc : Nat) (rh : Nat → Nat) (x : Nat) (hx0 : x < rc) (hrc0 : rc ≤ 64) (S : CallFix p m c b_q_text 2 s args (cd_q_text :: WS) R_SquareCodes) (hRf : 1 ≤ R.frames) (hRl : 21 ≤ R.locals) (hRc : cells ≤ R.cells ∧ slots ≤ R.slots) (hK : va_K D classes [(cI, .int), (cC, .char)] s) (kr : ∀ (pc : Nat) (ls : Array Slot) (H : Heap) (locs : List Loc), decode b_q_text pc = .ok (.ireturn, 1) → va_P D classes [(qo, .inr (7, [.ref qt, .int (nI tc), .ref go, .ref ly, .ref co, .ref tw, .ref td, .ref rg, .ref ba])), (rg, .inr (4, [.ref r1, .ref r2, .ref r3, .int (nI rc)])), (r3, .inl (cC, 64, .inl (fun j => nI (rh j))))] H → va_S A H0 H locs → W p l e R s m args below meth c H locs cells slots Q (F0 m pc ls [.int (nI (rh x))])) : ∀ (ls : Array Slot) (H : Heap) (locs : List Loc), lv_has ls 2 [(0, .ref qo), (1, .int (nI x))] → va_P D classes [(qo, .inr (7, [.ref qt, .int (nI tc), .ref go, .ref ly, .ref co, .ref tw, .ref td, .ref rg, .ref ba])), (rg, .inr (4, [.ref r1, .ref r2, .ref r3, .int (nI rc)])), (r3, .inl (cC, 64, .inl (fun j => nI (rh j))))] H → va_S A H0 H locs → W p l e R s m args below meth c H locs cells slots Q (F0 m 0 ls []) := by
  obtain ⟨hx, hb, hml, hown, hts⟩ := id S
  intro ls H locs hl hP hS
  refine lv_aload_n hx hb d_q_text_0 rfl (lv_at hl 0 rfl) ?_
  refine n_get (C := R_SquareCodes) (T := F_SquareCodes) (N := 9) (v := .ref rg) hx hb hts u_SquareCodes_in hown hK hP 0 rfl rfl 7 (by decide) kw_191 rfl d_q_text_1 ?_
  refine lv_iload_n hx hb d_q_text_4 rfl (lv_at hl 1 rfl) ?_
  refine q_readV (n := 1) (As := [.int (nI x)]) (rest := []) (wc := [(rg, .inr (4, [.ref r1, .ref r2, .ref r3, .int (nI rc)])), (r3, .inl (cC, 64, .inl (fun j => nI (rh j))))]) S (c_q_Reading_character_in l D cI cC rg r1 r2 r3 rc rh x hx0 hrc0) hK hP (q0 := 1) rfl rfl [1, 2] rfl (q_goodV kw_279 kw_280 kw_281 kw_8 kw_282) (by decide +kernel) rfl rfl rfl ⟨Nat.le_trans (Nat.le_of_ble_eq_true rfl) hRf, Nat.le_trans (Nat.le_of_ble_eq_true rfl) hRl⟩ rfl hl.1 rfl (Nat.le_of_ble_eq_true rfl) d_q_text_5 hRc hS (fun H locs hP hS => ?_)
  exact kr _ ls H locs d_q_text_8 hP hS
set_option maxHeartbeats 1000000 in
set_option maxRecDepth 100000 in
theorem c_q_text_in (l : Launch) (D : va_G) (cI cC : ClassId) (qo qt tc co tw td go ly ba : Nat) (rg r1 r2 r3 rc : Nat) (rh : Nat → Nat) (x : Nat) (hx0 : x < rc) (hrc0 : rc ≤ 64) : Met l y_q_text (cd_q_text :: WS) { frames := 1, cells := 0, slots := 0, locals := 21 } (va_Pc [.ref qo, .int (nI x)] (rP D [(qo, .inr (7, [.ref qt, .int (nI tc), .ref go, .ref ly, .ref co, .ref tw, .ref td, .ref rg, .ref ba])), (rg, .inr (4, [.ref r1, .ref r2, .ref r3, .int (nI rc)])), (r3, .inl (cC, 64, .inl (fun j => nI (rh j))))] [(cI, .int), (cC, .char)])) (pQ (nI (rh x))) 0 0 noA := by
  refine Met.ofW (cc := b_q_text) (maxL := 2) (ret := (some .int)) (by decide) rfl ?_
  intro p e s m args below meth c s₁ B hml hv0
  obtain ⟨rfl, hP, hK⟩ := hv0
  have hts := atoms_spec (ws := cd_q_text :: WS) B.pre
  have hown : s.vm.findClass R_SquareCodes = some m.cls := findClass_of_methodNamed B.named
  have hlocks := B.notSynchronized
  have hl := lv_entry ([.ref qo, .int (nI x)]) (n := 2) (Nat.le_of_ble_eq_true rfl)
  rw [lg_entry_eq]
  generalize (lg_sl ([.ref qo, .int (nI x)]) ++ List.replicate (2 - (lg_sl ([.ref qo, .int (nI x)])).length) Slot.unset).toArray = ls at hl ⊢
  refine bd_q_text_in cI cC qo qt tc co tw td go ly ba rg r1 r2 r3 rc rh x hx0 hrc0 ⟨B.exec, B.bytes, hml, hown, hts⟩ (Nat.le_refl _) (Nat.le_refl _) ⟨Nat.le_refl _, Nat.le_refl _⟩ hK (fun pc ls H locs hd hP hS => ?_) ls _ _ hl hP (va_S.rf (A := noA))
  exact W.iret B.exec B.bytes B.returns (fun t ht _ => ⟨⟨_, (), rfl, rfl, trivial⟩, hS.F ht⟩) hS.2.2 hd
end
section
variable {p : Program} {l : Launch} {e : Env} {R : Room} {s : State} {m : MethodId} {args : Array Value} {below : List Frame} {meth : Method} {c : Code} {cells slots : Nat} {Q : State → Prop} {A : Nat → Prop} {H0 : Heap} {D : va_G}
set_option maxHeartbeats 1000000 in
set_option maxRecDepth 100000 in
theorem bd_q_text_out (cI cC : ClassId) (qo qt tc co tw td go ly ba : Nat) (rg r1 r2 r3 rc : Nat) (rh : Nat → Nat) (x : Int32) (ho : x < 0 ∨ nI rc ≤ x) (S : CallFix p m c b_q_text 2 s args (cd_q_text :: WS) R_SquareCodes) (hRf : 1 ≤ R.frames) (hRl : 21 ≤ R.locals) (hRc : cells ≤ R.cells ∧ slots ≤ R.slots) (hK : va_K D classes [(cI, .int), (cC, .char)] s) (kr : ∀ (pc : Nat) (ls : Array Slot) (H : Heap) (locs : List Loc), decode b_q_text pc = .ok (.ireturn, 1) → va_P D classes [(qo, .inr (7, [.ref qt, .int (nI tc), .ref go, .ref ly, .ref co, .ref tw, .ref td, .ref rg, .ref ba])), (rg, .inr (4, [.ref r1, .ref r2, .ref r3, .int (nI rc)])), (r3, .inl (cC, 64, .inl (fun j => nI (rh j))))] H → va_S A H0 H locs → W p l e R s m args below meth c H locs cells slots Q (F0 m pc ls [.int (-1)])) : ∀ (ls : Array Slot) (H : Heap) (locs : List Loc), lv_has ls 2 [(0, .ref qo), (1, .int x)] → va_P D classes [(qo, .inr (7, [.ref qt, .int (nI tc), .ref go, .ref ly, .ref co, .ref tw, .ref td, .ref rg, .ref ba])), (rg, .inr (4, [.ref r1, .ref r2, .ref r3, .int (nI rc)])), (r3, .inl (cC, 64, .inl (fun j => nI (rh j))))] H → va_S A H0 H locs → W p l e R s m args below meth c H locs cells slots Q (F0 m 0 ls []) := by
  obtain ⟨hx, hb, hml, hown, hts⟩ := id S
  intro ls H locs hl hP hS
  refine lv_aload_n hx hb d_q_text_0 rfl (lv_at hl 0 rfl) ?_
  refine n_get (C := R_SquareCodes) (T := F_SquareCodes) (N := 9) (v := .ref rg) hx hb hts u_SquareCodes_in hown hK hP 0 rfl rfl 7 (by decide) kw_191 rfl d_q_text_1 ?_
  refine lv_iload_n hx hb d_q_text_4 rfl (lv_at hl 1 rfl) ?_
  refine q_readV (n := 1) (As := [.int x]) (rest := []) (wc := [(rg, .inr (4, [.ref r1, .ref r2, .ref r3, .int (nI rc)])), (r3, .inl (cC, 64, .inl (fun j => nI (rh j))))]) S (c_q_Reading_character_out l D cI cC rg r1 r2 r3 rc rh x ho) hK hP (q0 := 1) rfl rfl [1, 2] rfl (q_goodV kw_279 kw_280 kw_281 kw_8 kw_282) (by decide +kernel) rfl rfl rfl ⟨Nat.le_trans (Nat.le_of_ble_eq_true rfl) hRf, Nat.le_trans (Nat.le_of_ble_eq_true rfl) hRl⟩ rfl hl.1 rfl (Nat.le_of_ble_eq_true rfl) d_q_text_5 hRc hS (fun H locs hP hS => ?_)
  exact kr _ ls H locs d_q_text_8 hP hS
set_option maxHeartbeats 1000000 in
set_option maxRecDepth 100000 in
theorem c_q_text_out (l : Launch) (D : va_G) (cI cC : ClassId) (qo qt tc co tw td go ly ba : Nat) (rg r1 r2 r3 rc : Nat) (rh : Nat → Nat) (x : Int32) (ho : x < 0 ∨ nI rc ≤ x) : Met l y_q_text (cd_q_text :: WS) { frames := 1, cells := 0, slots := 0, locals := 21 } (va_Pc [.ref qo, .int x] (rP D [(qo, .inr (7, [.ref qt, .int (nI tc), .ref go, .ref ly, .ref co, .ref tw, .ref td, .ref rg, .ref ba])), (rg, .inr (4, [.ref r1, .ref r2, .ref r3, .int (nI rc)])), (r3, .inl (cC, 64, .inl (fun j => nI (rh j))))] [(cI, .int), (cC, .char)])) (pQ (-1)) 0 0 noA := by
  refine Met.ofW (cc := b_q_text) (maxL := 2) (ret := (some .int)) (by decide) rfl ?_
  intro p e s m args below meth c s₁ B hml hv0
  obtain ⟨rfl, hP, hK⟩ := hv0
  have hts := atoms_spec (ws := cd_q_text :: WS) B.pre
  have hown : s.vm.findClass R_SquareCodes = some m.cls := findClass_of_methodNamed B.named
  have hlocks := B.notSynchronized
  have hl := lv_entry ([.ref qo, .int x]) (n := 2) (Nat.le_of_ble_eq_true rfl)
  rw [lg_entry_eq]
  generalize (lg_sl ([.ref qo, .int x]) ++ List.replicate (2 - (lg_sl ([.ref qo, .int x])).length) Slot.unset).toArray = ls at hl ⊢
  refine bd_q_text_out cI cC qo qt tc co tw td go ly ba rg r1 r2 r3 rc rh x ho ⟨B.exec, B.bytes, hml, hown, hts⟩ (Nat.le_refl _) (Nat.le_refl _) ⟨Nat.le_refl _, Nat.le_refl _⟩ hK (fun pc ls H locs hd hP hS => ?_) ls _ _ hl hP (va_S.rf (A := noA))
  exact W.iret B.exec B.bytes B.returns (fun t ht _ => ⟨⟨_, (), rfl, rfl, trivial⟩, hS.F ht⟩) hS.2.2 hd
end
section
theorem d_q_told_0 : decode b_q_told 0 = .ok (.aload_n 0, 1) := by decide +kernel
theorem d_q_told_1 : decode b_q_told 1 = .ok (.getfield 51, 3) := by decide +kernel
theorem d_q_told_4 : decode b_q_told 4 = .ok (.iload_n 1, 1) := by decide +kernel
theorem d_q_told_5 : decode b_q_told 5 = .ok (.invokevirtual 176, 3) := by decide +kernel
theorem d_q_told_8 : decode b_q_told 8 = .ok (.ireturn, 1) := by decide +kernel
end
section
variable {p : Program} {l : Launch} {e : Env} {R : Room} {s : State} {m : MethodId} {args : Array Value} {below : List Frame} {meth : Method} {c : Code} {cells slots : Nat} {Q : State → Prop} {A : Nat → Prop} {H0 : Heap} {D : va_G}
set_option maxHeartbeats 1000000 in
set_option maxRecDepth 100000 in
theorem bd_q_told_in (cI cC : ClassId) (qo qt tc co tw td go ly ba : Nat) (rg r1 r2 r3 rc : Nat) (fa4 : Nat → Nat) (x : Nat) (hx0 : x < 4) (S : CallFix p m c b_q_told 2 s args (cd_q_told :: WS) R_SquareCodes) (hRf : 1 ≤ R.frames) (hRl : 21 ≤ R.locals) (hRc : cells ≤ R.cells ∧ slots ≤ R.slots) (hK : va_K D classes [(cI, .int), (cC, .char)] s) (kr : ∀ (pc : Nat) (ls : Array Slot) (H : Heap) (locs : List Loc), decode b_q_told pc = .ok (.ireturn, 1) → va_P D classes [(qo, .inr (7, [.ref qt, .int (nI tc), .ref go, .ref ly, .ref co, .ref tw, .ref td, .ref rg, .ref ba])), (rg, .inr (4, [.ref r1, .ref r2, .ref r3, .int (nI rc)])), (r1, .inl (cI, 4, .inl (fun j => nI (fa4 j))))] H → va_S A H0 H locs → W p l e R s m args below meth c H locs cells slots Q (F0 m pc ls [.int (nI (fa4 x))])) : ∀ (ls : Array Slot) (H : Heap) (locs : List Loc), lv_has ls 2 [(0, .ref qo), (1, .int (nI x))] → va_P D classes [(qo, .inr (7, [.ref qt, .int (nI tc), .ref go, .ref ly, .ref co, .ref tw, .ref td, .ref rg, .ref ba])), (rg, .inr (4, [.ref r1, .ref r2, .ref r3, .int (nI rc)])), (r1, .inl (cI, 4, .inl (fun j => nI (fa4 j))))] H → va_S A H0 H locs → W p l e R s m args below meth c H locs cells slots Q (F0 m 0 ls []) := by
  obtain ⟨hx, hb, hml, hown, hts⟩ := id S
  intro ls H locs hl hP hS
  refine lv_aload_n hx hb d_q_told_0 rfl (lv_at hl 0 rfl) ?_
  refine n_get (C := R_SquareCodes) (T := F_SquareCodes) (N := 9) (v := .ref rg) hx hb hts u_SquareCodes_in hown hK hP 0 rfl rfl 7 (by decide) kw_191 rfl d_q_told_1 ?_
  refine lv_iload_n hx hb d_q_told_4 rfl (lv_at hl 1 rfl) ?_
  refine q_readV (n := 1) (As := [.int (nI x)]) (rest := []) (wc := [(rg, .inr (4, [.ref r1, .ref r2, .ref r3, .int (nI rc)])), (r1, .inl (cI, 4, .inl (fun j => nI (fa4 j))))]) S (c_q_Reading_fact_in l D cI cC rg r1 r2 r3 rc fa4 x hx0) hK hP (q0 := 1) rfl rfl [1, 2] rfl (q_goodV kw_287 kw_288 kw_289 kw_8 kw_290) (by decide +kernel) rfl rfl rfl ⟨Nat.le_trans (Nat.le_of_ble_eq_true rfl) hRf, Nat.le_trans (Nat.le_of_ble_eq_true rfl) hRl⟩ rfl hl.1 rfl (Nat.le_of_ble_eq_true rfl) d_q_told_5 hRc hS (fun H locs hP hS => ?_)
  exact kr _ ls H locs d_q_told_8 hP hS
set_option maxHeartbeats 1000000 in
set_option maxRecDepth 100000 in
theorem c_q_told_in (l : Launch) (D : va_G) (cI cC : ClassId) (qo qt tc co tw td go ly ba : Nat) (rg r1 r2 r3 rc : Nat) (fa4 : Nat → Nat) (x : Nat) (hx0 : x < 4) : Met l y_q_told (cd_q_told :: WS) { frames := 1, cells := 0, slots := 0, locals := 21 } (va_Pc [.ref qo, .int (nI x)] (rP D [(qo, .inr (7, [.ref qt, .int (nI tc), .ref go, .ref ly, .ref co, .ref tw, .ref td, .ref rg, .ref ba])), (rg, .inr (4, [.ref r1, .ref r2, .ref r3, .int (nI rc)])), (r1, .inl (cI, 4, .inl (fun j => nI (fa4 j))))] [(cI, .int), (cC, .char)])) (pQ (nI (fa4 x))) 0 0 noA := by
  refine Met.ofW (cc := b_q_told) (maxL := 2) (ret := (some .int)) (by decide) rfl ?_
  intro p e s m args below meth c s₁ B hml hv0
  obtain ⟨rfl, hP, hK⟩ := hv0
  have hts := atoms_spec (ws := cd_q_told :: WS) B.pre
  have hown : s.vm.findClass R_SquareCodes = some m.cls := findClass_of_methodNamed B.named
  have hlocks := B.notSynchronized
  have hl := lv_entry ([.ref qo, .int (nI x)]) (n := 2) (Nat.le_of_ble_eq_true rfl)
  rw [lg_entry_eq]
  generalize (lg_sl ([.ref qo, .int (nI x)]) ++ List.replicate (2 - (lg_sl ([.ref qo, .int (nI x)])).length) Slot.unset).toArray = ls at hl ⊢
  refine bd_q_told_in cI cC qo qt tc co tw td go ly ba rg r1 r2 r3 rc fa4 x hx0 ⟨B.exec, B.bytes, hml, hown, hts⟩ (Nat.le_refl _) (Nat.le_refl _) ⟨Nat.le_refl _, Nat.le_refl _⟩ hK (fun pc ls H locs hd hP hS => ?_) ls _ _ hl hP (va_S.rf (A := noA))
  exact W.iret B.exec B.bytes B.returns (fun t ht _ => ⟨⟨_, (), rfl, rfl, trivial⟩, hS.F ht⟩) hS.2.2 hd
end
section
variable {p : Program} {l : Launch} {e : Env} {R : Room} {s : State} {m : MethodId} {args : Array Value} {below : List Frame} {meth : Method} {c : Code} {cells slots : Nat} {Q : State → Prop} {A : Nat → Prop} {H0 : Heap} {D : va_G}
set_option maxHeartbeats 1000000 in
set_option maxRecDepth 100000 in
theorem bd_q_told_out (cI cC : ClassId) (qo qt tc co tw td go ly ba : Nat) (rg r1 r2 r3 rc : Nat) (fa4 : Nat → Nat) (x : Int32) (ho : x < 0 ∨ nI 4 ≤ x) (S : CallFix p m c b_q_told 2 s args (cd_q_told :: WS) R_SquareCodes) (hRf : 1 ≤ R.frames) (hRl : 21 ≤ R.locals) (hRc : cells ≤ R.cells ∧ slots ≤ R.slots) (hK : va_K D classes [(cI, .int), (cC, .char)] s) (kr : ∀ (pc : Nat) (ls : Array Slot) (H : Heap) (locs : List Loc), decode b_q_told pc = .ok (.ireturn, 1) → va_P D classes [(qo, .inr (7, [.ref qt, .int (nI tc), .ref go, .ref ly, .ref co, .ref tw, .ref td, .ref rg, .ref ba])), (rg, .inr (4, [.ref r1, .ref r2, .ref r3, .int (nI rc)])), (r1, .inl (cI, 4, .inl (fun j => nI (fa4 j))))] H → va_S A H0 H locs → W p l e R s m args below meth c H locs cells slots Q (F0 m pc ls [.int (-1)])) : ∀ (ls : Array Slot) (H : Heap) (locs : List Loc), lv_has ls 2 [(0, .ref qo), (1, .int x)] → va_P D classes [(qo, .inr (7, [.ref qt, .int (nI tc), .ref go, .ref ly, .ref co, .ref tw, .ref td, .ref rg, .ref ba])), (rg, .inr (4, [.ref r1, .ref r2, .ref r3, .int (nI rc)])), (r1, .inl (cI, 4, .inl (fun j => nI (fa4 j))))] H → va_S A H0 H locs → W p l e R s m args below meth c H locs cells slots Q (F0 m 0 ls []) := by
  obtain ⟨hx, hb, hml, hown, hts⟩ := id S
  intro ls H locs hl hP hS
  refine lv_aload_n hx hb d_q_told_0 rfl (lv_at hl 0 rfl) ?_
  refine n_get (C := R_SquareCodes) (T := F_SquareCodes) (N := 9) (v := .ref rg) hx hb hts u_SquareCodes_in hown hK hP 0 rfl rfl 7 (by decide) kw_191 rfl d_q_told_1 ?_
  refine lv_iload_n hx hb d_q_told_4 rfl (lv_at hl 1 rfl) ?_
  refine q_readV (n := 1) (As := [.int x]) (rest := []) (wc := [(rg, .inr (4, [.ref r1, .ref r2, .ref r3, .int (nI rc)])), (r1, .inl (cI, 4, .inl (fun j => nI (fa4 j))))]) S (c_q_Reading_fact_out l D cI cC rg r1 r2 r3 rc fa4 x ho) hK hP (q0 := 1) rfl rfl [1, 2] rfl (q_goodV kw_287 kw_288 kw_289 kw_8 kw_290) (by decide +kernel) rfl rfl rfl ⟨Nat.le_trans (Nat.le_of_ble_eq_true rfl) hRf, Nat.le_trans (Nat.le_of_ble_eq_true rfl) hRl⟩ rfl hl.1 rfl (Nat.le_of_ble_eq_true rfl) d_q_told_5 hRc hS (fun H locs hP hS => ?_)
  exact kr _ ls H locs d_q_told_8 hP hS
set_option maxHeartbeats 1000000 in
set_option maxRecDepth 100000 in
theorem c_q_told_out (l : Launch) (D : va_G) (cI cC : ClassId) (qo qt tc co tw td go ly ba : Nat) (rg r1 r2 r3 rc : Nat) (fa4 : Nat → Nat) (x : Int32) (ho : x < 0 ∨ nI 4 ≤ x) : Met l y_q_told (cd_q_told :: WS) { frames := 1, cells := 0, slots := 0, locals := 21 } (va_Pc [.ref qo, .int x] (rP D [(qo, .inr (7, [.ref qt, .int (nI tc), .ref go, .ref ly, .ref co, .ref tw, .ref td, .ref rg, .ref ba])), (rg, .inr (4, [.ref r1, .ref r2, .ref r3, .int (nI rc)])), (r1, .inl (cI, 4, .inl (fun j => nI (fa4 j))))] [(cI, .int), (cC, .char)])) (pQ (-1)) 0 0 noA := by
  refine Met.ofW (cc := b_q_told) (maxL := 2) (ret := (some .int)) (by decide) rfl ?_
  intro p e s m args below meth c s₁ B hml hv0
  obtain ⟨rfl, hP, hK⟩ := hv0
  have hts := atoms_spec (ws := cd_q_told :: WS) B.pre
  have hown : s.vm.findClass R_SquareCodes = some m.cls := findClass_of_methodNamed B.named
  have hlocks := B.notSynchronized
  have hl := lv_entry ([.ref qo, .int x]) (n := 2) (Nat.le_of_ble_eq_true rfl)
  rw [lg_entry_eq]
  generalize (lg_sl ([.ref qo, .int x]) ++ List.replicate (2 - (lg_sl ([.ref qo, .int x])).length) Slot.unset).toArray = ls at hl ⊢
  refine bd_q_told_out cI cC qo qt tc co tw td go ly ba rg r1 r2 r3 rc fa4 x ho ⟨B.exec, B.bytes, hml, hown, hts⟩ (Nat.le_refl _) (Nat.le_refl _) ⟨Nat.le_refl _, Nat.le_refl _⟩ hK (fun pc ls H locs hd hP hS => ?_) ls _ _ hl hP (va_S.rf (A := noA))
  exact W.iret B.exec B.bytes B.returns (fun t ht _ => ⟨⟨_, (), rfl, rfl, trivial⟩, hS.F ht⟩) hS.2.2 hd
end
section
theorem d_q_taken_0 : decode b_q_taken 0 = .ok (.aload_n 0, 1) := by decide +kernel
theorem d_q_taken_1 : decode b_q_taken 1 = .ok (.getfield 51, 3) := by decide +kernel
theorem d_q_taken_4 : decode b_q_taken 4 = .ok (.iload_n 1, 1) := by decide +kernel
theorem d_q_taken_5 : decode b_q_taken 5 = .ok (.invokevirtual 179, 3) := by decide +kernel
theorem d_q_taken_8 : decode b_q_taken 8 = .ok (.ireturn, 1) := by decide +kernel
end
section
variable {p : Program} {l : Launch} {e : Env} {R : Room} {s : State} {m : MethodId} {args : Array Value} {below : List Frame} {meth : Method} {c : Code} {cells slots : Nat} {Q : State → Prop} {A : Nat → Prop} {H0 : Heap} {D : va_G}
set_option maxHeartbeats 1000000 in
set_option maxRecDepth 100000 in
theorem bd_q_taken_in (cI cC : ClassId) (qo qt tc co tw td go ly ba : Nat) (rg r1 r2 r3 rc : Nat) (rb : Nat → Nat) (x : Nat) (hx0 : x < 26) (S : CallFix p m c b_q_taken 2 s args (cd_q_taken :: WS) R_SquareCodes) (hRf : 1 ≤ R.frames) (hRl : 21 ≤ R.locals) (hRc : cells ≤ R.cells ∧ slots ≤ R.slots) (hK : va_K D classes [(cI, .int), (cC, .char)] s) (kr : ∀ (pc : Nat) (ls : Array Slot) (H : Heap) (locs : List Loc), decode b_q_taken pc = .ok (.ireturn, 1) → va_P D classes [(qo, .inr (7, [.ref qt, .int (nI tc), .ref go, .ref ly, .ref co, .ref tw, .ref td, .ref rg, .ref ba])), (rg, .inr (4, [.ref r1, .ref r2, .ref r3, .int (nI rc)])), (r2, .inl (cI, 26, .inl (fun j => nI (rb j))))] H → va_S A H0 H locs → W p l e R s m args below meth c H locs cells slots Q (F0 m pc ls [.int (nI (rb x))])) : ∀ (ls : Array Slot) (H : Heap) (locs : List Loc), lv_has ls 2 [(0, .ref qo), (1, .int (nI x))] → va_P D classes [(qo, .inr (7, [.ref qt, .int (nI tc), .ref go, .ref ly, .ref co, .ref tw, .ref td, .ref rg, .ref ba])), (rg, .inr (4, [.ref r1, .ref r2, .ref r3, .int (nI rc)])), (r2, .inl (cI, 26, .inl (fun j => nI (rb j))))] H → va_S A H0 H locs → W p l e R s m args below meth c H locs cells slots Q (F0 m 0 ls []) := by
  obtain ⟨hx, hb, hml, hown, hts⟩ := id S
  intro ls H locs hl hP hS
  refine lv_aload_n hx hb d_q_taken_0 rfl (lv_at hl 0 rfl) ?_
  refine n_get (C := R_SquareCodes) (T := F_SquareCodes) (N := 9) (v := .ref rg) hx hb hts u_SquareCodes_in hown hK hP 0 rfl rfl 7 (by decide) kw_191 rfl d_q_taken_1 ?_
  refine lv_iload_n hx hb d_q_taken_4 rfl (lv_at hl 1 rfl) ?_
  refine q_readV (n := 1) (As := [.int (nI x)]) (rest := []) (wc := [(rg, .inr (4, [.ref r1, .ref r2, .ref r3, .int (nI rc)])), (r2, .inl (cI, 26, .inl (fun j => nI (rb j))))]) S (c_q_Reading_byteAt_in l D cI cC rg r1 r2 r3 rc rb x hx0) hK hP (q0 := 1) rfl rfl [1, 2] rfl (q_goodV kw_295 kw_296 kw_297 kw_8 kw_298) (by decide +kernel) rfl rfl rfl ⟨Nat.le_trans (Nat.le_of_ble_eq_true rfl) hRf, Nat.le_trans (Nat.le_of_ble_eq_true rfl) hRl⟩ rfl hl.1 rfl (Nat.le_of_ble_eq_true rfl) d_q_taken_5 hRc hS (fun H locs hP hS => ?_)
  exact kr _ ls H locs d_q_taken_8 hP hS
set_option maxHeartbeats 1000000 in
set_option maxRecDepth 100000 in
theorem c_q_taken_in (l : Launch) (D : va_G) (cI cC : ClassId) (qo qt tc co tw td go ly ba : Nat) (rg r1 r2 r3 rc : Nat) (rb : Nat → Nat) (x : Nat) (hx0 : x < 26) : Met l y_q_taken (cd_q_taken :: WS) { frames := 1, cells := 0, slots := 0, locals := 21 } (va_Pc [.ref qo, .int (nI x)] (rP D [(qo, .inr (7, [.ref qt, .int (nI tc), .ref go, .ref ly, .ref co, .ref tw, .ref td, .ref rg, .ref ba])), (rg, .inr (4, [.ref r1, .ref r2, .ref r3, .int (nI rc)])), (r2, .inl (cI, 26, .inl (fun j => nI (rb j))))] [(cI, .int), (cC, .char)])) (pQ (nI (rb x))) 0 0 noA := by
  refine Met.ofW (cc := b_q_taken) (maxL := 2) (ret := (some .int)) (by decide) rfl ?_
  intro p e s m args below meth c s₁ B hml hv0
  obtain ⟨rfl, hP, hK⟩ := hv0
  have hts := atoms_spec (ws := cd_q_taken :: WS) B.pre
  have hown : s.vm.findClass R_SquareCodes = some m.cls := findClass_of_methodNamed B.named
  have hlocks := B.notSynchronized
  have hl := lv_entry ([.ref qo, .int (nI x)]) (n := 2) (Nat.le_of_ble_eq_true rfl)
  rw [lg_entry_eq]
  generalize (lg_sl ([.ref qo, .int (nI x)]) ++ List.replicate (2 - (lg_sl ([.ref qo, .int (nI x)])).length) Slot.unset).toArray = ls at hl ⊢
  refine bd_q_taken_in cI cC qo qt tc co tw td go ly ba rg r1 r2 r3 rc rb x hx0 ⟨B.exec, B.bytes, hml, hown, hts⟩ (Nat.le_refl _) (Nat.le_refl _) ⟨Nat.le_refl _, Nat.le_refl _⟩ hK (fun pc ls H locs hd hP hS => ?_) ls _ _ hl hP (va_S.rf (A := noA))
  exact W.iret B.exec B.bytes B.returns (fun t ht _ => ⟨⟨_, (), rfl, rfl, trivial⟩, hS.F ht⟩) hS.2.2 hd
end
section
variable {p : Program} {l : Launch} {e : Env} {R : Room} {s : State} {m : MethodId} {args : Array Value} {below : List Frame} {meth : Method} {c : Code} {cells slots : Nat} {Q : State → Prop} {A : Nat → Prop} {H0 : Heap} {D : va_G}
set_option maxHeartbeats 1000000 in
set_option maxRecDepth 100000 in
theorem bd_q_taken_out (cI cC : ClassId) (qo qt tc co tw td go ly ba : Nat) (rg r1 r2 r3 rc : Nat) (rb : Nat → Nat) (x : Int32) (ho : x < 0 ∨ nI 26 ≤ x) (S : CallFix p m c b_q_taken 2 s args (cd_q_taken :: WS) R_SquareCodes) (hRf : 1 ≤ R.frames) (hRl : 21 ≤ R.locals) (hRc : cells ≤ R.cells ∧ slots ≤ R.slots) (hK : va_K D classes [(cI, .int), (cC, .char)] s) (kr : ∀ (pc : Nat) (ls : Array Slot) (H : Heap) (locs : List Loc), decode b_q_taken pc = .ok (.ireturn, 1) → va_P D classes [(qo, .inr (7, [.ref qt, .int (nI tc), .ref go, .ref ly, .ref co, .ref tw, .ref td, .ref rg, .ref ba])), (rg, .inr (4, [.ref r1, .ref r2, .ref r3, .int (nI rc)])), (r2, .inl (cI, 26, .inl (fun j => nI (rb j))))] H → va_S A H0 H locs → W p l e R s m args below meth c H locs cells slots Q (F0 m pc ls [.int (-1)])) : ∀ (ls : Array Slot) (H : Heap) (locs : List Loc), lv_has ls 2 [(0, .ref qo), (1, .int x)] → va_P D classes [(qo, .inr (7, [.ref qt, .int (nI tc), .ref go, .ref ly, .ref co, .ref tw, .ref td, .ref rg, .ref ba])), (rg, .inr (4, [.ref r1, .ref r2, .ref r3, .int (nI rc)])), (r2, .inl (cI, 26, .inl (fun j => nI (rb j))))] H → va_S A H0 H locs → W p l e R s m args below meth c H locs cells slots Q (F0 m 0 ls []) := by
  obtain ⟨hx, hb, hml, hown, hts⟩ := id S
  intro ls H locs hl hP hS
  refine lv_aload_n hx hb d_q_taken_0 rfl (lv_at hl 0 rfl) ?_
  refine n_get (C := R_SquareCodes) (T := F_SquareCodes) (N := 9) (v := .ref rg) hx hb hts u_SquareCodes_in hown hK hP 0 rfl rfl 7 (by decide) kw_191 rfl d_q_taken_1 ?_
  refine lv_iload_n hx hb d_q_taken_4 rfl (lv_at hl 1 rfl) ?_
  refine q_readV (n := 1) (As := [.int x]) (rest := []) (wc := [(rg, .inr (4, [.ref r1, .ref r2, .ref r3, .int (nI rc)])), (r2, .inl (cI, 26, .inl (fun j => nI (rb j))))]) S (c_q_Reading_byteAt_out l D cI cC rg r1 r2 r3 rc rb x ho) hK hP (q0 := 1) rfl rfl [1, 2] rfl (q_goodV kw_295 kw_296 kw_297 kw_8 kw_298) (by decide +kernel) rfl rfl rfl ⟨Nat.le_trans (Nat.le_of_ble_eq_true rfl) hRf, Nat.le_trans (Nat.le_of_ble_eq_true rfl) hRl⟩ rfl hl.1 rfl (Nat.le_of_ble_eq_true rfl) d_q_taken_5 hRc hS (fun H locs hP hS => ?_)
  exact kr _ ls H locs d_q_taken_8 hP hS
set_option maxHeartbeats 1000000 in
set_option maxRecDepth 100000 in
theorem c_q_taken_out (l : Launch) (D : va_G) (cI cC : ClassId) (qo qt tc co tw td go ly ba : Nat) (rg r1 r2 r3 rc : Nat) (rb : Nat → Nat) (x : Int32) (ho : x < 0 ∨ nI 26 ≤ x) : Met l y_q_taken (cd_q_taken :: WS) { frames := 1, cells := 0, slots := 0, locals := 21 } (va_Pc [.ref qo, .int x] (rP D [(qo, .inr (7, [.ref qt, .int (nI tc), .ref go, .ref ly, .ref co, .ref tw, .ref td, .ref rg, .ref ba])), (rg, .inr (4, [.ref r1, .ref r2, .ref r3, .int (nI rc)])), (r2, .inl (cI, 26, .inl (fun j => nI (rb j))))] [(cI, .int), (cC, .char)])) (pQ (-1)) 0 0 noA := by
  refine Met.ofW (cc := b_q_taken) (maxL := 2) (ret := (some .int)) (by decide) rfl ?_
  intro p e s m args below meth c s₁ B hml hv0
  obtain ⟨rfl, hP, hK⟩ := hv0
  have hts := atoms_spec (ws := cd_q_taken :: WS) B.pre
  have hown : s.vm.findClass R_SquareCodes = some m.cls := findClass_of_methodNamed B.named
  have hlocks := B.notSynchronized
  have hl := lv_entry ([.ref qo, .int x]) (n := 2) (Nat.le_of_ble_eq_true rfl)
  rw [lg_entry_eq]
  generalize (lg_sl ([.ref qo, .int x]) ++ List.replicate (2 - (lg_sl ([.ref qo, .int x])).length) Slot.unset).toArray = ls at hl ⊢
  refine bd_q_taken_out cI cC qo qt tc co tw td go ly ba rg r1 r2 r3 rc rb x ho ⟨B.exec, B.bytes, hml, hown, hts⟩ (Nat.le_refl _) (Nat.le_refl _) ⟨Nat.le_refl _, Nat.le_refl _⟩ hK (fun pc ls H locs hd hP hS => ?_) ls _ _ hl hP (va_S.rf (A := noA))
  exact W.iret B.exec B.bytes B.returns (fun t ht _ => ⟨⟨_, (), rfl, rfl, trivial⟩, hS.F ht⟩) hS.2.2 hd
end
