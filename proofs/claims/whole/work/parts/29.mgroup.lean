theorem kw_794 : (Jvm.Cond.fieldLink "SquareCodesModel" (49 : Nat) "SquareCodesModel" "reading" "[I") ∈ WS := WS_tbl 794 (by decide +kernel) rfl
theorem kw_793 : (Jvm.Cond.fieldLink "SquareCodesModel" (161 : Nat) "SquareCodesModel" "found" "I") ∈ WS := WS_tbl 793 (by decide +kernel) rfl
theorem kw_992 : (Jvm.Cond.methodLink "SquareCodesModel" (164 : Nat) ({ cls := "SquareCodesModel", name := "character", desc := "(I)I" } : Jvm.MethodName)) ∈ WS := WS_tbl 992 (by decide +kernel) rfl
theorem kw_993 : (Jvm.Cond.static ({ cls := "SquareCodesModel", name := "character", desc := "(I)I" } : Jvm.MethodName)) ∈ WS := WS_tbl 993 (by decide +kernel) rfl
set_option maxRecDepth 1000000 in
theorem kw_994 : cd_m_character ∈ WS := WS_tbl 994 rfl rfl
theorem kw_980 : (Jvm.Cond.methodLink "SquareCodesModel" (158 : Nat) ({ cls := "SquareCodesModel", name := "next", desc := "(I)I" } : Jvm.MethodName)) ∈ WS := WS_tbl 980 (by decide +kernel) rfl
theorem kw_982 : (Jvm.Cond.instanceMethod ({ cls := "SquareCodesModel", name := "next", desc := "(I)I" } : Jvm.MethodName)) ∈ WS := WS_tbl 982 (by decide +kernel) rfl
theorem ks_38 : Cond.selects R_Model y_m_next y_m_next ∈ WS := WS_sel 38 (by decide +kernel) rfl
set_option maxRecDepth 1000000 in
theorem kw_983 : cd_m_next ∈ WS := WS_tbl 983 rfl rfl
section
theorem d_m_group_0 : decode b_m_group 0 = .ok (.aload_n 0, 1) := by decide +kernel
theorem d_m_group_1 : decode b_m_group 1 = .ok (.getfield 155, 3) := by decide +kernel
theorem d_m_group_4 : decode b_m_group 4 = .ok (.iload_n 3, 1) := by decide +kernel
theorem d_m_group_5 : decode b_m_group 5 = .ok (.iadd, 1) := by decide +kernel
theorem d_m_group_6 : decode b_m_group 6 = .ok (.bipush 8, 2) := by decide +kernel
theorem d_m_group_8 : decode b_m_group 8 = .ok (.iload 4, 2) := by decide +kernel
theorem d_m_group_10 : decode b_m_group 10 = .ok (.imul, 1) := by decide +kernel
theorem d_m_group_11 : decode b_m_group 11 = .ok (.if_icmp .le 5, 3) := by decide +kernel
theorem d_m_group_14 : decode b_m_group 14 = .ok (.iconst 0, 1) := by decide +kernel
theorem d_m_group_15 : decode b_m_group 15 = .ok (.ireturn, 1) := by decide +kernel
theorem d_m_group_16 : decode b_m_group 16 = .ok (.aload_n 0, 1) := by decide +kernel
theorem d_m_group_17 : decode b_m_group 17 = .ok (.iload_n 3, 1) := by decide +kernel
theorem d_m_group_18 : decode b_m_group 18 = .ok (.invokevirtual 158, 3) := by decide +kernel
theorem d_m_group_21 : decode b_m_group 21 = .ok (.istore 5, 2) := by decide +kernel
theorem d_m_group_23 : decode b_m_group 23 = .ok (.iload_n 1, 1) := by decide +kernel
theorem d_m_group_24 : decode b_m_group 24 = .ok (.iconst 1, 1) := by decide +kernel
theorem d_m_group_25 : decode b_m_group 25 = .ok (.isub, 1) := by decide +kernel
theorem d_m_group_26 : decode b_m_group 26 = .ok (.istore 6, 2) := by decide +kernel
theorem d_m_group_28 : decode b_m_group 28 = .ok (.iload 6, 2) := by decide +kernel
theorem d_m_group_30 : decode b_m_group 30 = .ok (.ifCond .lt 50, 3) := by decide +kernel
theorem d_m_group_33 : decode b_m_group 33 = .ok (.iload 5, 2) := by decide +kernel
theorem d_m_group_35 : decode b_m_group 35 = .ok (.iload_n 2, 1) := by decide +kernel
theorem d_m_group_36 : decode b_m_group 36 = .ok (.irem, 1) := by decide +kernel
theorem d_m_group_37 : decode b_m_group 37 = .ok (.istore 7, 2) := by decide +kernel
theorem d_m_group_39 : decode b_m_group 39 = .ok (.iload 5, 2) := by decide +kernel
theorem d_m_group_41 : decode b_m_group 41 = .ok (.iload_n 2, 1) := by decide +kernel
theorem d_m_group_42 : decode b_m_group 42 = .ok (.idiv, 1) := by decide +kernel
theorem d_m_group_43 : decode b_m_group 43 = .ok (.istore 5, 2) := by decide +kernel
theorem d_m_group_45 : decode b_m_group 45 = .ok (.aload_n 0, 1) := by decide +kernel
theorem d_m_group_46 : decode b_m_group 46 = .ok (.getfield 49, 3) := by decide +kernel
theorem d_m_group_49 : decode b_m_group 49 = .ok (.aload_n 0, 1) := by decide +kernel
theorem d_m_group_50 : decode b_m_group 50 = .ok (.getfield 161, 3) := by decide +kernel
theorem d_m_group_53 : decode b_m_group 53 = .ok (.iload 6, 2) := by decide +kernel
theorem d_m_group_55 : decode b_m_group 55 = .ok (.iadd, 1) := by decide +kernel
theorem d_m_group_56 : decode b_m_group 56 = .ok (.iload_n 2, 1) := by decide +kernel
theorem d_m_group_57 : decode b_m_group 57 = .ok (.sipush 256, 3) := by decide +kernel
theorem d_m_group_60 : decode b_m_group 60 = .ok (.if_icmp .ne 8, 3) := by decide +kernel
theorem d_m_group_63 : decode b_m_group 63 = .ok (.iload 7, 2) := by decide +kernel
theorem d_m_group_65 : decode b_m_group 65 = .ok (.goto 8, 3) := by decide +kernel
theorem d_m_group_68 : decode b_m_group 68 = .ok (.iload 7, 2) := by decide +kernel
theorem d_m_group_70 : decode b_m_group 70 = .ok (.invokestatic 164, 3) := by decide +kernel
theorem d_m_group_73 : decode b_m_group 73 = .ok (.iastore, 1) := by decide +kernel
theorem d_m_group_74 : decode b_m_group 74 = .ok (.iinc 6 (-1), 3) := by decide +kernel
theorem d_m_group_77 : decode b_m_group 77 = .ok (.goto (-49), 3) := by decide +kernel
theorem d_m_group_80 : decode b_m_group 80 = .ok (.aload_n 0, 1) := by decide +kernel
theorem d_m_group_81 : decode b_m_group 81 = .ok (.dup, 1) := by decide +kernel
theorem d_m_group_82 : decode b_m_group 82 = .ok (.getfield 161, 3) := by decide +kernel
theorem d_m_group_85 : decode b_m_group 85 = .ok (.iload_n 1, 1) := by decide +kernel
theorem d_m_group_86 : decode b_m_group 86 = .ok (.iadd, 1) := by decide +kernel
theorem d_m_group_87 : decode b_m_group 87 = .ok (.putfield 161, 3) := by decide +kernel
theorem d_m_group_90 : decode b_m_group 90 = .ok (.iload 5, 2) := by decide +kernel
theorem d_m_group_92 : decode b_m_group 92 = .ok (.ifCond .ne 7, 3) := by decide +kernel
theorem d_m_group_95 : decode b_m_group 95 = .ok (.iconst 1, 1) := by decide +kernel
theorem d_m_group_96 : decode b_m_group 96 = .ok (.goto 4, 3) := by decide +kernel
theorem d_m_group_99 : decode b_m_group 99 = .ok (.iconst 0, 1) := by decide +kernel
theorem d_m_group_100 : decode b_m_group 100 = .ok (.ireturn, 1) := by decide +kernel
end
section
variable {p : Program} {l : Launch} {e : Env} {R : Room} {s : State} {m : MethodId} {args : Array Value} {below : List Frame} {meth : Method} {c : Code} {cells slots : Nat} {Q : State → Prop} {A : Nat → Prop} {H0 : Heap} {D : va_G}
set_option maxHeartbeats 1000000 in
set_option maxRecDepth 100000 in
theorem bd_m_group_no (cI cC : ClassId) (h i0 i1 a2 a3 a4 a5 a6 a7 a8 i9 a10 a11 a12 a13 a14 a15 i16 i17 a18 i19 a20 a21 i22 a23 : Nat) (tr re : Nat → Nat) (x b n dt : Nat) (hdt : dt ≤ 26) (hn : n ≤ 16) (hp0 : i16 ≤ 208) (hno : 8 * dt < i16 + n) (S : CallFix p m c b_m_group 8 s args (cd_m_group :: WS) R_Model) (hRf : 1 ≤ R.frames) (hRl : 23 ≤ R.locals) (hRc : cells ≤ R.cells ∧ slots ≤ R.slots) (hK : va_K D classes [(cI, .int), (cC, .char)] s) (hA : ∀ q, H0.size ≤ q → A q) (kr : ∀ (pc : Nat) (ls : Array Slot) (H : Heap) (locs : List Loc), decode b_m_group pc = .ok (.ireturn, 1) → va_P D classes [(h, .inr (8, [.int (nI i0), .int (nI i1), .ref a2, .ref a3, .ref a4, .ref a5, .ref a6, .ref a7, .ref a8, .int (nI i9), .ref a10, .ref a11, .ref a12, .ref a13, .ref a14, .ref a15, .int (nI i16), .int (nI i17), .ref a18, .int (nI i19), .ref a20, .ref a21, .int (nI i22), .ref a23])), (a11, .inl (cI, 26, .inl (fun j => nI (tr j)))), (a18, .inl (cI, 64, .inl (fun j => nI (re j))))] H → va_D A [(h, .inr (8, [.int (nI i0), .int (nI i1), .ref a2, .ref a3, .ref a4, .ref a5, .ref a6, .ref a7, .ref a8, .int (nI i9), .ref a10, .ref a11, .ref a12, .ref a13, .ref a14, .ref a15, .int (nI i16), .int (nI i17), .ref a18, .int (nI i19), .ref a20, .ref a21, .int (nI i22), .ref a23])), (a11, .inl (cI, 26, .inl (fun j => nI (tr j)))), (a18, .inl (cI, 64, .inl (fun j => nI (re j))))] → va_S A H0 H locs → W p l e R s m args below meth c H locs cells slots Q (F0 m pc ls [.int (nI 0)])) : ∀ (ls : Array Slot) (H : Heap) (locs : List Loc), lv_has ls 8 [(0, .ref h), (1, .int (nI x)), (2, .int (nI b)), (3, .int (nI n)), (4, .int (nI dt))] → va_P D classes [(h, .inr (8, [.int (nI i0), .int (nI i1), .ref a2, .ref a3, .ref a4, .ref a5, .ref a6, .ref a7, .ref a8, .int (nI i9), .ref a10, .ref a11, .ref a12, .ref a13, .ref a14, .ref a15, .int (nI i16), .int (nI i17), .ref a18, .int (nI i19), .ref a20, .ref a21, .int (nI i22), .ref a23])), (a11, .inl (cI, 26, .inl (fun j => nI (tr j)))), (a18, .inl (cI, 64, .inl (fun j => nI (re j))))] H → va_D A [(h, .inr (8, [.int (nI i0), .int (nI i1), .ref a2, .ref a3, .ref a4, .ref a5, .ref a6, .ref a7, .ref a8, .int (nI i9), .ref a10, .ref a11, .ref a12, .ref a13, .ref a14, .ref a15, .int (nI i16), .int (nI i17), .ref a18, .int (nI i19), .ref a20, .ref a21, .int (nI i22), .ref a23])), (a11, .inl (cI, 26, .inl (fun j => nI (tr j)))), (a18, .inl (cI, 64, .inl (fun j => nI (re j))))] → va_S A H0 H locs → W p l e R s m args below meth c H locs cells slots Q (F0 m 0 ls []) := by
  obtain ⟨hx, hb, hml, hown, hts⟩ := id S
  intro ls H locs hl hP hD hS
  refine lv_aload_n hx hb d_m_group_0 rfl (lv_at hl 0 rfl) ?_
  refine n_get (C := R_Model) (T := F_Model) (N := 24) (v := .int (nI i16)) hx hb hts u_Model_in hown hK hP 0 rfl rfl 16 (by decide) kw_792 rfl d_m_group_1 ?_
  refine lv_iload_n hx hb d_m_group_4 rfl (lv_at hl 3 rfl) ?_
  refine n_iadd hx hb d_m_group_5 ?_
  refine lv_bipush (v := nI 8) hx hb d_m_group_6 (by decide) ?_
  refine lv_iload hx hb d_m_group_8 (lv_at hl 4 rfl) ?_
  refine n_imul hx hb d_m_group_10 ?_
  refine n_icmp_le hx hb d_m_group_11 (tgt := 16) rfl (by omega) (by omega) (fun g11 => absurd g11 (by omega)) (fun g11 => ?_)
  refine lv_iconst (v := nI 0) hx hb d_m_group_14 (by decide) ?_
  exact kr _ ls H locs d_m_group_15 hP hD hS
set_option maxHeartbeats 1000000 in
set_option maxRecDepth 100000 in
theorem c_m_group_no (l : Launch) (D : va_G) (cI cC : ClassId) (h i0 i1 a2 a3 a4 a5 a6 a7 a8 i9 a10 a11 a12 a13 a14 a15 i16 i17 a18 i19 a20 a21 i22 a23 : Nat) (tr re : Nat → Nat) (x b n dt : Nat) (hdt : dt ≤ 26) (hn : n ≤ 16) (hp0 : i16 ≤ 208) (hno : 8 * dt < i16 + n) (sz : Nat) : Met l y_m_group (cd_m_group :: WS) { frames := 1, cells := 0, slots := 0, locals := 23 } (va_Pc [.ref h, .int (nI x), .int (nI b), .int (nI n), .int (nI dt)] (wP D [(h, .inr (8, [.int (nI i0), .int (nI i1), .ref a2, .ref a3, .ref a4, .ref a5, .ref a6, .ref a7, .ref a8, .int (nI i9), .ref a10, .ref a11, .ref a12, .ref a13, .ref a14, .ref a15, .int (nI i16), .int (nI i17), .ref a18, .int (nI i19), .ref a20, .ref a21, .int (nI i22), .ref a23])), (a11, .inl (cI, 26, .inl (fun j => nI (tr j)))), (a18, .inl (cI, 64, .inl (fun j => nI (re j))))] [(cI, .int), (cC, .char)] sz)) (wQi D (nI 0) [(h, .inr (8, [.int (nI i0), .int (nI i1), .ref a2, .ref a3, .ref a4, .ref a5, .ref a6, .ref a7, .ref a8, .int (nI i9), .ref a10, .ref a11, .ref a12, .ref a13, .ref a14, .ref a15, .int (nI i16), .int (nI i17), .ref a18, .int (nI i19), .ref a20, .ref a21, .int (nI i22), .ref a23])), (a11, .inl (cI, 26, .inl (fun j => nI (tr j)))), (a18, .inl (cI, 64, .inl (fun j => nI (re j))))] [(h, .inr (8, [.int (nI i0), .int (nI i1), .ref a2, .ref a3, .ref a4, .ref a5, .ref a6, .ref a7, .ref a8, .int (nI i9), .ref a10, .ref a11, .ref a12, .ref a13, .ref a14, .ref a15, .int (nI i16), .int (nI i17), .ref a18, .int (nI i19), .ref a20, .ref a21, .int (nI i22), .ref a23])), (a11, .inl (cI, 26, .inl (fun j => nI (tr j)))), (a18, .inl (cI, 64, .inl (fun j => nI (re j))))] sz) 0 0 (va_A [(h, .inr (8, [.int (nI i0), .int (nI i1), .ref a2, .ref a3, .ref a4, .ref a5, .ref a6, .ref a7, .ref a8, .int (nI i9), .ref a10, .ref a11, .ref a12, .ref a13, .ref a14, .ref a15, .int (nI i16), .int (nI i17), .ref a18, .int (nI i19), .ref a20, .ref a21, .int (nI i22), .ref a23])), (a11, .inl (cI, 26, .inl (fun j => nI (tr j)))), (a18, .inl (cI, 64, .inl (fun j => nI (re j))))] sz) := by
  refine Met.ofW (cc := b_m_group) (maxL := 8) (ret := (some .boolean)) (by decide) rfl ?_
  intro p e s m args below meth c s₁ B hml hv0
  obtain ⟨rfl, hP, hK, hD0, hsz⟩ := hv0
  have hts := atoms_spec (ws := cd_m_group :: WS) B.pre
  have hown : s.vm.findClass R_Model = some m.cls := findClass_of_methodNamed B.named
  have hlocks := B.notSynchronized
  subst hsz
  have hD := hD0.self (sz := s.heap.size)
  have hl := lv_entry ([.ref h, .int (nI x), .int (nI b), .int (nI n), .int (nI dt)]) (n := 8) (Nat.le_of_ble_eq_true rfl)
  rw [lg_entry_eq]
  generalize (lg_sl ([.ref h, .int (nI x), .int (nI b), .int (nI n), .int (nI dt)]) ++ List.replicate (8 - (lg_sl ([.ref h, .int (nI x), .int (nI b), .int (nI n), .int (nI dt)])).length) Slot.unset).toArray = ls at hl ⊢
  refine bd_m_group_no cI cC h i0 i1 a2 a3 a4 a5 a6 a7 a8 i9 a10 a11 a12 a13 a14 a15 i16 i17 a18 i19 a20 a21 i22 a23 tr re x b n dt hdt hn hp0 hno ⟨B.exec, B.bytes, hml, hown, hts⟩ (Nat.le_refl _) (Nat.le_refl _) ⟨Nat.le_refl _, Nat.le_refl _⟩ hK (fun q h => Or.inr h) (fun pc ls H locs hd hP hD hS => ?_) ls _ _ hl hP hD (va_S.rf)
  exact W.zret B.exec B.bytes B.returns rfl (fun t ht _ => ⟨⟨_, (), rfl, rfl, (by have h9 := hP; rw [← ht] at h9; exact h9)⟩, hS.F ht⟩) hS.2.2 hd
end
section
variable {p : Program} {l : Launch} {e : Env} {R : Room} {s : State} {m : MethodId} {args : Array Value} {below : List Frame} {meth : Method} {c : Code} {cells slots : Nat} {Q : State → Prop} {A : Nat → Prop} {H0 : Heap} {D : va_G}
set_option maxHeartbeats 1000000 in
set_option maxRecDepth 100000 in
theorem lp_m_group_ok_28 (cI cC : ClassId) (h i0 i1 a2 a3 a4 a5 a6 a7 a8 i9 a10 a11 a12 a13 a14 a15 i16 i17 a18 i19 a20 a21 i22 a23 : Nat) (tr re : Nat → Nat) (x b n dt : Nat) (hdt : dt ≤ 26) (hn : n ≤ 16) (hyes : i16 + n ≤ 8 * dt) (hx0 : x ≤ 3) (hfd : i17 + x ≤ 64) (hb1 : b = 10 ∨ b = 45 ∨ b = 256) (htr : ∀ j, j < 26 → tr j < 256) (S : CallFix p m c b_m_group 8 s args (cd_m_group :: WS) R_Model) (hRf : 1 ≤ R.frames) (hRl : 23 ≤ R.locals) (hRc : cells ≤ R.cells ∧ slots ≤ R.slots) (hK : va_K D classes [(cI, .int), (cC, .char)] s) (hA : ∀ q, H0.size ≤ q → A q) (kx : ∀ (ls : Array Slot) (H : Heap) (locs : List Loc), lv_has ls 8 [(0, .ref h), (1, .int (nI x)), (2, .int (nI b)), (3, .int (nI n)), (4, .int (nI dt)), (5, .int (nI (gpV (nxL tr i16 n) b x))), (6, .int (-1))] → va_P D classes [(h, .inr (8, [.int (nI i0), .int (nI i1), .ref a2, .ref a3, .ref a4, .ref a5, .ref a6, .ref a7, .ref a8, .int (nI i9), .ref a10, .ref a11, .ref a12, .ref a13, .ref a14, .ref a15, .int (nI (i16 + n)), .int (nI i17), .ref a18, .int (nI i19), .ref a20, .ref a21, .int (nI i22), .ref a23])), (a11, .inl (cI, 26, .inl (fun j => nI (tr j)))), (a18, .inl (cI, 64, .inl (fun j => nI ((gpR re i17 x b (nxL tr i16 n) x) j))))] H → va_D A [(h, .inr (8, [.int (nI i0), .int (nI i1), .ref a2, .ref a3, .ref a4, .ref a5, .ref a6, .ref a7, .ref a8, .int (nI i9), .ref a10, .ref a11, .ref a12, .ref a13, .ref a14, .ref a15, .int (nI (i16 + n)), .int (nI i17), .ref a18, .int (nI i19), .ref a20, .ref a21, .int (nI i22), .ref a23])), (a11, .inl (cI, 26, .inl (fun j => nI (tr j)))), (a18, .inl (cI, 64, .inl (fun j => nI ((gpR re i17 x b (nxL tr i16 n) x) j))))] → va_S A H0 H locs → W p l e R s m args below meth c H locs cells slots Q (F0 m 80 ls [])) :
    ∀ i, i ≤ x → ∀ (ls : Array Slot) (H : Heap) (locs : List Loc), lv_has ls 8 [(0, .ref h), (1, .int (nI x)), (2, .int (nI b)), (3, .int (nI n)), (4, .int (nI dt)), (5, .int (nI (gpV (nxL tr i16 n) b i))), (6, .int (nI (x - i) - 1))] → va_P D classes [(h, .inr (8, [.int (nI i0), .int (nI i1), .ref a2, .ref a3, .ref a4, .ref a5, .ref a6, .ref a7, .ref a8, .int (nI i9), .ref a10, .ref a11, .ref a12, .ref a13, .ref a14, .ref a15, .int (nI (i16 + n)), .int (nI i17), .ref a18, .int (nI i19), .ref a20, .ref a21, .int (nI i22), .ref a23])), (a11, .inl (cI, 26, .inl (fun j => nI (tr j)))), (a18, .inl (cI, 64, .inl (fun j => nI ((gpR re i17 x b (nxL tr i16 n) i) j))))] H → va_D A [(h, .inr (8, [.int (nI i0), .int (nI i1), .ref a2, .ref a3, .ref a4, .ref a5, .ref a6, .ref a7, .ref a8, .int (nI i9), .ref a10, .ref a11, .ref a12, .ref a13, .ref a14, .ref a15, .int (nI (i16 + n)), .int (nI i17), .ref a18, .int (nI i19), .ref a20, .ref a21, .int (nI i22), .ref a23])), (a11, .inl (cI, 26, .inl (fun j => nI (tr j)))), (a18, .inl (cI, 64, .inl (fun j => nI ((gpR re i17 x b (nxL tr i16 n) i) j))))] → va_S A H0 H locs → W p l e R s m args below meth c H locs cells slots Q (F0 m 28 ls []) := by
  obtain ⟨hx, hb, hml, hown, hts⟩ := id S
  refine up_loop (fun i hki ih => ?_)
  intro ls H locs hl hP hD hS
  have hnx := nxL_lt htr i16 n
  have hnp : 2 ^ n ≤ 2 ^ 16 := Nat.pow_le_pow_right (by decide) hn
  have hgv := gpV_le (nxL tr i16 n) b i
  have hmb : gpV (nxL tr i16 n) b i % b < b := Nat.mod_lt _ (by omega)
  rcases Nat.lt_or_ge i x with hdn | hdn
  · skip
    have hl : lv_has ls 8 [(0, .ref h), (1, .int (nI x)), (2, .int (nI b)), (3, .int (nI n)), (4, .int (nI dt)), (5, .int (nI (gpV (nxL tr i16 n) b i))), (6, .int (nI (x - (i + 1))))] := lv_re hl (by rw [nx_dn hdn])
    refine lv_iload hx hb d_m_group_28 (lv_at hl 6 rfl) ?_
    refine n_if_lt hx hb d_m_group_30 (tgt := 80) rfl (by omega) ?_
    refine lv_iload hx hb d_m_group_33 (lv_at hl 5 rfl) ?_
    refine lv_iload_n hx hb d_m_group_35 rfl (lv_at hl 2 rfl) ?_
    refine n_irem hx hb d_m_group_36 (by omega) (by omega) (by omega) ?_
    refine lv_istore hx hb d_m_group_37 hl (Nat.le_of_ble_eq_true rfl) rfl (fun ls hl => ?_)
    have hl : lv_has ls 8 [(7, .int (nI ((gpV (nxL tr i16 n) b i) % b))), (0, .ref h), (1, .int (nI x)), (2, .int (nI b)), (3, .int (nI n)), (4, .int (nI dt)), (5, .int (nI (gpV (nxL tr i16 n) b i))), (6, .int (nI (x - (i + 1))))] := hl
    refine lv_iload hx hb d_m_group_39 (lv_at hl 6 rfl) ?_
    refine lv_iload_n hx hb d_m_group_41 rfl (lv_at hl 3 rfl) ?_
    refine n_idiv hx hb d_m_group_42 (by omega) (by omega) (by omega) ?_
    refine n_topn (show (gpV (nxL tr i16 n) b i) / b = gpV (nxL tr i16 n) b (i + 1) from rfl) ?_
    refine lv_istore hx hb d_m_group_43 hl (Nat.le_of_ble_eq_true rfl) rfl (fun ls hl => ?_)
    have hl : lv_has ls 8 [(5, .int (nI (gpV (nxL tr i16 n) b (i + 1)))), (7, .int (nI ((gpV (nxL tr i16 n) b i) % b))), (0, .ref h), (1, .int (nI x)), (2, .int (nI b)), (3, .int (nI n)), (4, .int (nI dt)), (6, .int (nI (x - (i + 1))))] := hl
    refine lv_aload_n hx hb d_m_group_45 rfl (lv_at hl 2 rfl) ?_
    refine n_get (C := R_Model) (T := F_Model) (N := 24) (v := .ref a18) hx hb hts u_Model_in hown hK hP 0 rfl rfl 18 (by decide) kw_794 rfl d_m_group_46 ?_
    refine lv_aload_n hx hb d_m_group_49 rfl (lv_at hl 2 rfl) ?_
    refine n_get (C := R_Model) (T := F_Model) (N := 24) (v := .int (nI i17)) hx hb hts u_Model_in hown hK hP 0 rfl rfl 17 (by decide) kw_793 rfl d_m_group_50 ?_
    refine lv_iload hx hb d_m_group_53 (lv_at hl 7 rfl) ?_
    refine n_iadd hx hb d_m_group_55 ?_
    refine lv_iload_n hx hb d_m_group_56 rfl (lv_at hl 4 rfl) ?_
    refine lv_sipush (v := nI 256) hx hb d_m_group_57 (by decide) ?_
    refine n_icmp_ne hx hb d_m_group_60 (tgt := 68) rfl (by omega) (by omega) (fun g60 => ?_) (fun g60 => ?_)
    · skip
      refine lv_iload hx hb d_m_group_68 (lv_at hl 1 rfl) ?_
      refine q_pureS (n := 1) (As := [.int (nI ((gpV (nxL tr i16 n) b i) % b))]) (rest := [.int (nI (i17 + (x - (i + 1)))), .ref a18]) S (c_m_character l ((gpV (nxL tr i16 n) b i) % b) (by omega)) (q_goodS kw_992 kw_993 kw_10 kw_994) (by decide +kernel) rfl rfl ⟨Nat.le_trans (Nat.le_of_ble_eq_true rfl) hRf, Nat.le_trans (Nat.le_of_ble_eq_true rfl) hRl⟩ rfl hl.1 rfl (Nat.le_of_ble_eq_true rfl) d_m_group_70 hRc hS (fun H locs hkp hS => ?_)
      replace hP := hP.kept (fun k q hq => hkp q.1 (hP k q hq).lt)
      refine n_iast hx hb hK hP hD hS 2 0 rfl rfl (by omega) (by decide) d_m_group_73 (fun H locs hP hD hS => ?_)
      have hP : va_P D classes [(h, .inr (8, [.int (nI i0), .int (nI i1), .ref a2, .ref a3, .ref a4, .ref a5, .ref a6, .ref a7, .ref a8, .int (nI i9), .ref a10, .ref a11, .ref a12, .ref a13, .ref a14, .ref a15, .int (nI (i16 + n)), .int (nI i17), .ref a18, .int (nI i19), .ref a20, .ref a21, .int (nI i22), .ref a23])), (a11, .inl (cI, 26, .inl (fun j => nI (tr j)))), (a18, .inl (cI, 64, .inl (fun j => nI ((va_up (gpR re i17 x b (nxL tr i16 n) i) (i17 + (x - (i + 1))) (chN ((gpV (nxL tr i16 n) b i) % b))) j))))] H := hP
      have hD : va_D A [(h, .inr (8, [.int (nI i0), .int (nI i1), .ref a2, .ref a3, .ref a4, .ref a5, .ref a6, .ref a7, .ref a8, .int (nI i9), .ref a10, .ref a11, .ref a12, .ref a13, .ref a14, .ref a15, .int (nI (i16 + n)), .int (nI i17), .ref a18, .int (nI i19), .ref a20, .ref a21, .int (nI i22), .ref a23])), (a11, .inl (cI, 26, .inl (fun j => nI (tr j)))), (a18, .inl (cI, 64, .inl (fun j => nI ((va_up (gpR re i17 x b (nxL tr i16 n) i) (i17 + (x - (i + 1))) (chN ((gpV (nxL tr i16 n) b i) % b))) j))))] := hD
      rw [show va_up (gpR re i17 x b (nxL tr i16 n) i) (i17 + (x - (i + 1))) (chN ((gpV (nxL tr i16 n) b i) % b)) = gpR re i17 x b (nxL tr i16 n) (i + 1) from (by first | exact (gpR_t g60).symm | exact (gpR_f g60).symm)] at hP hD
      refine lv_iinc (k := 7) (v := nI (x - (i + 1)) - 1) hx hb d_m_group_74 hl rfl (nx_dec (x - (i + 1))) (Nat.le_of_ble_eq_true rfl) rfl (fun ls hl => ?_)
      have hl : lv_has ls 8 [(6, .int (nI (x - (i + 1)) - 1)), (5, .int (nI (gpV (nxL tr i16 n) b (i + 1)))), (7, .int (nI ((gpV (nxL tr i16 n) b i) % b))), (0, .ref h), (1, .int (nI x)), (2, .int (nI b)), (3, .int (nI n)), (4, .int (nI dt))] := hl
      refine lv_goto hx hb d_m_group_77 (tgt := 28) rfl ?_
      exact ih (by omega) ls H locs (lv_sub hl [3, 4, 5, 6, 7, 1, 0] rfl) hP hD hS
    · skip
      refine lv_iload hx hb d_m_group_63 (lv_at hl 1 rfl) ?_
      refine lv_goto hx hb d_m_group_65 (tgt := 73) rfl ?_
      refine n_iast hx hb hK hP hD hS 2 0 rfl rfl (by omega) (by decide) d_m_group_73 (fun H locs hP hD hS => ?_)
      have hP : va_P D classes [(h, .inr (8, [.int (nI i0), .int (nI i1), .ref a2, .ref a3, .ref a4, .ref a5, .ref a6, .ref a7, .ref a8, .int (nI i9), .ref a10, .ref a11, .ref a12, .ref a13, .ref a14, .ref a15, .int (nI (i16 + n)), .int (nI i17), .ref a18, .int (nI i19), .ref a20, .ref a21, .int (nI i22), .ref a23])), (a11, .inl (cI, 26, .inl (fun j => nI (tr j)))), (a18, .inl (cI, 64, .inl (fun j => nI ((va_up (gpR re i17 x b (nxL tr i16 n) i) (i17 + (x - (i + 1))) ((gpV (nxL tr i16 n) b i) % b)) j))))] H := hP
      have hD : va_D A [(h, .inr (8, [.int (nI i0), .int (nI i1), .ref a2, .ref a3, .ref a4, .ref a5, .ref a6, .ref a7, .ref a8, .int (nI i9), .ref a10, .ref a11, .ref a12, .ref a13, .ref a14, .ref a15, .int (nI (i16 + n)), .int (nI i17), .ref a18, .int (nI i19), .ref a20, .ref a21, .int (nI i22), .ref a23])), (a11, .inl (cI, 26, .inl (fun j => nI (tr j)))), (a18, .inl (cI, 64, .inl (fun j => nI ((va_up (gpR re i17 x b (nxL tr i16 n) i) (i17 + (x - (i + 1))) ((gpV (nxL tr i16 n) b i) % b)) j))))] := hD
      rw [show va_up (gpR re i17 x b (nxL tr i16 n) i) (i17 + (x - (i + 1))) ((gpV (nxL tr i16 n) b i) % b) = gpR re i17 x b (nxL tr i16 n) (i + 1) from (by first | exact (gpR_t g60).symm | exact (gpR_f g60).symm)] at hP hD
      refine lv_iinc (k := 7) (v := nI (x - (i + 1)) - 1) hx hb d_m_group_74 hl rfl (nx_dec (x - (i + 1))) (Nat.le_of_ble_eq_true rfl) rfl (fun ls hl => ?_)
      have hl : lv_has ls 8 [(6, .int (nI (x - (i + 1)) - 1)), (5, .int (nI (gpV (nxL tr i16 n) b (i + 1)))), (7, .int (nI ((gpV (nxL tr i16 n) b i) % b))), (0, .ref h), (1, .int (nI x)), (2, .int (nI b)), (3, .int (nI n)), (4, .int (nI dt))] := hl
      refine lv_goto hx hb d_m_group_77 (tgt := 28) rfl ?_
      exact ih (by omega) ls H locs (lv_sub hl [3, 4, 5, 6, 7, 1, 0] rfl) hP hD hS
  · skip
    have e9 : i = x := by omega
    have hl : lv_has ls 8 [(0, .ref h), (1, .int (nI x)), (2, .int (nI b)), (3, .int (nI n)), (4, .int (nI dt)), (5, .int (nI (gpV (nxL tr i16 n) b x))), (6, .int (-1))] := lv_re hl (by rw [e9, nx_dn0])
    rw [e9] at hP hD
    refine lv_iload hx hb d_m_group_28 (lv_at hl 6 rfl) ?_
    refine n_dn_lt hx hb d_m_group_30 (tgt := 80) rfl ?_
    exact kx ls H locs (lv_sub hl [0, 1, 2, 3, 4, 5, 6] rfl) hP hD hS
set_option maxHeartbeats 1000000 in
set_option maxRecDepth 100000 in
theorem bd_m_group_ok (cI cC : ClassId) (h i0 i1 a2 a3 a4 a5 a6 a7 a8 i9 a10 a11 a12 a13 a14 a15 i16 i17 a18 i19 a20 a21 i22 a23 : Nat) (tr re : Nat → Nat) (x b n dt : Nat) (hdt : dt ≤ 26) (hn : n ≤ 16) (hyes : i16 + n ≤ 8 * dt) (hx0 : x ≤ 3) (hfd : i17 + x ≤ 64) (hb1 : b = 10 ∨ b = 45 ∨ b = 256) (htr : ∀ j, j < 26 → tr j < 256) (S : CallFix p m c b_m_group 8 s args (cd_m_group :: WS) R_Model) (hRf : 1 ≤ R.frames) (hRl : 23 ≤ R.locals) (hRc : cells ≤ R.cells ∧ slots ≤ R.slots) (hK : va_K D classes [(cI, .int), (cC, .char)] s) (hA : ∀ q, H0.size ≤ q → A q) (kr : ∀ (pc : Nat) (ls : Array Slot) (H : Heap) (locs : List Loc), decode b_m_group pc = .ok (.ireturn, 1) → va_P D classes [(h, .inr (8, [.int (nI i0), .int (nI i1), .ref a2, .ref a3, .ref a4, .ref a5, .ref a6, .ref a7, .ref a8, .int (nI i9), .ref a10, .ref a11, .ref a12, .ref a13, .ref a14, .ref a15, .int (nI (i16 + n)), .int (nI (i17 + x)), .ref a18, .int (nI i19), .ref a20, .ref a21, .int (nI i22), .ref a23])), (a11, .inl (cI, 26, .inl (fun j => nI (tr j)))), (a18, .inl (cI, 64, .inl (fun j => nI ((gpR re i17 x b (nxL tr i16 n) x) j))))] H → va_D A [(h, .inr (8, [.int (nI i0), .int (nI i1), .ref a2, .ref a3, .ref a4, .ref a5, .ref a6, .ref a7, .ref a8, .int (nI i9), .ref a10, .ref a11, .ref a12, .ref a13, .ref a14, .ref a15, .int (nI (i16 + n)), .int (nI (i17 + x)), .ref a18, .int (nI i19), .ref a20, .ref a21, .int (nI i22), .ref a23])), (a11, .inl (cI, 26, .inl (fun j => nI (tr j)))), (a18, .inl (cI, 64, .inl (fun j => nI ((gpR re i17 x b (nxL tr i16 n) x) j))))] → va_S A H0 H locs → W p l e R s m args below meth c H locs cells slots Q (F0 m pc ls [.int (nI (bN (gpV (nxL tr i16 n) b x = 0)))])) : ∀ (ls : Array Slot) (H : Heap) (locs : List Loc), lv_has ls 8 [(0, .ref h), (1, .int (nI x)), (2, .int (nI b)), (3, .int (nI n)), (4, .int (nI dt))] → va_P D classes [(h, .inr (8, [.int (nI i0), .int (nI i1), .ref a2, .ref a3, .ref a4, .ref a5, .ref a6, .ref a7, .ref a8, .int (nI i9), .ref a10, .ref a11, .ref a12, .ref a13, .ref a14, .ref a15, .int (nI i16), .int (nI i17), .ref a18, .int (nI i19), .ref a20, .ref a21, .int (nI i22), .ref a23])), (a11, .inl (cI, 26, .inl (fun j => nI (tr j)))), (a18, .inl (cI, 64, .inl (fun j => nI (re j))))] H → va_D A [(h, .inr (8, [.int (nI i0), .int (nI i1), .ref a2, .ref a3, .ref a4, .ref a5, .ref a6, .ref a7, .ref a8, .int (nI i9), .ref a10, .ref a11, .ref a12, .ref a13, .ref a14, .ref a15, .int (nI i16), .int (nI i17), .ref a18, .int (nI i19), .ref a20, .ref a21, .int (nI i22), .ref a23])), (a11, .inl (cI, 26, .inl (fun j => nI (tr j)))), (a18, .inl (cI, 64, .inl (fun j => nI (re j))))] → va_S A H0 H locs → W p l e R s m args below meth c H locs cells slots Q (F0 m 0 ls []) := by
  obtain ⟨hx, hb, hml, hown, hts⟩ := id S
  intro ls H locs hl hP hD hS
  have hnx := nxL_lt htr i16 n
  have hnp : 2 ^ n ≤ 2 ^ 16 := Nat.pow_le_pow_right (by decide) hn
  refine lv_aload_n hx hb d_m_group_0 rfl (lv_at hl 0 rfl) ?_
  refine n_get (C := R_Model) (T := F_Model) (N := 24) (v := .int (nI i16)) hx hb hts u_Model_in hown hK hP 0 rfl rfl 16 (by decide) kw_792 rfl d_m_group_1 ?_
  refine lv_iload_n hx hb d_m_group_4 rfl (lv_at hl 3 rfl) ?_
  refine n_iadd hx hb d_m_group_5 ?_
  refine lv_bipush (v := nI 8) hx hb d_m_group_6 (by decide) ?_
  refine lv_iload hx hb d_m_group_8 (lv_at hl 4 rfl) ?_
  refine n_imul hx hb d_m_group_10 ?_
  refine n_icmp_le hx hb d_m_group_11 (tgt := 16) rfl (by omega) (by omega) (fun g11 => ?_) (fun g11 => absurd g11 (by omega))
  refine lv_aload_n hx hb d_m_group_16 rfl (lv_at hl 0 rfl) ?_
  refine lv_iload_n hx hb d_m_group_17 rfl (lv_at hl 3 rfl) ?_
  refine q_writeVi (n := 1) (As := [.int (nI n)]) (rest := []) (wc := [(h, .inr (8, [.int (nI i0), .int (nI i1), .ref a2, .ref a3, .ref a4, .ref a5, .ref a6, .ref a7, .ref a8, .int (nI i9), .ref a10, .ref a11, .ref a12, .ref a13, .ref a14, .ref a15, .int (nI i16), .int (nI i17), .ref a18, .int (nI i19), .ref a20, .ref a21, .int (nI i22), .ref a23])), (a11, .inl (cI, 26, .inl (fun j => nI (tr j))))]) (wr := [(a18, .inl (cI, 64, .inl (fun j => nI (re j))))]) (w1 := [(h, .inr (8, [.int (nI i0), .int (nI i1), .ref a2, .ref a3, .ref a4, .ref a5, .ref a6, .ref a7, .ref a8, .int (nI i9), .ref a10, .ref a11, .ref a12, .ref a13, .ref a14, .ref a15, .int (nI (i16 + n)), .int (nI i17), .ref a18, .int (nI i19), .ref a20, .ref a21, .int (nI i22), .ref a23])), (a11, .inl (cI, 26, .inl (fun j => nI (tr j))))]) S (c_m_next l D cI cC h i0 i1 a2 a3 a4 a5 a6 a7 a8 i9 a10 a11 a12 a13 a14 a15 i16 i17 a18 i19 a20 a21 i22 a23 tr n (by omega) htr H.size) hK hP hD hA (q0 := 0) rfl rfl [0, 1] [2] rfl rfl rfl rfl (by decide) rfl (q_goodV kw_980 kw_982 ks_38 kw_10 kw_983) (by decide +kernel) rfl rfl rfl ⟨Nat.le_trans (Nat.le_of_ble_eq_true rfl) hRf, Nat.le_trans (Nat.le_of_ble_eq_true rfl) hRl⟩ rfl hl.1 rfl (Nat.le_of_ble_eq_true rfl) d_m_group_18 hRc hS (fun H locs hP hD hS => ?_)
  replace hP : va_P D classes [(h, .inr (8, [.int (nI i0), .int (nI i1), .ref a2, .ref a3, .ref a4, .ref a5, .ref a6, .ref a7, .ref a8, .int (nI i9), .ref a10, .ref a11, .ref a12, .ref a13, .ref a14, .ref a15, .int (nI (i16 + n)), .int (nI i17), .ref a18, .int (nI i19), .ref a20, .ref a21, .int (nI i22), .ref a23])), (a11, .inl (cI, 26, .inl (fun j => nI (tr j)))), (a18, .inl (cI, 64, .inl (fun j => nI (re j))))] H := hP.sub [1, 2, 0] rfl
  replace hD : va_D A [(h, .inr (8, [.int (nI i0), .int (nI i1), .ref a2, .ref a3, .ref a4, .ref a5, .ref a6, .ref a7, .ref a8, .int (nI i9), .ref a10, .ref a11, .ref a12, .ref a13, .ref a14, .ref a15, .int (nI (i16 + n)), .int (nI i17), .ref a18, .int (nI i19), .ref a20, .ref a21, .int (nI i22), .ref a23])), (a11, .inl (cI, 26, .inl (fun j => nI (tr j)))), (a18, .inl (cI, 64, .inl (fun j => nI (re j))))] := hD.sub [1, 2, 0] rfl rfl
  refine lv_istore hx hb d_m_group_21 hl (Nat.le_of_ble_eq_true rfl) rfl (fun ls hl => ?_)
  have hl : lv_has ls 8 [(5, .int (nI (nxL tr i16 n))), (0, .ref h), (1, .int (nI x)), (2, .int (nI b)), (3, .int (nI n)), (4, .int (nI dt))] := hl
  refine lv_iload_n hx hb d_m_group_23 rfl (lv_at hl 2 rfl) ?_
  refine lv_iconst (v := nI 1) hx hb d_m_group_24 (by decide) ?_
  refine lv_isub hx hb d_m_group_25 ?_
  refine n_top (show nI x - nI 1 = nI (x - 0) - 1 from nx_sub1 _) ?_
  refine lv_istore hx hb d_m_group_26 hl (Nat.le_of_ble_eq_true rfl) rfl (fun ls hl => ?_)
  have hl : lv_has ls 8 [(6, .int (nI (x - 0) - 1)), (5, .int (nI (nxL tr i16 n))), (0, .ref h), (1, .int (nI x)), (2, .int (nI b)), (3, .int (nI n)), (4, .int (nI dt))] := hl
  refine lp_m_group_ok_28 cI cC h i0 i1 a2 a3 a4 a5 a6 a7 a8 i9 a10 a11 a12 a13 a14 a15 i16 i17 a18 i19 a20 a21 i22 a23 tr re x b n dt hdt hn hyes hx0 hfd hb1 htr S hRf hRl hRc hK hA  (fun ls H locs hl hP hD hS => ?_) 0 (by omega) ls H locs (lv_sub hl [2, 3, 4, 5, 6, 1, 0] rfl) hP hD hS
  have hgv := gpV_le (nxL tr i16 n) b x
  refine lv_aload_n hx hb d_m_group_80 rfl (lv_at hl 0 rfl) ?_
  refine lv_dup hx hb d_m_group_81 rfl ?_
  refine n_get (C := R_Model) (T := F_Model) (N := 24) (v := .int (nI i17)) hx hb hts u_Model_in hown hK hP 0 rfl rfl 17 (by decide) kw_793 rfl d_m_group_82 ?_
  refine lv_iload_n hx hb d_m_group_85 rfl (lv_at hl 1 rfl) ?_
  refine n_iadd hx hb d_m_group_86 ?_
  refine n_put (C := R_Model) (T := F_Model) (N := 24) (v := .int (nI (i17 + x))) hx hb hts u_Model_in t_Model t_Model_ok n_Model hown hK hP hD hS 0 rfl rfl 17 (by decide) kw_793 rfl rfl rfl (Nat.le_of_ble_eq_true rfl) d_m_group_87 (fun H locs hP hD hS => ?_)
  have hP : va_P D classes [(h, .inr (8, [.int (nI i0), .int (nI i1), .ref a2, .ref a3, .ref a4, .ref a5, .ref a6, .ref a7, .ref a8, .int (nI i9), .ref a10, .ref a11, .ref a12, .ref a13, .ref a14, .ref a15, .int (nI (i16 + n)), .int (nI (i17 + x)), .ref a18, .int (nI i19), .ref a20, .ref a21, .int (nI i22), .ref a23])), (a11, .inl (cI, 26, .inl (fun j => nI (tr j)))), (a18, .inl (cI, 64, .inl (fun j => nI ((gpR re i17 x b (nxL tr i16 n) x) j))))] H := hP
  have hD : va_D A [(h, .inr (8, [.int (nI i0), .int (nI i1), .ref a2, .ref a3, .ref a4, .ref a5, .ref a6, .ref a7, .ref a8, .int (nI i9), .ref a10, .ref a11, .ref a12, .ref a13, .ref a14, .ref a15, .int (nI (i16 + n)), .int (nI (i17 + x)), .ref a18, .int (nI i19), .ref a20, .ref a21, .int (nI i22), .ref a23])), (a11, .inl (cI, 26, .inl (fun j => nI (tr j)))), (a18, .inl (cI, 64, .inl (fun j => nI ((gpR re i17 x b (nxL tr i16 n) x) j))))] := hD
  refine lv_iload hx hb d_m_group_90 (lv_at hl 5 rfl) ?_
  refine n_if_ne hx hb d_m_group_92 (tgt := 99) rfl (by omega) (fun g92 => ?_) (fun g92 => ?_)
  · skip
    refine lv_iconst (v := nI 0) hx hb d_m_group_99 (by decide) ?_
    refine n_topn (show 0 = bN (gpV (nxL tr i16 n) b x = 0) from (by first | exact (bN_t g92).symm | exact (bN_f g92).symm)) ?_
    exact kr _ ls H locs d_m_group_100 hP hD hS
  · skip
    refine lv_iconst (v := nI 1) hx hb d_m_group_95 (by decide) ?_
    refine lv_goto hx hb d_m_group_96 (tgt := 100) rfl ?_
    refine n_topn (show 1 = bN (gpV (nxL tr i16 n) b x = 0) from (by first | exact (bN_t g92).symm | exact (bN_f g92).symm)) ?_
    exact kr _ ls H locs d_m_group_100 hP hD hS
set_option maxHeartbeats 1000000 in
set_option maxRecDepth 100000 in
theorem c_m_group_ok (l : Launch) (D : va_G) (cI cC : ClassId) (h i0 i1 a2 a3 a4 a5 a6 a7 a8 i9 a10 a11 a12 a13 a14 a15 i16 i17 a18 i19 a20 a21 i22 a23 : Nat) (tr re : Nat → Nat) (x b n dt : Nat) (hdt : dt ≤ 26) (hn : n ≤ 16) (hyes : i16 + n ≤ 8 * dt) (hx0 : x ≤ 3) (hfd : i17 + x ≤ 64) (hb1 : b = 10 ∨ b = 45 ∨ b = 256) (htr : ∀ j, j < 26 → tr j < 256) (sz : Nat) : Met l y_m_group (cd_m_group :: WS) { frames := 1, cells := 0, slots := 0, locals := 23 } (va_Pc [.ref h, .int (nI x), .int (nI b), .int (nI n), .int (nI dt)] (wP D [(h, .inr (8, [.int (nI i0), .int (nI i1), .ref a2, .ref a3, .ref a4, .ref a5, .ref a6, .ref a7, .ref a8, .int (nI i9), .ref a10, .ref a11, .ref a12, .ref a13, .ref a14, .ref a15, .int (nI i16), .int (nI i17), .ref a18, .int (nI i19), .ref a20, .ref a21, .int (nI i22), .ref a23])), (a11, .inl (cI, 26, .inl (fun j => nI (tr j)))), (a18, .inl (cI, 64, .inl (fun j => nI (re j))))] [(cI, .int), (cC, .char)] sz)) (wQi D (nI (bN (gpV (nxL tr i16 n) b x = 0))) [(h, .inr (8, [.int (nI i0), .int (nI i1), .ref a2, .ref a3, .ref a4, .ref a5, .ref a6, .ref a7, .ref a8, .int (nI i9), .ref a10, .ref a11, .ref a12, .ref a13, .ref a14, .ref a15, .int (nI i16), .int (nI i17), .ref a18, .int (nI i19), .ref a20, .ref a21, .int (nI i22), .ref a23])), (a11, .inl (cI, 26, .inl (fun j => nI (tr j)))), (a18, .inl (cI, 64, .inl (fun j => nI (re j))))] [(h, .inr (8, [.int (nI i0), .int (nI i1), .ref a2, .ref a3, .ref a4, .ref a5, .ref a6, .ref a7, .ref a8, .int (nI i9), .ref a10, .ref a11, .ref a12, .ref a13, .ref a14, .ref a15, .int (nI (i16 + n)), .int (nI (i17 + x)), .ref a18, .int (nI i19), .ref a20, .ref a21, .int (nI i22), .ref a23])), (a11, .inl (cI, 26, .inl (fun j => nI (tr j)))), (a18, .inl (cI, 64, .inl (fun j => nI ((gpR re i17 x b (nxL tr i16 n) x) j))))] sz) 0 0 (va_A [(h, .inr (8, [.int (nI i0), .int (nI i1), .ref a2, .ref a3, .ref a4, .ref a5, .ref a6, .ref a7, .ref a8, .int (nI i9), .ref a10, .ref a11, .ref a12, .ref a13, .ref a14, .ref a15, .int (nI i16), .int (nI i17), .ref a18, .int (nI i19), .ref a20, .ref a21, .int (nI i22), .ref a23])), (a11, .inl (cI, 26, .inl (fun j => nI (tr j)))), (a18, .inl (cI, 64, .inl (fun j => nI (re j))))] sz) := by
  refine Met.ofW (cc := b_m_group) (maxL := 8) (ret := (some .boolean)) (by decide) rfl ?_
  intro p e s m args below meth c s₁ B hml hv0
  obtain ⟨rfl, hP, hK, hD0, hsz⟩ := hv0
  have hts := atoms_spec (ws := cd_m_group :: WS) B.pre
  have hown : s.vm.findClass R_Model = some m.cls := findClass_of_methodNamed B.named
  have hlocks := B.notSynchronized
  subst hsz
  have hD := hD0.self (sz := s.heap.size)
  have hl := lv_entry ([.ref h, .int (nI x), .int (nI b), .int (nI n), .int (nI dt)]) (n := 8) (Nat.le_of_ble_eq_true rfl)
  rw [lg_entry_eq]
  generalize (lg_sl ([.ref h, .int (nI x), .int (nI b), .int (nI n), .int (nI dt)]) ++ List.replicate (8 - (lg_sl ([.ref h, .int (nI x), .int (nI b), .int (nI n), .int (nI dt)])).length) Slot.unset).toArray = ls at hl ⊢
  refine bd_m_group_ok cI cC h i0 i1 a2 a3 a4 a5 a6 a7 a8 i9 a10 a11 a12 a13 a14 a15 i16 i17 a18 i19 a20 a21 i22 a23 tr re x b n dt hdt hn hyes hx0 hfd hb1 htr ⟨B.exec, B.bytes, hml, hown, hts⟩ (Nat.le_refl _) (Nat.le_refl _) ⟨Nat.le_refl _, Nat.le_refl _⟩ hK (fun q h => Or.inr h) (fun pc ls H locs hd hP hD hS => ?_) ls _ _ hl hP hD (va_S.rf)
  exact W.zret B.exec B.bytes B.returns (bN_fit _) (fun t ht _ => ⟨⟨_, (), rfl, rfl, (by have h9 := hP; rw [← ht] at h9; exact h9)⟩, hS.F ht⟩) hS.2.2 hd
end
