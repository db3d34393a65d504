theorem kw_988 : (Jvm.Cond.methodLink "SquareCodesModel" (167 : Nat) ({ cls := "SquareCodesModel", name := "group", desc := "(IIII)Z" } : Jvm.MethodName)) ∈ WS := WS_tbl 988 (by decide +kernel) rfl
theorem kw_990 : (Jvm.Cond.instanceMethod ({ cls := "SquareCodesModel", name := "group", desc := "(IIII)Z" } : Jvm.MethodName)) ∈ WS := WS_tbl 990 (by decide +kernel) rfl
theorem ks_40 : Cond.selects R_Model y_m_group y_m_group ∈ WS := WS_sel 40 (by decide +kernel) rfl
set_option maxRecDepth 1000000 in
theorem kw_991 : cd_m_group ∈ WS := WS_tbl 991 rfl rfl
section
theorem d_m_characters_0 : decode b_m_characters 0 = .ok (.iload_n 1, 1) := by decide +kernel
theorem d_m_characters_1 : decode b_m_characters 1 = .ok (.iconst 1, 1) := by decide +kernel
theorem d_m_characters_2 : decode b_m_characters 2 = .ok (.if_icmp .ne 8, 3) := by decide +kernel
theorem d_m_characters_5 : decode b_m_characters 5 = .ok (.bipush 10, 2) := by decide +kernel
theorem d_m_characters_7 : decode b_m_characters 7 = .ok (.goto 15, 3) := by decide +kernel
theorem d_m_characters_10 : decode b_m_characters 10 = .ok (.iload_n 1, 1) := by decide +kernel
theorem d_m_characters_11 : decode b_m_characters 11 = .ok (.iconst 2, 1) := by decide +kernel
theorem d_m_characters_12 : decode b_m_characters 12 = .ok (.if_icmp .ne 8, 3) := by decide +kernel
theorem d_m_characters_15 : decode b_m_characters 15 = .ok (.bipush 9, 2) := by decide +kernel
theorem d_m_characters_17 : decode b_m_characters 17 = .ok (.goto 5, 3) := by decide +kernel
theorem d_m_characters_20 : decode b_m_characters 20 = .ok (.bipush 8, 2) := by decide +kernel
theorem d_m_characters_22 : decode b_m_characters 22 = .ok (.istore_n 3, 1) := by decide +kernel
theorem d_m_characters_23 : decode b_m_characters 23 = .ok (.aload_n 0, 1) := by decide +kernel
theorem d_m_characters_24 : decode b_m_characters 24 = .ok (.getfield 155, 3) := by decide +kernel
theorem d_m_characters_27 : decode b_m_characters 27 = .ok (.iload_n 3, 1) := by decide +kernel
theorem d_m_characters_28 : decode b_m_characters 28 = .ok (.iadd, 1) := by decide +kernel
theorem d_m_characters_29 : decode b_m_characters 29 = .ok (.bipush 8, 2) := by decide +kernel
theorem d_m_characters_31 : decode b_m_characters 31 = .ok (.iload_n 2, 1) := by decide +kernel
theorem d_m_characters_32 : decode b_m_characters 32 = .ok (.imul, 1) := by decide +kernel
theorem d_m_characters_33 : decode b_m_characters 33 = .ok (.if_icmp .le 5, 3) := by decide +kernel
theorem d_m_characters_36 : decode b_m_characters 36 = .ok (.iconst 0, 1) := by decide +kernel
theorem d_m_characters_37 : decode b_m_characters 37 = .ok (.ireturn, 1) := by decide +kernel
theorem d_m_characters_38 : decode b_m_characters 38 = .ok (.aload_n 0, 1) := by decide +kernel
theorem d_m_characters_39 : decode b_m_characters 39 = .ok (.iload_n 3, 1) := by decide +kernel
theorem d_m_characters_40 : decode b_m_characters 40 = .ok (.invokevirtual 158, 3) := by decide +kernel
theorem d_m_characters_43 : decode b_m_characters 43 = .ok (.istore 4, 2) := by decide +kernel
theorem d_m_characters_45 : decode b_m_characters 45 = .ok (.iconst 1, 1) := by decide +kernel
theorem d_m_characters_46 : decode b_m_characters 46 = .ok (.istore 5, 2) := by decide +kernel
theorem d_m_characters_48 : decode b_m_characters 48 = .ok (.iload 4, 2) := by decide +kernel
theorem d_m_characters_50 : decode b_m_characters 50 = .ok (.ifCond .le 145, 3) := by decide +kernel
theorem d_m_characters_53 : decode b_m_characters 53 = .ok (.iload 5, 2) := by decide +kernel
theorem d_m_characters_55 : decode b_m_characters 55 = .ok (.ifCond .eq 140, 3) := by decide +kernel
theorem d_m_characters_58 : decode b_m_characters 58 = .ok (.iload_n 1, 1) := by decide +kernel
theorem d_m_characters_59 : decode b_m_characters 59 = .ok (.iconst 1, 1) := by decide +kernel
theorem d_m_characters_60 : decode b_m_characters 60 = .ok (.if_icmp .ne 7, 3) := by decide +kernel
theorem d_m_characters_63 : decode b_m_characters 63 = .ok (.iconst 3, 1) := by decide +kernel
theorem d_m_characters_64 : decode b_m_characters 64 = .ok (.goto 13, 3) := by decide +kernel
theorem d_m_characters_67 : decode b_m_characters 67 = .ok (.iload_n 1, 1) := by decide +kernel
theorem d_m_characters_68 : decode b_m_characters 68 = .ok (.iconst 2, 1) := by decide +kernel
theorem d_m_characters_69 : decode b_m_characters 69 = .ok (.if_icmp .ne 7, 3) := by decide +kernel
theorem d_m_characters_72 : decode b_m_characters 72 = .ok (.iconst 2, 1) := by decide +kernel
theorem d_m_characters_73 : decode b_m_characters 73 = .ok (.goto 4, 3) := by decide +kernel
theorem d_m_characters_76 : decode b_m_characters 76 = .ok (.iconst 1, 1) := by decide +kernel
theorem d_m_characters_77 : decode b_m_characters 77 = .ok (.istore 6, 2) := by decide +kernel
theorem d_m_characters_79 : decode b_m_characters 79 = .ok (.iload 4, 2) := by decide +kernel
theorem d_m_characters_81 : decode b_m_characters 81 = .ok (.iload 6, 2) := by decide +kernel
theorem d_m_characters_83 : decode b_m_characters 83 = .ok (.if_icmp .ge 8, 3) := by decide +kernel
theorem d_m_characters_86 : decode b_m_characters 86 = .ok (.iload 4, 2) := by decide +kernel
theorem d_m_characters_88 : decode b_m_characters 88 = .ok (.goto 5, 3) := by decide +kernel
theorem d_m_characters_91 : decode b_m_characters 91 = .ok (.iload 6, 2) := by decide +kernel
theorem d_m_characters_93 : decode b_m_characters 93 = .ok (.istore 7, 2) := by decide +kernel
theorem d_m_characters_95 : decode b_m_characters 95 = .ok (.iload_n 1, 1) := by decide +kernel
theorem d_m_characters_96 : decode b_m_characters 96 = .ok (.iconst 4, 1) := by decide +kernel
theorem d_m_characters_97 : decode b_m_characters 97 = .ok (.if_icmp .ne 8, 3) := by decide +kernel
theorem d_m_characters_100 : decode b_m_characters 100 = .ok (.bipush 8, 2) := by decide +kernel
theorem d_m_characters_102 : decode b_m_characters 102 = .ok (.goto 47, 3) := by decide +kernel
theorem d_m_characters_105 : decode b_m_characters 105 = .ok (.iload_n 1, 1) := by decide +kernel
theorem d_m_characters_106 : decode b_m_characters 106 = .ok (.iconst 2, 1) := by decide +kernel
theorem d_m_characters_107 : decode b_m_characters 107 = .ok (.if_icmp .ne 19, 3) := by decide +kernel
theorem d_m_characters_110 : decode b_m_characters 110 = .ok (.iload 7, 2) := by decide +kernel
theorem d_m_characters_112 : decode b_m_characters 112 = .ok (.iconst 2, 1) := by decide +kernel
theorem d_m_characters_113 : decode b_m_characters 113 = .ok (.if_icmp .ne 8, 3) := by decide +kernel
theorem d_m_characters_116 : decode b_m_characters 116 = .ok (.bipush 11, 2) := by decide +kernel
theorem d_m_characters_118 : decode b_m_characters 118 = .ok (.goto 31, 3) := by decide +kernel
theorem d_m_characters_121 : decode b_m_characters 121 = .ok (.bipush 6, 2) := by decide +kernel
theorem d_m_characters_123 : decode b_m_characters 123 = .ok (.goto 26, 3) := by decide +kernel
theorem d_m_characters_126 : decode b_m_characters 126 = .ok (.iload 7, 2) := by decide +kernel
theorem d_m_characters_128 : decode b_m_characters 128 = .ok (.iconst 3, 1) := by decide +kernel
theorem d_m_characters_129 : decode b_m_characters 129 = .ok (.if_icmp .ne 8, 3) := by decide +kernel
theorem d_m_characters_132 : decode b_m_characters 132 = .ok (.bipush 10, 2) := by decide +kernel
theorem d_m_characters_134 : decode b_m_characters 134 = .ok (.goto 15, 3) := by decide +kernel
theorem d_m_characters_137 : decode b_m_characters 137 = .ok (.iload 7, 2) := by decide +kernel
theorem d_m_characters_139 : decode b_m_characters 139 = .ok (.iconst 2, 1) := by decide +kernel
theorem d_m_characters_140 : decode b_m_characters 140 = .ok (.if_icmp .ne 8, 3) := by decide +kernel
theorem d_m_characters_143 : decode b_m_characters 143 = .ok (.bipush 7, 2) := by decide +kernel
theorem d_m_characters_145 : decode b_m_characters 145 = .ok (.goto 4, 3) := by decide +kernel
theorem d_m_characters_148 : decode b_m_characters 148 = .ok (.iconst 4, 1) := by decide +kernel
theorem d_m_characters_149 : decode b_m_characters 149 = .ok (.istore 8, 2) := by decide +kernel
theorem d_m_characters_151 : decode b_m_characters 151 = .ok (.aload_n 0, 1) := by decide +kernel
theorem d_m_characters_152 : decode b_m_characters 152 = .ok (.iload 7, 2) := by decide +kernel
theorem d_m_characters_154 : decode b_m_characters 154 = .ok (.iload_n 1, 1) := by decide +kernel
theorem d_m_characters_155 : decode b_m_characters 155 = .ok (.iconst 1, 1) := by decide +kernel
theorem d_m_characters_156 : decode b_m_characters 156 = .ok (.if_icmp .ne 8, 3) := by decide +kernel
theorem d_m_characters_159 : decode b_m_characters 159 = .ok (.bipush 10, 2) := by decide +kernel
theorem d_m_characters_161 : decode b_m_characters 161 = .ok (.goto 16, 3) := by decide +kernel
theorem d_m_characters_164 : decode b_m_characters 164 = .ok (.iload_n 1, 1) := by decide +kernel
theorem d_m_characters_165 : decode b_m_characters 165 = .ok (.iconst 2, 1) := by decide +kernel
theorem d_m_characters_166 : decode b_m_characters 166 = .ok (.if_icmp .ne 8, 3) := by decide +kernel
theorem d_m_characters_169 : decode b_m_characters 169 = .ok (.bipush 45, 2) := by decide +kernel
theorem d_m_characters_171 : decode b_m_characters 171 = .ok (.goto 6, 3) := by decide +kernel
theorem d_m_characters_174 : decode b_m_characters 174 = .ok (.sipush 256, 3) := by decide +kernel
theorem d_m_characters_177 : decode b_m_characters 177 = .ok (.iload 8, 2) := by decide +kernel
theorem d_m_characters_179 : decode b_m_characters 179 = .ok (.iload_n 2, 1) := by decide +kernel
theorem d_m_characters_180 : decode b_m_characters 180 = .ok (.invokevirtual 167, 3) := by decide +kernel
theorem d_m_characters_183 : decode b_m_characters 183 = .ok (.istore 5, 2) := by decide +kernel
theorem d_m_characters_185 : decode b_m_characters 185 = .ok (.iload 4, 2) := by decide +kernel
theorem d_m_characters_187 : decode b_m_characters 187 = .ok (.iload 7, 2) := by decide +kernel
theorem d_m_characters_189 : decode b_m_characters 189 = .ok (.isub, 1) := by decide +kernel
theorem d_m_characters_190 : decode b_m_characters 190 = .ok (.istore 4, 2) := by decide +kernel
theorem d_m_characters_192 : decode b_m_characters 192 = .ok (.goto (-144), 3) := by decide +kernel
theorem d_m_characters_195 : decode b_m_characters 195 = .ok (.iload 5, 2) := by decide +kernel
theorem d_m_characters_197 : decode b_m_characters 197 = .ok (.ireturn, 1) := by decide +kernel
end
section
variable {p : Program} {l : Launch} {e : Env} {R : Room} {s : State} {m : MethodId} {args : Array Value} {below : List Frame} {meth : Method} {c : Code} {cells slots : Nat} {Q : State → Prop} {A : Nat → Prop} {H0 : Heap} {D : va_G}
set_option maxHeartbeats 1000000 in
set_option maxRecDepth 100000 in
theorem bd_m_characters_1_no (cI cC : ClassId) (h i0 i1 a2 a3 a4 a5 a6 a7 a8 i9 a10 a11 a12 a13 a14 a15 i16 i17 a18 i19 a20 a21 i22 a23 : Nat) (tr re : Nat → Nat) (dt : Nat) (hdt : dt ≤ 19) (hp0 : i16 ≤ 208) (hno : 8 * dt < i16 + 10) (S : CallFix p m c b_m_characters 9 s args (cd_m_characters :: WS) R_Model) (hRf : 2 ≤ R.frames) (hRl : 50 ≤ R.locals) (hRc : cells ≤ R.cells ∧ slots ≤ R.slots) (hK : va_K D classes [(cI, .int), (cC, .char)] s) (hA : ∀ q, H0.size ≤ q → A q) (kr : ∀ (pc : Nat) (ls : Array Slot) (H : Heap) (locs : List Loc), decode b_m_characters pc = .ok (.ireturn, 1) → va_P D classes [(h, .inr (8, [.int (nI i0), .int (nI i1), .ref a2, .ref a3, .ref a4, .ref a5, .ref a6, .ref a7, .ref a8, .int (nI i9), .ref a10, .ref a11, .ref a12, .ref a13, .ref a14, .ref a15, .int (nI i16), .int (nI i17), .ref a18, .int (nI i19), .ref a20, .ref a21, .int (nI i22), .ref a23])), (a11, .inl (cI, 26, .inl (fun j => nI (tr j)))), (a18, .inl (cI, 64, .inl (fun j => nI (re j))))] H → va_D A [(h, .inr (8, [.int (nI i0), .int (nI i1), .ref a2, .ref a3, .ref a4, .ref a5, .ref a6, .ref a7, .ref a8, .int (nI i9), .ref a10, .ref a11, .ref a12, .ref a13, .ref a14, .ref a15, .int (nI i16), .int (nI i17), .ref a18, .int (nI i19), .ref a20, .ref a21, .int (nI i22), .ref a23])), (a11, .inl (cI, 26, .inl (fun j => nI (tr j)))), (a18, .inl (cI, 64, .inl (fun j => nI (re j))))] → va_S A H0 H locs → W p l e R s m args below meth c H locs cells slots Q (F0 m pc ls [.int (nI 0)])) : ∀ (ls : Array Slot) (H : Heap) (locs : List Loc), lv_has ls 9 [(0, .ref h), (1, .int (nI 1)), (2, .int (nI dt))] → va_P D classes [(h, .inr (8, [.int (nI i0), .int (nI i1), .ref a2, .ref a3, .ref a4, .ref a5, .ref a6, .ref a7, .ref a8, .int (nI i9), .ref a10, .ref a11, .ref a12, .ref a13, .ref a14, .ref a15, .int (nI i16), .int (nI i17), .ref a18, .int (nI i19), .ref a20, .ref a21, .int (nI i22), .ref a23])), (a11, .inl (cI, 26, .inl (fun j => nI (tr j)))), (a18, .inl (cI, 64, .inl (fun j => nI (re j))))] H → va_D A [(h, .inr (8, [.int (nI i0), .int (nI i1), .ref a2, .ref a3, .ref a4, .ref a5, .ref a6, .ref a7, .ref a8, .int (nI i9), .ref a10, .ref a11, .ref a12, .ref a13, .ref a14, .ref a15, .int (nI i16), .int (nI i17), .ref a18, .int (nI i19), .ref a20, .ref a21, .int (nI i22), .ref a23])), (a11, .inl (cI, 26, .inl (fun j => nI (tr j)))), (a18, .inl (cI, 64, .inl (fun j => nI (re j))))] → va_S A H0 H locs → W p l e R s m args below meth c H locs cells slots Q (F0 m 0 ls []) := by
  obtain ⟨hx, hb, hml, hown, hts⟩ := id S
  intro ls H locs hl hP hD hS
  refine lv_iload_n hx hb d_m_characters_0 rfl (lv_at hl 1 rfl) ?_
  refine lv_iconst (v := nI 1) hx hb d_m_characters_1 (by decide) ?_
  refine n_icmp_ne hx hb d_m_characters_2 (tgt := 10) rfl (by omega) (by omega) (fun g2 => absurd g2 (by decide)) (fun g2 => ?_)
  refine lv_bipush (v := nI 10) hx hb d_m_characters_5 (by decide) ?_
  refine lv_goto hx hb d_m_characters_7 (tgt := 22) rfl ?_
  refine lv_istore_n hx hb d_m_characters_22 rfl hl (Nat.le_of_ble_eq_true rfl) rfl (fun ls hl => ?_)
  have hl : lv_has ls 9 [(3, .int (nI 10)), (0, .ref h), (1, .int (nI 1)), (2, .int (nI dt))] := hl
  refine lv_aload_n hx hb d_m_characters_23 rfl (lv_at hl 1 rfl) ?_
  refine n_get (C := R_Model) (T := F_Model) (N := 24) (v := .int (nI i16)) hx hb hts u_Model_in hown hK hP 0 rfl rfl 16 (by decide) kw_792 rfl d_m_characters_24 ?_
  refine lv_iload_n hx hb d_m_characters_27 rfl (lv_at hl 0 rfl) ?_
  refine n_iadd hx hb d_m_characters_28 ?_
  refine lv_bipush (v := nI 8) hx hb d_m_characters_29 (by decide) ?_
  refine lv_iload_n hx hb d_m_characters_31 rfl (lv_at hl 3 rfl) ?_
  refine n_imul hx hb d_m_characters_32 ?_
  refine n_icmp_le hx hb d_m_characters_33 (tgt := 38) rfl (by omega) (by omega) (fun g33 => absurd g33 (by omega)) (fun g33 => ?_)
  refine lv_iconst (v := nI 0) hx hb d_m_characters_36 (by decide) ?_
  exact kr _ ls H locs d_m_characters_37 hP hD hS
set_option maxHeartbeats 1000000 in
set_option maxRecDepth 100000 in
theorem c_m_characters_1_no (l : Launch) (D : va_G) (cI cC : ClassId) (h i0 i1 a2 a3 a4 a5 a6 a7 a8 i9 a10 a11 a12 a13 a14 a15 i16 i17 a18 i19 a20 a21 i22 a23 : Nat) (tr re : Nat → Nat) (dt : Nat) (hdt : dt ≤ 19) (hp0 : i16 ≤ 208) (hno : 8 * dt < i16 + 10) (sz : Nat) : Met l y_m_characters (cd_m_characters :: WS) { frames := 2, cells := 0, slots := 0, locals := 50 } (va_Pc [.ref h, .int (nI 1), .int (nI dt)] (wP D [(h, .inr (8, [.int (nI i0), .int (nI i1), .ref a2, .ref a3, .ref a4, .ref a5, .ref a6, .ref a7, .ref a8, .int (nI i9), .ref a10, .ref a11, .ref a12, .ref a13, .ref a14, .ref a15, .int (nI i16), .int (nI i17), .ref a18, .int (nI i19), .ref a20, .ref a21, .int (nI i22), .ref a23])), (a11, .inl (cI, 26, .inl (fun j => nI (tr j)))), (a18, .inl (cI, 64, .inl (fun j => nI (re j))))] [(cI, .int), (cC, .char)] sz)) (wQi D (nI 0) [(h, .inr (8, [.int (nI i0), .int (nI i1), .ref a2, .ref a3, .ref a4, .ref a5, .ref a6, .ref a7, .ref a8, .int (nI i9), .ref a10, .ref a11, .ref a12, .ref a13, .ref a14, .ref a15, .int (nI i16), .int (nI i17), .ref a18, .int (nI i19), .ref a20, .ref a21, .int (nI i22), .ref a23])), (a11, .inl (cI, 26, .inl (fun j => nI (tr j)))), (a18, .inl (cI, 64, .inl (fun j => nI (re j))))] [(h, .inr (8, [.int (nI i0), .int (nI i1), .ref a2, .ref a3, .ref a4, .ref a5, .ref a6, .ref a7, .ref a8, .int (nI i9), .ref a10, .ref a11, .ref a12, .ref a13, .ref a14, .ref a15, .int (nI i16), .int (nI i17), .ref a18, .int (nI i19), .ref a20, .ref a21, .int (nI i22), .ref a23])), (a11, .inl (cI, 26, .inl (fun j => nI (tr j)))), (a18, .inl (cI, 64, .inl (fun j => nI (re j))))] sz) 0 0 (va_A [(h, .inr (8, [.int (nI i0), .int (nI i1), .ref a2, .ref a3, .ref a4, .ref a5, .ref a6, .ref a7, .ref a8, .int (nI i9), .ref a10, .ref a11, .ref a12, .ref a13, .ref a14, .ref a15, .int (nI i16), .int (nI i17), .ref a18, .int (nI i19), .ref a20, .ref a21, .int (nI i22), .ref a23])), (a11, .inl (cI, 26, .inl (fun j => nI (tr j)))), (a18, .inl (cI, 64, .inl (fun j => nI (re j))))] sz) := by
  refine Met.ofW (cc := b_m_characters) (maxL := 9) (ret := (some .boolean)) (by decide) rfl ?_
  intro p e s m args below meth c s₁ B hml hv0
  obtain ⟨rfl, hP, hK, hD0, hsz⟩ := hv0
  have hts := atoms_spec (ws := cd_m_characters :: WS) B.pre
  have hown : s.vm.findClass R_Model = some m.cls := findClass_of_methodNamed B.named
  have hlocks := B.notSynchronized
  subst hsz
  have hD := hD0.self (sz := s.heap.size)
  have hl := lv_entry ([.ref h, .int (nI 1), .int (nI dt)]) (n := 9) (Nat.le_of_ble_eq_true rfl)
  rw [lg_entry_eq]
  generalize (lg_sl ([.ref h, .int (nI 1), .int (nI dt)]) ++ List.replicate (9 - (lg_sl ([.ref h, .int (nI 1), .int (nI dt)])).length) Slot.unset).toArray = ls at hl ⊢
  refine bd_m_characters_1_no cI cC h i0 i1 a2 a3 a4 a5 a6 a7 a8 i9 a10 a11 a12 a13 a14 a15 i16 i17 a18 i19 a20 a21 i22 a23 tr re dt hdt hp0 hno ⟨B.exec, B.bytes, hml, hown, hts⟩ (Nat.le_refl _) (Nat.le_refl _) ⟨Nat.le_refl _, Nat.le_refl _⟩ hK (fun q h => Or.inr h) (fun pc ls H locs hd hP hD hS => ?_) ls _ _ hl hP hD (va_S.rf)
  exact W.zret B.exec B.bytes B.returns rfl (fun t ht _ => ⟨⟨_, (), rfl, rfl, (by have h9 := hP; rw [← ht] at h9; exact h9)⟩, hS.F ht⟩) hS.2.2 hd
end
section
variable {p : Program} {l : Launch} {e : Env} {R : Room} {s : State} {m : MethodId} {args : Array Value} {below : List Frame} {meth : Method} {c : Code} {cells slots : Nat} {Q : State → Prop} {A : Nat → Prop} {H0 : Heap} {D : va_G}
set_option maxHeartbeats 1000000 in
set_option maxRecDepth 100000 in
theorem lw_m_characters_1_ok_48 (cI cC : ClassId) (h i0 i1 a2 a3 a4 a5 a6 a7 a8 i9 a10 a11 a12 a13 a14 a15 i16 i17 a18 i19 a20 a21 i22 a23 : Nat) (tr re : Nat → Nat) (dt : Nat) (hdt : dt ≤ 19) (hyes : i16 + 10 ≤ 8 * dt) (hinv : 10 * i17 ≤ 3 * i16) (htr : ∀ j, j < 26 → tr j < 256) (S : CallFix p m c b_m_characters 9 s args (cd_m_characters :: WS) R_Model) (hRf : 2 ≤ R.frames) (hRl : 50 ≤ R.locals) (hRc : cells ≤ R.cells ∧ slots ≤ R.slots) (hK : va_K D classes [(cI, .int), (cC, .char)] s) (hA : ∀ q, H0.size ≤ q → A q) :
    ∀ (n : Nat) (lf : Nat) (pl : Nat) (fd : Nat) (rd : Nat → Nat), (lf ≤ n ∧ lf < 2048) → (10 * fd ≤ 3 * pl) → (pl ≤ 8 * dt) → (∀ (ls : Array Slot) (H : Heap) (locs : List Loc), lv_has ls 9 [(0, .ref h), (5, .int (nI ((chW tr 1 dt n lf pl fd rd).1)))] → va_P D classes [(h, .inr (8, [.int (nI i0), .int (nI i1), .ref a2, .ref a3, .ref a4, .ref a5, .ref a6, .ref a7, .ref a8, .int (nI i9), .ref a10, .ref a11, .ref a12, .ref a13, .ref a14, .ref a15, .int (nI ((chW tr 1 dt n lf pl fd rd).2.1)), .int (nI ((chW tr 1 dt n lf pl fd rd).2.2.1)), .ref a18, .int (nI i19), .ref a20, .ref a21, .int (nI i22), .ref a23])), (a11, .inl (cI, 26, .inl (fun j => nI (tr j)))), (a18, .inl (cI, 64, .inl (fun j => nI (((chW tr 1 dt n lf pl fd rd).2.2.2) j))))] H → va_D A [(h, .inr (8, [.int (nI i0), .int (nI i1), .ref a2, .ref a3, .ref a4, .ref a5, .ref a6, .ref a7, .ref a8, .int (nI i9), .ref a10, .ref a11, .ref a12, .ref a13, .ref a14, .ref a15, .int (nI ((chW tr 1 dt n lf pl fd rd).2.1)), .int (nI ((chW tr 1 dt n lf pl fd rd).2.2.1)), .ref a18, .int (nI i19), .ref a20, .ref a21, .int (nI i22), .ref a23])), (a11, .inl (cI, 26, .inl (fun j => nI (tr j)))), (a18, .inl (cI, 64, .inl (fun j => nI (((chW tr 1 dt n lf pl fd rd).2.2.2) j))))] → va_S A H0 H locs → W p l e R s m args below meth c H locs cells slots Q (F0 m 195 ls [])) → ∀ (ls : Array Slot) (H : Heap) (locs : List Loc), lv_has ls 9 [(0, .ref h), (1, .int (nI 1)), (2, .int (nI dt)), (3, .int (nI 10)), (4, .int (nI lf)), (5, .int (nI 1))] → va_P D classes [(h, .inr (8, [.int (nI i0), .int (nI i1), .ref a2, .ref a3, .ref a4, .ref a5, .ref a6, .ref a7, .ref a8, .int (nI i9), .ref a10, .ref a11, .ref a12, .ref a13, .ref a14, .ref a15, .int (nI pl), .int (nI fd), .ref a18, .int (nI i19), .ref a20, .ref a21, .int (nI i22), .ref a23])), (a11, .inl (cI, 26, .inl (fun j => nI (tr j)))), (a18, .inl (cI, 64, .inl (fun j => nI (rd j))))] H → va_D A [(h, .inr (8, [.int (nI i0), .int (nI i1), .ref a2, .ref a3, .ref a4, .ref a5, .ref a6, .ref a7, .ref a8, .int (nI i9), .ref a10, .ref a11, .ref a12, .ref a13, .ref a14, .ref a15, .int (nI pl), .int (nI fd), .ref a18, .int (nI i19), .ref a20, .ref a21, .int (nI i22), .ref a23])), (a11, .inl (cI, 26, .inl (fun j => nI (tr j)))), (a18, .inl (cI, 64, .inl (fun j => nI (rd j))))] → va_S A H0 H locs → W p l e R s m args below meth c H locs cells slots Q (F0 m 48 ls []) := by
  obtain ⟨hx, hb, hml, hown, hts⟩ := id S
  refine fuel_ind (fun n ih => ?_)
  intro lf pl fd rd hln hi1 hi2 kx ls H locs hl hP hD hS
  refine lv_iload hx hb d_m_characters_48 (lv_at hl 4 rfl) ?_
  refine n_if_le hx hb d_m_characters_50 (tgt := 195) rfl (by omega) (fun g50 => ?_) (fun g50 => ?_)
  · skip
    rw [chW_z (by omega)] at kx
    exact kx ls H locs (lv_sub hl [0, 5] rfl) hP hD hS
  · skip
    refine lv_iload hx hb d_m_characters_53 (lv_at hl 5 rfl) ?_
    refine n_if_eq hx hb d_m_characters_55 (tgt := 195) rfl (by omega) (fun g55 => absurd g55 (by decide)) (fun g55 => ?_)
    refine lv_iload_n hx hb d_m_characters_58 rfl (lv_at hl 1 rfl) ?_
    refine lv_iconst (v := nI 1) hx hb d_m_characters_59 (by decide) ?_
    refine n_icmp_ne hx hb d_m_characters_60 (tgt := 67) rfl (by omega) (by omega) (fun g60 => absurd g60 (by decide)) (fun g60 => ?_)
    refine lv_iconst (v := nI 3) hx hb d_m_characters_63 (by decide) ?_
    refine lv_goto hx hb d_m_characters_64 (tgt := 77) rfl ?_
    refine lv_istore hx hb d_m_characters_77 hl (Nat.le_of_ble_eq_true rfl) rfl (fun ls hl => ?_)
    have hl : lv_has ls 9 [(6, .int (nI 3)), (0, .ref h), (1, .int (nI 1)), (2, .int (nI dt)), (3, .int (nI 10)), (4, .int (nI lf)), (5, .int (nI 1))] := hl
    refine lv_iload hx hb d_m_characters_79 (lv_at hl 5 rfl) ?_
    refine lv_iload hx hb d_m_characters_81 (lv_at hl 0 rfl) ?_
    refine n_icmp_ge hx hb d_m_characters_83 (tgt := 91) rfl (by omega) (by omega) (fun g83 => ?_) (fun g83 => ?_)
    · skip
      refine lv_iload hx hb d_m_characters_91 (lv_at hl 0 rfl) ?_
      refine lv_istore hx hb d_m_characters_93 hl (Nat.le_of_ble_eq_true rfl) rfl (fun ls hl => ?_)
      have hl : lv_has ls 9 [(7, .int (nI 3)), (6, .int (nI 3)), (0, .ref h), (1, .int (nI 1)), (2, .int (nI dt)), (3, .int (nI 10)), (4, .int (nI lf)), (5, .int (nI 1))] := hl
      refine lv_iload_n hx hb d_m_characters_95 rfl (lv_at hl 3 rfl) ?_
      refine lv_iconst (v := nI 4) hx hb d_m_characters_96 (by decide) ?_
      refine n_icmp_ne hx hb d_m_characters_97 (tgt := 105) rfl (by omega) (by omega) (fun g97 => ?_) (fun g97 => absurd g97 (by decide))
      refine lv_iload_n hx hb d_m_characters_105 rfl (lv_at hl 3 rfl) ?_
      refine lv_iconst (v := nI 2) hx hb d_m_characters_106 (by decide) ?_
      refine n_icmp_ne hx hb d_m_characters_107 (tgt := 126) rfl (by omega) (by omega) (fun g107 => ?_) (fun g107 => absurd g107 (by decide))
      refine lv_iload hx hb d_m_characters_126 (lv_at hl 0 rfl) ?_
      refine lv_iconst (v := nI 3) hx hb d_m_characters_128 (by decide) ?_
      refine n_icmp_ne hx hb d_m_characters_129 (tgt := 137) rfl (by omega) (by omega) (fun g129 => absurd g129 (by decide)) (fun g129 => ?_)
      refine lv_bipush (v := nI 10) hx hb d_m_characters_132 (by decide) ?_
      refine lv_goto hx hb d_m_characters_134 (tgt := 149) rfl ?_
      refine lv_istore hx hb d_m_characters_149 hl (Nat.le_of_ble_eq_true rfl) rfl (fun ls hl => ?_)
      have hl : lv_has ls 9 [(8, .int (nI 10)), (7, .int (nI 3)), (6, .int (nI 3)), (0, .ref h), (1, .int (nI 1)), (2, .int (nI dt)), (3, .int (nI 10)), (4, .int (nI lf)), (5, .int (nI 1))] := hl
      rcases Nat.lt_or_ge (8 * dt) (pl + 10) with hrm | hrm
      · skip
        refine lv_aload_n hx hb d_m_characters_151 rfl (lv_at hl 3 rfl) ?_
        refine lv_iload hx hb d_m_characters_152 (lv_at hl 1 rfl) ?_
        refine lv_iload_n hx hb d_m_characters_154 rfl (lv_at hl 4 rfl) ?_
        refine lv_iconst (v := nI 1) hx hb d_m_characters_155 (by decide) ?_
        refine n_icmp_ne hx hb d_m_characters_156 (tgt := 164) rfl (by omega) (by omega) (fun g156 => absurd g156 (by decide)) (fun g156 => ?_)
        refine lv_bipush (v := nI 10) hx hb d_m_characters_159 (by decide) ?_
        refine lv_goto hx hb d_m_characters_161 (tgt := 177) rfl ?_
        refine lv_iload hx hb d_m_characters_177 (lv_at hl 0 rfl) ?_
        refine lv_iload_n hx hb d_m_characters_179 rfl (lv_at hl 5 rfl) ?_
        refine q_writeVi (n := 4) (As := [.int (nI 3), .int (nI 10), .int (nI 10), .int (nI dt)]) (rest := []) (wc := [(h, .inr (8, [.int (nI i0), .int (nI i1), .ref a2, .ref a3, .ref a4, .ref a5, .ref a6, .ref a7, .ref a8, .int (nI i9), .ref a10, .ref a11, .ref a12, .ref a13, .ref a14, .ref a15, .int (nI pl), .int (nI fd), .ref a18, .int (nI i19), .ref a20, .ref a21, .int (nI i22), .ref a23])), (a11, .inl (cI, 26, .inl (fun j => nI (tr j)))), (a18, .inl (cI, 64, .inl (fun j => nI (rd j))))]) (wr := []) (w1 := [(h, .inr (8, [.int (nI i0), .int (nI i1), .ref a2, .ref a3, .ref a4, .ref a5, .ref a6, .ref a7, .ref a8, .int (nI i9), .ref a10, .ref a11, .ref a12, .ref a13, .ref a14, .ref a15, .int (nI pl), .int (nI fd), .ref a18, .int (nI i19), .ref a20, .ref a21, .int (nI i22), .ref a23])), (a11, .inl (cI, 26, .inl (fun j => nI (tr j)))), (a18, .inl (cI, 64, .inl (fun j => nI (rd j))))]) S (c_m_group_no l D cI cC h i0 i1 a2 a3 a4 a5 a6 a7 a8 i9 a10 a11 a12 a13 a14 a15 pl fd a18 i19 a20 a21 i22 a23 tr rd 3 10 10 dt (by omega) (by omega) (by omega) (by omega) H.size) hK hP hD hA (q0 := 0) rfl rfl [0, 1, 2] [] rfl rfl rfl rfl (by decide) rfl (q_goodV kw_988 kw_990 ks_40 kw_10 kw_991) (by decide +kernel) rfl rfl rfl ⟨Nat.le_trans (Nat.le_of_ble_eq_true rfl) hRf, Nat.le_trans (Nat.le_of_ble_eq_true rfl) hRl⟩ rfl hl.1 rfl (Nat.le_of_ble_eq_true rfl) d_m_characters_180 hRc hS (fun H locs hP hD hS => ?_)
        replace hP : va_P D classes [(h, .inr (8, [.int (nI i0), .int (nI i1), .ref a2, .ref a3, .ref a4, .ref a5, .ref a6, .ref a7, .ref a8, .int (nI i9), .ref a10, .ref a11, .ref a12, .ref a13, .ref a14, .ref a15, .int (nI pl), .int (nI fd), .ref a18, .int (nI i19), .ref a20, .ref a21, .int (nI i22), .ref a23])), (a11, .inl (cI, 26, .inl (fun j => nI (tr j)))), (a18, .inl (cI, 64, .inl (fun j => nI (rd j))))] H := hP.sub [0, 1, 2] rfl
        replace hD : va_D A [(h, .inr (8, [.int (nI i0), .int (nI i1), .ref a2, .ref a3, .ref a4, .ref a5, .ref a6, .ref a7, .ref a8, .int (nI i9), .ref a10, .ref a11, .ref a12, .ref a13, .ref a14, .ref a15, .int (nI pl), .int (nI fd), .ref a18, .int (nI i19), .ref a20, .ref a21, .int (nI i22), .ref a23])), (a11, .inl (cI, 26, .inl (fun j => nI (tr j)))), (a18, .inl (cI, 64, .inl (fun j => nI (rd j))))] := hD.sub [0, 1, 2] rfl rfl
        refine lv_istore hx hb d_m_characters_183 hl (Nat.le_of_ble_eq_true rfl) rfl (fun ls hl => ?_)
        have hl : lv_has ls 9 [(5, .int (nI 0)), (8, .int (nI 10)), (7, .int (nI 3)), (6, .int (nI 3)), (0, .ref h), (1, .int (nI 1)), (2, .int (nI dt)), (3, .int (nI 10)), (4, .int (nI lf))] := hl
        refine lv_iload hx hb d_m_characters_185 (lv_at hl 8 rfl) ?_
        refine lv_iload hx hb d_m_characters_187 (lv_at hl 2 rfl) ?_
        refine n_isub hx hb d_m_characters_189 (by omega) ?_
        refine lv_istore hx hb d_m_characters_190 hl (Nat.le_of_ble_eq_true rfl) rfl (fun ls hl => ?_)
        have hl : lv_has ls 9 [(4, .int (nI (lf - 3))), (5, .int (nI 0)), (8, .int (nI 10)), (7, .int (nI 3)), (6, .int (nI 3)), (0, .ref h), (1, .int (nI 1)), (2, .int (nI dt)), (3, .int (nI 10))] := hl
        refine lv_goto hx hb d_m_characters_192 (tgt := 48) rfl ?_
        refine lv_iload hx hb d_m_characters_48 (lv_at hl 0 rfl) ?_
        refine n_if_le hx hb d_m_characters_50 (tgt := 195) rfl (by omega) (fun g50 => ?_) (fun g50 => ?_)
        · skip
          obtain ⟨m9, rfl⟩ : ∃ m9, n = m9 + 1 := ⟨n - 1, by omega⟩
          rw [chW_no (x := 3) (z := 10) (by omega) (by show min lf 3 = 3; omega) (by first | rfl | (unfold gsz; (repeat' split) <;> omega)) hrm] at kx
          exact kx ls H locs (lv_sub hl [5, 1] rfl) hP hD hS
        · skip
          refine lv_iload hx hb d_m_characters_53 (lv_at hl 1 rfl) ?_
          refine n_if_eq hx hb d_m_characters_55 (tgt := 195) rfl (by omega) (fun g55 => ?_) (fun g55 => absurd g55 (by decide))
          obtain ⟨m9, rfl⟩ : ∃ m9, n = m9 + 1 := ⟨n - 1, by omega⟩
          rw [chW_no (x := 3) (z := 10) (by omega) (by show min lf 3 = 3; omega) (by first | rfl | (unfold gsz; (repeat' split) <;> omega)) hrm] at kx
          exact kx ls H locs (lv_sub hl [5, 1] rfl) hP hD hS
      · skip
        refine lv_aload_n hx hb d_m_characters_151 rfl (lv_at hl 3 rfl) ?_
        refine lv_iload hx hb d_m_characters_152 (lv_at hl 1 rfl) ?_
        refine lv_iload_n hx hb d_m_characters_154 rfl (lv_at hl 4 rfl) ?_
        refine lv_iconst (v := nI 1) hx hb d_m_characters_155 (by decide) ?_
        refine n_icmp_ne hx hb d_m_characters_156 (tgt := 164) rfl (by omega) (by omega) (fun g156 => absurd g156 (by decide)) (fun g156 => ?_)
        refine lv_bipush (v := nI 10) hx hb d_m_characters_159 (by decide) ?_
        refine lv_goto hx hb d_m_characters_161 (tgt := 177) rfl ?_
        refine lv_iload hx hb d_m_characters_177 (lv_at hl 0 rfl) ?_
        refine lv_iload_n hx hb d_m_characters_179 rfl (lv_at hl 5 rfl) ?_
        refine q_writeVi (n := 4) (As := [.int (nI 3), .int (nI 10), .int (nI 10), .int (nI dt)]) (rest := []) (wc := [(h, .inr (8, [.int (nI i0), .int (nI i1), .ref a2, .ref a3, .ref a4, .ref a5, .ref a6, .ref a7, .ref a8, .int (nI i9), .ref a10, .ref a11, .ref a12, .ref a13, .ref a14, .ref a15, .int (nI pl), .int (nI fd), .ref a18, .int (nI i19), .ref a20, .ref a21, .int (nI i22), .ref a23])), (a11, .inl (cI, 26, .inl (fun j => nI (tr j)))), (a18, .inl (cI, 64, .inl (fun j => nI (rd j))))]) (wr := []) (w1 := [(h, .inr (8, [.int (nI i0), .int (nI i1), .ref a2, .ref a3, .ref a4, .ref a5, .ref a6, .ref a7, .ref a8, .int (nI i9), .ref a10, .ref a11, .ref a12, .ref a13, .ref a14, .ref a15, .int (nI (pl + 10)), .int (nI (fd + 3)), .ref a18, .int (nI i19), .ref a20, .ref a21, .int (nI i22), .ref a23])), (a11, .inl (cI, 26, .inl (fun j => nI (tr j)))), (a18, .inl (cI, 64, .inl (fun j => nI ((gpR rd fd 3 10 (nxL tr pl 10) 3) j))))]) S (c_m_group_ok l D cI cC h i0 i1 a2 a3 a4 a5 a6 a7 a8 i9 a10 a11 a12 a13 a14 a15 pl fd a18 i19 a20 a21 i22 a23 tr rd 3 10 10 dt (by omega) (by omega) (by omega) (by omega) (by omega) (by omega) htr H.size) hK hP hD hA (q0 := 0) rfl rfl [0, 1, 2] [] rfl rfl rfl rfl (by decide) rfl (q_goodV kw_988 kw_990 ks_40 kw_10 kw_991) (by decide +kernel) rfl rfl rfl ⟨Nat.le_trans (Nat.le_of_ble_eq_true rfl) hRf, Nat.le_trans (Nat.le_of_ble_eq_true rfl) hRl⟩ rfl hl.1 rfl (Nat.le_of_ble_eq_true rfl) d_m_characters_180 hRc hS (fun H locs hP hD hS => ?_)
        replace hP : va_P D classes [(h, .inr (8, [.int (nI i0), .int (nI i1), .ref a2, .ref a3, .ref a4, .ref a5, .ref a6, .ref a7, .ref a8, .int (nI i9), .ref a10, .ref a11, .ref a12, .ref a13, .ref a14, .ref a15, .int (nI (pl + 10)), .int (nI (fd + 3)), .ref a18, .int (nI i19), .ref a20, .ref a21, .int (nI i22), .ref a23])), (a11, .inl (cI, 26, .inl (fun j => nI (tr j)))), (a18, .inl (cI, 64, .inl (fun j => nI ((gpR rd fd 3 10 (nxL tr pl 10) 3) j))))] H := hP.sub [0, 1, 2] rfl
        replace hD : va_D A [(h, .inr (8, [.int (nI i0), .int (nI i1), .ref a2, .ref a3, .ref a4, .ref a5, .ref a6, .ref a7, .ref a8, .int (nI i9), .ref a10, .ref a11, .ref a12, .ref a13, .ref a14, .ref a15, .int (nI (pl + 10)), .int (nI (fd + 3)), .ref a18, .int (nI i19), .ref a20, .ref a21, .int (nI i22), .ref a23])), (a11, .inl (cI, 26, .inl (fun j => nI (tr j)))), (a18, .inl (cI, 64, .inl (fun j => nI ((gpR rd fd 3 10 (nxL tr pl 10) 3) j))))] := hD.sub [0, 1, 2] rfl rfl
        by_cases hgd : gpV (nxL tr pl 10) 10 3 = 0
        · skip
          refine n_topn (show bN (gpV (nxL tr pl 10) 10 3 = 0) = 1 from bN_t hgd) ?_
          refine lv_istore hx hb d_m_characters_183 hl (Nat.le_of_ble_eq_true rfl) rfl (fun ls hl => ?_)
          have hl : lv_has ls 9 [(5, .int (nI 1)), (8, .int (nI 10)), (7, .int (nI 3)), (6, .int (nI 3)), (0, .ref h), (1, .int (nI 1)), (2, .int (nI dt)), (3, .int (nI 10)), (4, .int (nI lf))] := hl
          refine lv_iload hx hb d_m_characters_185 (lv_at hl 8 rfl) ?_
          refine lv_iload hx hb d_m_characters_187 (lv_at hl 2 rfl) ?_
          refine n_isub hx hb d_m_characters_189 (by omega) ?_
          refine lv_istore hx hb d_m_characters_190 hl (Nat.le_of_ble_eq_true rfl) rfl (fun ls hl => ?_)
          have hl : lv_has ls 9 [(4, .int (nI (lf - 3))), (5, .int (nI 1)), (8, .int (nI 10)), (7, .int (nI 3)), (6, .int (nI 3)), (0, .ref h), (1, .int (nI 1)), (2, .int (nI dt)), (3, .int (nI 10))] := hl
          refine lv_goto hx hb d_m_characters_192 (tgt := 48) rfl ?_
          obtain ⟨m9, rfl⟩ : ∃ m9, n = m9 + 1 := ⟨n - 1, by omega⟩
          rw [chW_s (x := 3) (z := 10) (by omega) (by show min lf 3 = 3; omega) (by first | rfl | (unfold gsz; (repeat' split) <;> omega)) hrm hgd] at kx
          exact ih _ rfl (lf - 3) (pl + 10) (fd + 3) (gpR rd fd 3 10 (nxL tr pl 10) 3) ⟨by omega, by omega⟩ (by omega) (by omega) kx ls H locs (lv_sub hl [5, 6, 7, 8, 0, 1] rfl) hP hD hS
        · skip
          refine n_topn (show bN (gpV (nxL tr pl 10) 10 3 = 0) = 0 from bN_f hgd) ?_
          refine lv_istore hx hb d_m_characters_183 hl (Nat.le_of_ble_eq_true rfl) rfl (fun ls hl => ?_)
          have hl : lv_has ls 9 [(5, .int (nI 0)), (8, .int (nI 10)), (7, .int (nI 3)), (6, .int (nI 3)), (0, .ref h), (1, .int (nI 1)), (2, .int (nI dt)), (3, .int (nI 10)), (4, .int (nI lf))] := hl
          refine lv_iload hx hb d_m_characters_185 (lv_at hl 8 rfl) ?_
          refine lv_iload hx hb d_m_characters_187 (lv_at hl 2 rfl) ?_
          refine n_isub hx hb d_m_characters_189 (by omega) ?_
          refine lv_istore hx hb d_m_characters_190 hl (Nat.le_of_ble_eq_true rfl) rfl (fun ls hl => ?_)
          have hl : lv_has ls 9 [(4, .int (nI (lf - 3))), (5, .int (nI 0)), (8, .int (nI 10)), (7, .int (nI 3)), (6, .int (nI 3)), (0, .ref h), (1, .int (nI 1)), (2, .int (nI dt)), (3, .int (nI 10))] := hl
          refine lv_goto hx hb d_m_characters_192 (tgt := 48) rfl ?_
          refine lv_iload hx hb d_m_characters_48 (lv_at hl 0 rfl) ?_
          refine n_if_le hx hb d_m_characters_50 (tgt := 195) rfl (by omega) (fun g50 => ?_) (fun g50 => ?_)
          · skip
            obtain ⟨m9, rfl⟩ : ∃ m9, n = m9 + 1 := ⟨n - 1, by omega⟩
            rw [chW_bad (x := 3) (z := 10) (by omega) (by show min lf 3 = 3; omega) (by first | rfl | (unfold gsz; (repeat' split) <;> omega)) hrm hgd] at kx
            exact kx ls H locs (lv_sub hl [5, 1] rfl) hP hD hS
          · skip
            refine lv_iload hx hb d_m_characters_53 (lv_at hl 1 rfl) ?_
            refine n_if_eq hx hb d_m_characters_55 (tgt := 195) rfl (by omega) (fun g55 => ?_) (fun g55 => absurd g55 (by decide))
            obtain ⟨m9, rfl⟩ : ∃ m9, n = m9 + 1 := ⟨n - 1, by omega⟩
            rw [chW_bad (x := 3) (z := 10) (by omega) (by show min lf 3 = 3; omega) (by first | rfl | (unfold gsz; (repeat' split) <;> omega)) hrm hgd] at kx
            exact kx ls H locs (lv_sub hl [5, 1] rfl) hP hD hS
    · skip
      refine lv_iload hx hb d_m_characters_86 (lv_at hl 5 rfl) ?_
      refine lv_goto hx hb d_m_characters_88 (tgt := 93) rfl ?_
      refine lv_istore hx hb d_m_characters_93 hl (Nat.le_of_ble_eq_true rfl) rfl (fun ls hl => ?_)
      have hl : lv_has ls 9 [(7, .int (nI lf)), (6, .int (nI 3)), (0, .ref h), (1, .int (nI 1)), (2, .int (nI dt)), (3, .int (nI 10)), (4, .int (nI lf)), (5, .int (nI 1))] := hl
      refine lv_iload_n hx hb d_m_characters_95 rfl (lv_at hl 3 rfl) ?_
      refine lv_iconst (v := nI 4) hx hb d_m_characters_96 (by decide) ?_
      refine n_icmp_ne hx hb d_m_characters_97 (tgt := 105) rfl (by omega) (by omega) (fun g97 => ?_) (fun g97 => absurd g97 (by decide))
      refine lv_iload_n hx hb d_m_characters_105 rfl (lv_at hl 3 rfl) ?_
      refine lv_iconst (v := nI 2) hx hb d_m_characters_106 (by decide) ?_
      refine n_icmp_ne hx hb d_m_characters_107 (tgt := 126) rfl (by omega) (by omega) (fun g107 => ?_) (fun g107 => absurd g107 (by decide))
      refine lv_iload hx hb d_m_characters_126 (lv_at hl 0 rfl) ?_
      refine lv_iconst (v := nI 3) hx hb d_m_characters_128 (by decide) ?_
      refine n_icmp_ne hx hb d_m_characters_129 (tgt := 137) rfl (by omega) (by omega) (fun g129 => ?_) (fun g129 => ?_)
      · skip
        refine lv_iload hx hb d_m_characters_137 (lv_at hl 0 rfl) ?_
        refine lv_iconst (v := nI 2) hx hb d_m_characters_139 (by decide) ?_
        refine n_icmp_ne hx hb d_m_characters_140 (tgt := 148) rfl (by omega) (by omega) (fun g140 => ?_) (fun g140 => ?_)
        · skip
          refine lv_iconst (v := nI 4) hx hb d_m_characters_148 (by decide) ?_
          refine lv_istore hx hb d_m_characters_149 hl (Nat.le_of_ble_eq_true rfl) rfl (fun ls hl => ?_)
          have hl : lv_has ls 9 [(8, .int (nI 4)), (7, .int (nI lf)), (6, .int (nI 3)), (0, .ref h), (1, .int (nI 1)), (2, .int (nI dt)), (3, .int (nI 10)), (4, .int (nI lf)), (5, .int (nI 1))] := hl
          rcases Nat.lt_or_ge (8 * dt) (pl + 4) with hrm | hrm
          · skip
            refine lv_aload_n hx hb d_m_characters_151 rfl (lv_at hl 3 rfl) ?_
            refine lv_iload hx hb d_m_characters_152 (lv_at hl 1 rfl) ?_
            refine lv_iload_n hx hb d_m_characters_154 rfl (lv_at hl 4 rfl) ?_
            refine lv_iconst (v := nI 1) hx hb d_m_characters_155 (by decide) ?_
            refine n_icmp_ne hx hb d_m_characters_156 (tgt := 164) rfl (by omega) (by omega) (fun g156 => absurd g156 (by decide)) (fun g156 => ?_)
            refine lv_bipush (v := nI 10) hx hb d_m_characters_159 (by decide) ?_
            refine lv_goto hx hb d_m_characters_161 (tgt := 177) rfl ?_
            refine lv_iload hx hb d_m_characters_177 (lv_at hl 0 rfl) ?_
            refine lv_iload_n hx hb d_m_characters_179 rfl (lv_at hl 5 rfl) ?_
            refine q_writeVi (n := 4) (As := [.int (nI lf), .int (nI 10), .int (nI 4), .int (nI dt)]) (rest := []) (wc := [(h, .inr (8, [.int (nI i0), .int (nI i1), .ref a2, .ref a3, .ref a4, .ref a5, .ref a6, .ref a7, .ref a8, .int (nI i9), .ref a10, .ref a11, .ref a12, .ref a13, .ref a14, .ref a15, .int (nI pl), .int (nI fd), .ref a18, .int (nI i19), .ref a20, .ref a21, .int (nI i22), .ref a23])), (a11, .inl (cI, 26, .inl (fun j => nI (tr j)))), (a18, .inl (cI, 64, .inl (fun j => nI (rd j))))]) (wr := []) (w1 := [(h, .inr (8, [.int (nI i0), .int (nI i1), .ref a2, .ref a3, .ref a4, .ref a5, .ref a6, .ref a7, .ref a8, .int (nI i9), .ref a10, .ref a11, .ref a12, .ref a13, .ref a14, .ref a15, .int (nI pl), .int (nI fd), .ref a18, .int (nI i19), .ref a20, .ref a21, .int (nI i22), .ref a23])), (a11, .inl (cI, 26, .inl (fun j => nI (tr j)))), (a18, .inl (cI, 64, .inl (fun j => nI (rd j))))]) S (c_m_group_no l D cI cC h i0 i1 a2 a3 a4 a5 a6 a7 a8 i9 a10 a11 a12 a13 a14 a15 pl fd a18 i19 a20 a21 i22 a23 tr rd lf 10 4 dt (by omega) (by omega) (by omega) (by omega) H.size) hK hP hD hA (q0 := 0) rfl rfl [0, 1, 2] [] rfl rfl rfl rfl (by decide) rfl (q_goodV kw_988 kw_990 ks_40 kw_10 kw_991) (by decide +kernel) rfl rfl rfl ⟨Nat.le_trans (Nat.le_of_ble_eq_true rfl) hRf, Nat.le_trans (Nat.le_of_ble_eq_true rfl) hRl⟩ rfl hl.1 rfl (Nat.le_of_ble_eq_true rfl) d_m_characters_180 hRc hS (fun H locs hP hD hS => ?_)
            replace hP : va_P D classes [(h, .inr (8, [.int (nI i0), .int (nI i1), .ref a2, .ref a3, .ref a4, .ref a5, .ref a6, .ref a7, .ref a8, .int (nI i9), .ref a10, .ref a11, .ref a12, .ref a13, .ref a14, .ref a15, .int (nI pl), .int (nI fd), .ref a18, .int (nI i19), .ref a20, .ref a21, .int (nI i22), .ref a23])), (a11, .inl (cI, 26, .inl (fun j => nI (tr j)))), (a18, .inl (cI, 64, .inl (fun j => nI (rd j))))] H := hP.sub [0, 1, 2] rfl
            replace hD : va_D A [(h, .inr (8, [.int (nI i0), .int (nI i1), .ref a2, .ref a3, .ref a4, .ref a5, .ref a6, .ref a7, .ref a8, .int (nI i9), .ref a10, .ref a11, .ref a12, .ref a13, .ref a14, .ref a15, .int (nI pl), .int (nI fd), .ref a18, .int (nI i19), .ref a20, .ref a21, .int (nI i22), .ref a23])), (a11, .inl (cI, 26, .inl (fun j => nI (tr j)))), (a18, .inl (cI, 64, .inl (fun j => nI (rd j))))] := hD.sub [0, 1, 2] rfl rfl
            refine lv_istore hx hb d_m_characters_183 hl (Nat.le_of_ble_eq_true rfl) rfl (fun ls hl => ?_)
            have hl : lv_has ls 9 [(5, .int (nI 0)), (8, .int (nI 4)), (7, .int (nI lf)), (6, .int (nI 3)), (0, .ref h), (1, .int (nI 1)), (2, .int (nI dt)), (3, .int (nI 10)), (4, .int (nI lf))] := hl
            refine lv_iload hx hb d_m_characters_185 (lv_at hl 8 rfl) ?_
            refine lv_iload hx hb d_m_characters_187 (lv_at hl 2 rfl) ?_
            refine n_isub hx hb d_m_characters_189 (by omega) ?_
            refine lv_istore hx hb d_m_characters_190 hl (Nat.le_of_ble_eq_true rfl) rfl (fun ls hl => ?_)
            have hl : lv_has ls 9 [(4, .int (nI (lf - lf))), (5, .int (nI 0)), (8, .int (nI 4)), (7, .int (nI lf)), (6, .int (nI 3)), (0, .ref h), (1, .int (nI 1)), (2, .int (nI dt)), (3, .int (nI 10))] := hl
            refine lv_goto hx hb d_m_characters_192 (tgt := 48) rfl ?_
            refine lv_iload hx hb d_m_characters_48 (lv_at hl 0 rfl) ?_
            refine n_if_le hx hb d_m_characters_50 (tgt := 195) rfl (by omega) (fun g50 => ?_) (fun g50 => ?_)
            · skip
              obtain ⟨m9, rfl⟩ : ∃ m9, n = m9 + 1 := ⟨n - 1, by omega⟩
              rw [chW_no (x := lf) (z := 4) (by omega) (by show min lf 3 = lf; omega) (by first | rfl | (unfold gsz; (repeat' split) <;> omega)) hrm] at kx
              exact kx ls H locs (lv_sub hl [5, 1] rfl) hP hD hS
            · skip
              refine lv_iload hx hb d_m_characters_53 (lv_at hl 1 rfl) ?_
              refine n_if_eq hx hb d_m_characters_55 (tgt := 195) rfl (by omega) (fun g55 => ?_) (fun g55 => absurd g55 (by decide))
              obtain ⟨m9, rfl⟩ : ∃ m9, n = m9 + 1 := ⟨n - 1, by omega⟩
              rw [chW_no (x := lf) (z := 4) (by omega) (by show min lf 3 = lf; omega) (by first | rfl | (unfold gsz; (repeat' split) <;> omega)) hrm] at kx
              exact kx ls H locs (lv_sub hl [5, 1] rfl) hP hD hS
          · skip
            refine lv_aload_n hx hb d_m_characters_151 rfl (lv_at hl 3 rfl) ?_
            refine lv_iload hx hb d_m_characters_152 (lv_at hl 1 rfl) ?_
            refine lv_iload_n hx hb d_m_characters_154 rfl (lv_at hl 4 rfl) ?_
            refine lv_iconst (v := nI 1) hx hb d_m_characters_155 (by decide) ?_
            refine n_icmp_ne hx hb d_m_characters_156 (tgt := 164) rfl (by omega) (by omega) (fun g156 => absurd g156 (by decide)) (fun g156 => ?_)
            refine lv_bipush (v := nI 10) hx hb d_m_characters_159 (by decide) ?_
            refine lv_goto hx hb d_m_characters_161 (tgt := 177) rfl ?_
            refine lv_iload hx hb d_m_characters_177 (lv_at hl 0 rfl) ?_
            refine lv_iload_n hx hb d_m_characters_179 rfl (lv_at hl 5 rfl) ?_
            refine q_writeVi (n := 4) (As := [.int (nI lf), .int (nI 10), .int (nI 4), .int (nI dt)]) (rest := []) (wc := [(h, .inr (8, [.int (nI i0), .int (nI i1), .ref a2, .ref a3, .ref a4, .ref a5, .ref a6, .ref a7, .ref a8, .int (nI i9), .ref a10, .ref a11, .ref a12, .ref a13, .ref a14, .ref a15, .int (nI pl), .int (nI fd), .ref a18, .int (nI i19), .ref a20, .ref a21, .int (nI i22), .ref a23])), (a11, .inl (cI, 26, .inl (fun j => nI (tr j)))), (a18, .inl (cI, 64, .inl (fun j => nI (rd j))))]) (wr := []) (w1 := [(h, .inr (8, [.int (nI i0), .int (nI i1), .ref a2, .ref a3, .ref a4, .ref a5, .ref a6, .ref a7, .ref a8, .int (nI i9), .ref a10, .ref a11, .ref a12, .ref a13, .ref a14, .ref a15, .int (nI (pl + 4)), .int (nI (fd + lf)), .ref a18, .int (nI i19), .ref a20, .ref a21, .int (nI i22), .ref a23])), (a11, .inl (cI, 26, .inl (fun j => nI (tr j)))), (a18, .inl (cI, 64, .inl (fun j => nI ((gpR rd fd lf 10 (nxL tr pl 4) lf) j))))]) S (c_m_group_ok l D cI cC h i0 i1 a2 a3 a4 a5 a6 a7 a8 i9 a10 a11 a12 a13 a14 a15 pl fd a18 i19 a20 a21 i22 a23 tr rd lf 10 4 dt (by omega) (by omega) (by omega) (by omega) (by omega) (by omega) htr H.size) hK hP hD hA (q0 := 0) rfl rfl [0, 1, 2] [] rfl rfl rfl rfl (by decide) rfl (q_goodV kw_988 kw_990 ks_40 kw_10 kw_991) (by decide +kernel) rfl rfl rfl ⟨Nat.le_trans (Nat.le_of_ble_eq_true rfl) hRf, Nat.le_trans (Nat.le_of_ble_eq_true rfl) hRl⟩ rfl hl.1 rfl (Nat.le_of_ble_eq_true rfl) d_m_characters_180 hRc hS (fun H locs hP hD hS => ?_)
            replace hP : va_P D classes [(h, .inr (8, [.int (nI i0), .int (nI i1), .ref a2, .ref a3, .ref a4, .ref a5, .ref a6, .ref a7, .ref a8, .int (nI i9), .ref a10, .ref a11, .ref a12, .ref a13, .ref a14, .ref a15, .int (nI (pl + 4)), .int (nI (fd + lf)), .ref a18, .int (nI i19), .ref a20, .ref a21, .int (nI i22), .ref a23])), (a11, .inl (cI, 26, .inl (fun j => nI (tr j)))), (a18, .inl (cI, 64, .inl (fun j => nI ((gpR rd fd lf 10 (nxL tr pl 4) lf) j))))] H := hP.sub [0, 1, 2] rfl
            replace hD : va_D A [(h, .inr (8, [.int (nI i0), .int (nI i1), .ref a2, .ref a3, .ref a4, .ref a5, .ref a6, .ref a7, .ref a8, .int (nI i9), .ref a10, .ref a11, .ref a12, .ref a13, .ref a14, .ref a15, .int (nI (pl + 4)), .int (nI (fd + lf)), .ref a18, .int (nI i19), .ref a20, .ref a21, .int (nI i22), .ref a23])), (a11, .inl (cI, 26, .inl (fun j => nI (tr j)))), (a18, .inl (cI, 64, .inl (fun j => nI ((gpR rd fd lf 10 (nxL tr pl 4) lf) j))))] := hD.sub [0, 1, 2] rfl rfl
            by_cases hgd : gpV (nxL tr pl 4) 10 lf = 0
            · skip
              refine n_topn (show bN (gpV (nxL tr pl 4) 10 lf = 0) = 1 from bN_t hgd) ?_
              refine lv_istore hx hb d_m_characters_183 hl (Nat.le_of_ble_eq_true rfl) rfl (fun ls hl => ?_)
              have hl : lv_has ls 9 [(5, .int (nI 1)), (8, .int (nI 4)), (7, .int (nI lf)), (6, .int (nI 3)), (0, .ref h), (1, .int (nI 1)), (2, .int (nI dt)), (3, .int (nI 10)), (4, .int (nI lf))] := hl
              refine lv_iload hx hb d_m_characters_185 (lv_at hl 8 rfl) ?_
              refine lv_iload hx hb d_m_characters_187 (lv_at hl 2 rfl) ?_
              refine n_isub hx hb d_m_characters_189 (by omega) ?_
              refine lv_istore hx hb d_m_characters_190 hl (Nat.le_of_ble_eq_true rfl) rfl (fun ls hl => ?_)
              have hl : lv_has ls 9 [(4, .int (nI (lf - lf))), (5, .int (nI 1)), (8, .int (nI 4)), (7, .int (nI lf)), (6, .int (nI 3)), (0, .ref h), (1, .int (nI 1)), (2, .int (nI dt)), (3, .int (nI 10))] := hl
              refine lv_goto hx hb d_m_characters_192 (tgt := 48) rfl ?_
              obtain ⟨m9, rfl⟩ : ∃ m9, n = m9 + 1 := ⟨n - 1, by omega⟩
              rw [chW_s (x := lf) (z := 4) (by omega) (by show min lf 3 = lf; omega) (by first | rfl | (unfold gsz; (repeat' split) <;> omega)) hrm hgd] at kx
              exact ih _ rfl (lf - lf) (pl + 4) (fd + lf) (gpR rd fd lf 10 (nxL tr pl 4) lf) ⟨by omega, by omega⟩ (by omega) (by omega) kx ls H locs (lv_sub hl [5, 6, 7, 8, 0, 1] rfl) hP hD hS
            · skip
              refine n_topn (show bN (gpV (nxL tr pl 4) 10 lf = 0) = 0 from bN_f hgd) ?_
              refine lv_istore hx hb d_m_characters_183 hl (Nat.le_of_ble_eq_true rfl) rfl (fun ls hl => ?_)
              have hl : lv_has ls 9 [(5, .int (nI 0)), (8, .int (nI 4)), (7, .int (nI lf)), (6, .int (nI 3)), (0, .ref h), (1, .int (nI 1)), (2, .int (nI dt)), (3, .int (nI 10)), (4, .int (nI lf))] := hl
              refine lv_iload hx hb d_m_characters_185 (lv_at hl 8 rfl) ?_
              refine lv_iload hx hb d_m_characters_187 (lv_at hl 2 rfl) ?_
              refine n_isub hx hb d_m_characters_189 (by omega) ?_
              refine lv_istore hx hb d_m_characters_190 hl (Nat.le_of_ble_eq_true rfl) rfl (fun ls hl => ?_)
              have hl : lv_has ls 9 [(4, .int (nI (lf - lf))), (5, .int (nI 0)), (8, .int (nI 4)), (7, .int (nI lf)), (6, .int (nI 3)), (0, .ref h), (1, .int (nI 1)), (2, .int (nI dt)), (3, .int (nI 10))] := hl
              refine lv_goto hx hb d_m_characters_192 (tgt := 48) rfl ?_
              refine lv_iload hx hb d_m_characters_48 (lv_at hl 0 rfl) ?_
              refine n_if_le hx hb d_m_characters_50 (tgt := 195) rfl (by omega) (fun g50 => ?_) (fun g50 => ?_)
              · skip
                obtain ⟨m9, rfl⟩ : ∃ m9, n = m9 + 1 := ⟨n - 1, by omega⟩
                rw [chW_bad (x := lf) (z := 4) (by omega) (by show min lf 3 = lf; omega) (by first | rfl | (unfold gsz; (repeat' split) <;> omega)) hrm hgd] at kx
                exact kx ls H locs (lv_sub hl [5, 1] rfl) hP hD hS
              · skip
                refine lv_iload hx hb d_m_characters_53 (lv_at hl 1 rfl) ?_
                refine n_if_eq hx hb d_m_characters_55 (tgt := 195) rfl (by omega) (fun g55 => ?_) (fun g55 => absurd g55 (by decide))
                obtain ⟨m9, rfl⟩ : ∃ m9, n = m9 + 1 := ⟨n - 1, by omega⟩
                rw [chW_bad (x := lf) (z := 4) (by omega) (by show min lf 3 = lf; omega) (by first | rfl | (unfold gsz; (repeat' split) <;> omega)) hrm hgd] at kx
                exact kx ls H locs (lv_sub hl [5, 1] rfl) hP hD hS
        · skip
          refine lv_bipush (v := nI 7) hx hb d_m_characters_143 (by decide) ?_
          refine lv_goto hx hb d_m_characters_145 (tgt := 149) rfl ?_
          refine lv_istore hx hb d_m_characters_149 hl (Nat.le_of_ble_eq_true rfl) rfl (fun ls hl => ?_)
          have hl : lv_has ls 9 [(8, .int (nI 7)), (7, .int (nI lf)), (6, .int (nI 3)), (0, .ref h), (1, .int (nI 1)), (2, .int (nI dt)), (3, .int (nI 10)), (4, .int (nI lf)), (5, .int (nI 1))] := hl
          rcases Nat.lt_or_ge (8 * dt) (pl + 7) with hrm | hrm
          · skip
            refine lv_aload_n hx hb d_m_characters_151 rfl (lv_at hl 3 rfl) ?_
            refine lv_iload hx hb d_m_characters_152 (lv_at hl 1 rfl) ?_
            refine lv_iload_n hx hb d_m_characters_154 rfl (lv_at hl 4 rfl) ?_
            refine lv_iconst (v := nI 1) hx hb d_m_characters_155 (by decide) ?_
            refine n_icmp_ne hx hb d_m_characters_156 (tgt := 164) rfl (by omega) (by omega) (fun g156 => absurd g156 (by decide)) (fun g156 => ?_)
            refine lv_bipush (v := nI 10) hx hb d_m_characters_159 (by decide) ?_
            refine lv_goto hx hb d_m_characters_161 (tgt := 177) rfl ?_
            refine lv_iload hx hb d_m_characters_177 (lv_at hl 0 rfl) ?_
            refine lv_iload_n hx hb d_m_characters_179 rfl (lv_at hl 5 rfl) ?_
            refine q_writeVi (n := 4) (As := [.int (nI lf), .int (nI 10), .int (nI 7), .int (nI dt)]) (rest := []) (wc := [(h, .inr (8, [.int (nI i0), .int (nI i1), .ref a2, .ref a3, .ref a4, .ref a5, .ref a6, .ref a7, .ref a8, .int (nI i9), .ref a10, .ref a11, .ref a12, .ref a13, .ref a14, .ref a15, .int (nI pl), .int (nI fd), .ref a18, .int (nI i19), .ref a20, .ref a21, .int (nI i22), .ref a23])), (a11, .inl (cI, 26, .inl (fun j => nI (tr j)))), (a18, .inl (cI, 64, .inl (fun j => nI (rd j))))]) (wr := []) (w1 := [(h, .inr (8, [.int (nI i0), .int (nI i1), .ref a2, .ref a3, .ref a4, .ref a5, .ref a6, .ref a7, .ref a8, .int (nI i9), .ref a10, .ref a11, .ref a12, .ref a13, .ref a14, .ref a15, .int (nI pl), .int (nI fd), .ref a18, .int (nI i19), .ref a20, .ref a21, .int (nI i22), .ref a23])), (a11, .inl (cI, 26, .inl (fun j => nI (tr j)))), (a18, .inl (cI, 64, .inl (fun j => nI (rd j))))]) S (c_m_group_no l D cI cC h i0 i1 a2 a3 a4 a5 a6 a7 a8 i9 a10 a11 a12 a13 a14 a15 pl fd a18 i19 a20 a21 i22 a23 tr rd lf 10 7 dt (by omega) (by omega) (by omega) (by omega) H.size) hK hP hD hA (q0 := 0) rfl rfl [0, 1, 2] [] rfl rfl rfl rfl (by decide) rfl (q_goodV kw_988 kw_990 ks_40 kw_10 kw_991) (by decide +kernel) rfl rfl rfl ⟨Nat.le_trans (Nat.le_of_ble_eq_true rfl) hRf, Nat.le_trans (Nat.le_of_ble_eq_true rfl) hRl⟩ rfl hl.1 rfl (Nat.le_of_ble_eq_true rfl) d_m_characters_180 hRc hS (fun H locs hP hD hS => ?_)
            replace hP : va_P D classes [(h, .inr (8, [.int (nI i0), .int (nI i1), .ref a2, .ref a3, .ref a4, .ref a5, .ref a6, .ref a7, .ref a8, .int (nI i9), .ref a10, .ref a11, .ref a12, .ref a13, .ref a14, .ref a15, .int (nI pl), .int (nI fd), .ref a18, .int (nI i19), .ref a20, .ref a21, .int (nI i22), .ref a23])), (a11, .inl (cI, 26, .inl (fun j => nI (tr j)))), (a18, .inl (cI, 64, .inl (fun j => nI (rd j))))] H := hP.sub [0, 1, 2] rfl
            replace hD : va_D A [(h, .inr (8, [.int (nI i0), .int (nI i1), .ref a2, .ref a3, .ref a4, .ref a5, .ref a6, .ref a7, .ref a8, .int (nI i9), .ref a10, .ref a11, .ref a12, .ref a13, .ref a14, .ref a15, .int (nI pl), .int (nI fd), .ref a18, .int (nI i19), .ref a20, .ref a21, .int (nI i22), .ref a23])), (a11, .inl (cI, 26, .inl (fun j => nI (tr j)))), (a18, .inl (cI, 64, .inl (fun j => nI (rd j))))] := hD.sub [0, 1, 2] rfl rfl
            refine lv_istore hx hb d_m_characters_183 hl (Nat.le_of_ble_eq_true rfl) rfl (fun ls hl => ?_)
            have hl : lv_has ls 9 [(5, .int (nI 0)), (8, .int (nI 7)), (7, .int (nI lf)), (6, .int (nI 3)), (0, .ref h), (1, .int (nI 1)), (2, .int (nI dt)), (3, .int (nI 10)), (4, .int (nI lf))] := hl
            refine lv_iload hx hb d_m_characters_185 (lv_at hl 8 rfl) ?_
            refine lv_iload hx hb d_m_characters_187 (lv_at hl 2 rfl) ?_
            refine n_isub hx hb d_m_characters_189 (by omega) ?_
            refine lv_istore hx hb d_m_characters_190 hl (Nat.le_of_ble_eq_true rfl) rfl (fun ls hl => ?_)
            have hl : lv_has ls 9 [(4, .int (nI (lf - lf))), (5, .int (nI 0)), (8, .int (nI 7)), (7, .int (nI lf)), (6, .int (nI 3)), (0, .ref h), (1, .int (nI 1)), (2, .int (nI dt)), (3, .int (nI 10))] := hl
            refine lv_goto hx hb d_m_characters_192 (tgt := 48) rfl ?_
            refine lv_iload hx hb d_m_characters_48 (lv_at hl 0 rfl) ?_
            refine n_if_le hx hb d_m_characters_50 (tgt := 195) rfl (by omega) (fun g50 => ?_) (fun g50 => ?_)
            · skip
              obtain ⟨m9, rfl⟩ : ∃ m9, n = m9 + 1 := ⟨n - 1, by omega⟩
              rw [chW_no (x := lf) (z := 7) (by omega) (by show min lf 3 = lf; omega) (by first | rfl | (unfold gsz; (repeat' split) <;> omega)) hrm] at kx
              exact kx ls H locs (lv_sub hl [5, 1] rfl) hP hD hS
            · skip
              refine lv_iload hx hb d_m_characters_53 (lv_at hl 1 rfl) ?_
              refine n_if_eq hx hb d_m_characters_55 (tgt := 195) rfl (by omega) (fun g55 => ?_) (fun g55 => absurd g55 (by decide))
              obtain ⟨m9, rfl⟩ : ∃ m9, n = m9 + 1 := ⟨n - 1, by omega⟩
              rw [chW_no (x := lf) (z := 7) (by omega) (by show min lf 3 = lf; omega) (by first | rfl | (unfold gsz; (repeat' split) <;> omega)) hrm] at kx
              exact kx ls H locs (lv_sub hl [5, 1] rfl) hP hD hS
          · skip
            refine lv_aload_n hx hb d_m_characters_151 rfl (lv_at hl 3 rfl) ?_
            refine lv_iload hx hb d_m_characters_152 (lv_at hl 1 rfl) ?_
            refine lv_iload_n hx hb d_m_characters_154 rfl (lv_at hl 4 rfl) ?_
            refine lv_iconst (v := nI 1) hx hb d_m_characters_155 (by decide) ?_
            refine n_icmp_ne hx hb d_m_characters_156 (tgt := 164) rfl (by omega) (by omega) (fun g156 => absurd g156 (by decide)) (fun g156 => ?_)
            refine lv_bipush (v := nI 10) hx hb d_m_characters_159 (by decide) ?_
            refine lv_goto hx hb d_m_characters_161 (tgt := 177) rfl ?_
            refine lv_iload hx hb d_m_characters_177 (lv_at hl 0 rfl) ?_
            refine lv_iload_n hx hb d_m_characters_179 rfl (lv_at hl 5 rfl) ?_
            refine q_writeVi (n := 4) (As := [.int (nI lf), .int (nI 10), .int (nI 7), .int (nI dt)]) (rest := []) (wc := [(h, .inr (8, [.int (nI i0), .int (nI i1), .ref a2, .ref a3, .ref a4, .ref a5, .ref a6, .ref a7, .ref a8, .int (nI i9), .ref a10, .ref a11, .ref a12, .ref a13, .ref a14, .ref a15, .int (nI pl), .int (nI fd), .ref a18, .int (nI i19), .ref a20, .ref a21, .int (nI i22), .ref a23])), (a11, .inl (cI, 26, .inl (fun j => nI (tr j)))), (a18, .inl (cI, 64, .inl (fun j => nI (rd j))))]) (wr := []) (w1 := [(h, .inr (8, [.int (nI i0), .int (nI i1), .ref a2, .ref a3, .ref a4, .ref a5, .ref a6, .ref a7, .ref a8, .int (nI i9), .ref a10, .ref a11, .ref a12, .ref a13, .ref a14, .ref a15, .int (nI (pl + 7)), .int (nI (fd + lf)), .ref a18, .int (nI i19), .ref a20, .ref a21, .int (nI i22), .ref a23])), (a11, .inl (cI, 26, .inl (fun j => nI (tr j)))), (a18, .inl (cI, 64, .inl (fun j => nI ((gpR rd fd lf 10 (nxL tr pl 7) lf) j))))]) S (c_m_group_ok l D cI cC h i0 i1 a2 a3 a4 a5 a6 a7 a8 i9 a10 a11 a12 a13 a14 a15 pl fd a18 i19 a20 a21 i22 a23 tr rd lf 10 7 dt (by omega) (by omega) (by omega) (by omega) (by omega) (by omega) htr H.size) hK hP hD hA (q0 := 0) rfl rfl [0, 1, 2] [] rfl rfl rfl rfl (by decide) rfl (q_goodV kw_988 kw_990 ks_40 kw_10 kw_991) (by decide +kernel) rfl rfl rfl ⟨Nat.le_trans (Nat.le_of_ble_eq_true rfl) hRf, Nat.le_trans (Nat.le_of_ble_eq_true rfl) hRl⟩ rfl hl.1 rfl (Nat.le_of_ble_eq_true rfl) d_m_characters_180 hRc hS (fun H locs hP hD hS => ?_)
            replace hP : va_P D classes [(h, .inr (8, [.int (nI i0), .int (nI i1), .ref a2, .ref a3, .ref a4, .ref a5, .ref a6, .ref a7, .ref a8, .int (nI i9), .ref a10, .ref a11, .ref a12, .ref a13, .ref a14, .ref a15, .int (nI (pl + 7)), .int (nI (fd + lf)), .ref a18, .int (nI i19), .ref a20, .ref a21, .int (nI i22), .ref a23])), (a11, .inl (cI, 26, .inl (fun j => nI (tr j)))), (a18, .inl (cI, 64, .inl (fun j => nI ((gpR rd fd lf 10 (nxL tr pl 7) lf) j))))] H := hP.sub [0, 1, 2] rfl
            replace hD : va_D A [(h, .inr (8, [.int (nI i0), .int (nI i1), .ref a2, .ref a3, .ref a4, .ref a5, .ref a6, .ref a7, .ref a8, .int (nI i9), .ref a10, .ref a11, .ref a12, .ref a13, .ref a14, .ref a15, .int (nI (pl + 7)), .int (nI (fd + lf)), .ref a18, .int (nI i19), .ref a20, .ref a21, .int (nI i22), .ref a23])), (a11, .inl (cI, 26, .inl (fun j => nI (tr j)))), (a18, .inl (cI, 64, .inl (fun j => nI ((gpR rd fd lf 10 (nxL tr pl 7) lf) j))))] := hD.sub [0, 1, 2] rfl rfl
            by_cases hgd : gpV (nxL tr pl 7) 10 lf = 0
            · skip
              refine n_topn (show bN (gpV (nxL tr pl 7) 10 lf = 0) = 1 from bN_t hgd) ?_
              refine lv_istore hx hb d_m_characters_183 hl (Nat.le_of_ble_eq_true rfl) rfl (fun ls hl => ?_)
              have hl : lv_has ls 9 [(5, .int (nI 1)), (8, .int (nI 7)), (7, .int (nI lf)), (6, .int (nI 3)), (0, .ref h), (1, .int (nI 1)), (2, .int (nI dt)), (3, .int (nI 10)), (4, .int (nI lf))] := hl
              refine lv_iload hx hb d_m_characters_185 (lv_at hl 8 rfl) ?_
              refine lv_iload hx hb d_m_characters_187 (lv_at hl 2 rfl) ?_
              refine n_isub hx hb d_m_characters_189 (by omega) ?_
              refine lv_istore hx hb d_m_characters_190 hl (Nat.le_of_ble_eq_true rfl) rfl (fun ls hl => ?_)
              have hl : lv_has ls 9 [(4, .int (nI (lf - lf))), (5, .int (nI 1)), (8, .int (nI 7)), (7, .int (nI lf)), (6, .int (nI 3)), (0, .ref h), (1, .int (nI 1)), (2, .int (nI dt)), (3, .int (nI 10))] := hl
              refine lv_goto hx hb d_m_characters_192 (tgt := 48) rfl ?_
              obtain ⟨m9, rfl⟩ : ∃ m9, n = m9 + 1 := ⟨n - 1, by omega⟩
              rw [chW_s (x := lf) (z := 7) (by omega) (by show min lf 3 = lf; omega) (by first | rfl | (unfold gsz; (repeat' split) <;> omega)) hrm hgd] at kx
              exact ih _ rfl (lf - lf) (pl + 7) (fd + lf) (gpR rd fd lf 10 (nxL tr pl 7) lf) ⟨by omega, by omega⟩ (by omega) (by omega) kx ls H locs (lv_sub hl [5, 6, 7, 8, 0, 1] rfl) hP hD hS
            · skip
              refine n_topn (show bN (gpV (nxL tr pl 7) 10 lf = 0) = 0 from bN_f hgd) ?_
              refine lv_istore hx hb d_m_characters_183 hl (Nat.le_of_ble_eq_true rfl) rfl (fun ls hl => ?_)
              have hl : lv_has ls 9 [(5, .int (nI 0)), (8, .int (nI 7)), (7, .int (nI lf)), (6, .int (nI 3)), (0, .ref h), (1, .int (nI 1)), (2, .int (nI dt)), (3, .int (nI 10)), (4, .int (nI lf))] := hl
              refine lv_iload hx hb d_m_characters_185 (lv_at hl 8 rfl) ?_
              refine lv_iload hx hb d_m_characters_187 (lv_at hl 2 rfl) ?_
              refine n_isub hx hb d_m_characters_189 (by omega) ?_
              refine lv_istore hx hb d_m_characters_190 hl (Nat.le_of_ble_eq_true rfl) rfl (fun ls hl => ?_)
              have hl : lv_has ls 9 [(4, .int (nI (lf - lf))), (5, .int (nI 0)), (8, .int (nI 7)), (7, .int (nI lf)), (6, .int (nI 3)), (0, .ref h), (1, .int (nI 1)), (2, .int (nI dt)), (3, .int (nI 10))] := hl
              refine lv_goto hx hb d_m_characters_192 (tgt := 48) rfl ?_
              refine lv_iload hx hb d_m_characters_48 (lv_at hl 0 rfl) ?_
              refine n_if_le hx hb d_m_characters_50 (tgt := 195) rfl (by omega) (fun g50 => ?_) (fun g50 => ?_)
              · skip
                obtain ⟨m9, rfl⟩ : ∃ m9, n = m9 + 1 := ⟨n - 1, by omega⟩
                rw [chW_bad (x := lf) (z := 7) (by omega) (by show min lf 3 = lf; omega) (by first | rfl | (unfold gsz; (repeat' split) <;> omega)) hrm hgd] at kx
                exact kx ls H locs (lv_sub hl [5, 1] rfl) hP hD hS
              · skip
                refine lv_iload hx hb d_m_characters_53 (lv_at hl 1 rfl) ?_
                refine n_if_eq hx hb d_m_characters_55 (tgt := 195) rfl (by omega) (fun g55 => ?_) (fun g55 => absurd g55 (by decide))
                obtain ⟨m9, rfl⟩ : ∃ m9, n = m9 + 1 := ⟨n - 1, by omega⟩
                rw [chW_bad (x := lf) (z := 7) (by omega) (by show min lf 3 = lf; omega) (by first | rfl | (unfold gsz; (repeat' split) <;> omega)) hrm hgd] at kx
                exact kx ls H locs (lv_sub hl [5, 1] rfl) hP hD hS
      · skip
        refine lv_bipush (v := nI 10) hx hb d_m_characters_132 (by decide) ?_
        refine lv_goto hx hb d_m_characters_134 (tgt := 149) rfl ?_
        refine lv_istore hx hb d_m_characters_149 hl (Nat.le_of_ble_eq_true rfl) rfl (fun ls hl => ?_)
        have hl : lv_has ls 9 [(8, .int (nI 10)), (7, .int (nI lf)), (6, .int (nI 3)), (0, .ref h), (1, .int (nI 1)), (2, .int (nI dt)), (3, .int (nI 10)), (4, .int (nI lf)), (5, .int (nI 1))] := hl
        rcases Nat.lt_or_ge (8 * dt) (pl + 10) with hrm | hrm
        · skip
          refine lv_aload_n hx hb d_m_characters_151 rfl (lv_at hl 3 rfl) ?_
          refine lv_iload hx hb d_m_characters_152 (lv_at hl 1 rfl) ?_
          refine lv_iload_n hx hb d_m_characters_154 rfl (lv_at hl 4 rfl) ?_
          refine lv_iconst (v := nI 1) hx hb d_m_characters_155 (by decide) ?_
          refine n_icmp_ne hx hb d_m_characters_156 (tgt := 164) rfl (by omega) (by omega) (fun g156 => absurd g156 (by decide)) (fun g156 => ?_)
          refine lv_bipush (v := nI 10) hx hb d_m_characters_159 (by decide) ?_
          refine lv_goto hx hb d_m_characters_161 (tgt := 177) rfl ?_
          refine lv_iload hx hb d_m_characters_177 (lv_at hl 0 rfl) ?_
          refine lv_iload_n hx hb d_m_characters_179 rfl (lv_at hl 5 rfl) ?_
          refine q_writeVi (n := 4) (As := [.int (nI lf), .int (nI 10), .int (nI 10), .int (nI dt)]) (rest := []) (wc := [(h, .inr (8, [.int (nI i0), .int (nI i1), .ref a2, .ref a3, .ref a4, .ref a5, .ref a6, .ref a7, .ref a8, .int (nI i9), .ref a10, .ref a11, .ref a12, .ref a13, .ref a14, .ref a15, .int (nI pl), .int (nI fd), .ref a18, .int (nI i19), .ref a20, .ref a21, .int (nI i22), .ref a23])), (a11, .inl (cI, 26, .inl (fun j => nI (tr j)))), (a18, .inl (cI, 64, .inl (fun j => nI (rd j))))]) (wr := []) (w1 := [(h, .inr (8, [.int (nI i0), .int (nI i1), .ref a2, .ref a3, .ref a4, .ref a5, .ref a6, .ref a7, .ref a8, .int (nI i9), .ref a10, .ref a11, .ref a12, .ref a13, .ref a14, .ref a15, .int (nI pl), .int (nI fd), .ref a18, .int (nI i19), .ref a20, .ref a21, .int (nI i22), .ref a23])), (a11, .inl (cI, 26, .inl (fun j => nI (tr j)))), (a18, .inl (cI, 64, .inl (fun j => nI (rd j))))]) S (c_m_group_no l D cI cC h i0 i1 a2 a3 a4 a5 a6 a7 a8 i9 a10 a11 a12 a13 a14 a15 pl fd a18 i19 a20 a21 i22 a23 tr rd lf 10 10 dt (by omega) (by omega) (by omega) (by omega) H.size) hK hP hD hA (q0 := 0) rfl rfl [0, 1, 2] [] rfl rfl rfl rfl (by decide) rfl (q_goodV kw_988 kw_990 ks_40 kw_10 kw_991) (by decide +kernel) rfl rfl rfl ⟨Nat.le_trans (Nat.le_of_ble_eq_true rfl) hRf, Nat.le_trans (Nat.le_of_ble_eq_true rfl) hRl⟩ rfl hl.1 rfl (Nat.le_of_ble_eq_true rfl) d_m_characters_180 hRc hS (fun H locs hP hD hS => ?_)
          replace hP : va_P D classes [(h, .inr (8, [.int (nI i0), .int (nI i1), .ref a2, .ref a3, .ref a4, .ref a5, .ref a6, .ref a7, .ref a8, .int (nI i9), .ref a10, .ref a11, .ref a12, .ref a13, .ref a14, .ref a15, .int (nI pl), .int (nI fd), .ref a18, .int (nI i19), .ref a20, .ref a21, .int (nI i22), .ref a23])), (a11, .inl (cI, 26, .inl (fun j => nI (tr j)))), (a18, .inl (cI, 64, .inl (fun j => nI (rd j))))] H := hP.sub [0, 1, 2] rfl
          replace hD : va_D A [(h, .inr (8, [.int (nI i0), .int (nI i1), .ref a2, .ref a3, .ref a4, .ref a5, .ref a6, .ref a7, .ref a8, .int (nI i9), .ref a10, .ref a11, .ref a12, .ref a13, .ref a14, .ref a15, .int (nI pl), .int (nI fd), .ref a18, .int (nI i19), .ref a20, .ref a21, .int (nI i22), .ref a23])), (a11, .inl (cI, 26, .inl (fun j => nI (tr j)))), (a18, .inl (cI, 64, .inl (fun j => nI (rd j))))] := hD.sub [0, 1, 2] rfl rfl
          refine lv_istore hx hb d_m_characters_183 hl (Nat.le_of_ble_eq_true rfl) rfl (fun ls hl => ?_)
          have hl : lv_has ls 9 [(5, .int (nI 0)), (8, .int (nI 10)), (7, .int (nI lf)), (6, .int (nI 3)), (0, .ref h), (1, .int (nI 1)), (2, .int (nI dt)), (3, .int (nI 10)), (4, .int (nI lf))] := hl
          refine lv_iload hx hb d_m_characters_185 (lv_at hl 8 rfl) ?_
          refine lv_iload hx hb d_m_characters_187 (lv_at hl 2 rfl) ?_
          refine n_isub hx hb d_m_characters_189 (by omega) ?_
          refine lv_istore hx hb d_m_characters_190 hl (Nat.le_of_ble_eq_true rfl) rfl (fun ls hl => ?_)
          have hl : lv_has ls 9 [(4, .int (nI (lf - lf))), (5, .int (nI 0)), (8, .int (nI 10)), (7, .int (nI lf)), (6, .int (nI 3)), (0, .ref h), (1, .int (nI 1)), (2, .int (nI dt)), (3, .int (nI 10))] := hl
          refine lv_goto hx hb d_m_characters_192 (tgt := 48) rfl ?_
          refine lv_iload hx hb d_m_characters_48 (lv_at hl 0 rfl) ?_
          refine n_if_le hx hb d_m_characters_50 (tgt := 195) rfl (by omega) (fun g50 => ?_) (fun g50 => ?_)
          · skip
            obtain ⟨m9, rfl⟩ : ∃ m9, n = m9 + 1 := ⟨n - 1, by omega⟩
            rw [chW_no (x := lf) (z := 10) (by omega) (by show min lf 3 = lf; omega) (by first | rfl | (unfold gsz; (repeat' split) <;> omega)) hrm] at kx
            exact kx ls H locs (lv_sub hl [5, 1] rfl) hP hD hS
          · skip
            refine lv_iload hx hb d_m_characters_53 (lv_at hl 1 rfl) ?_
            refine n_if_eq hx hb d_m_characters_55 (tgt := 195) rfl (by omega) (fun g55 => ?_) (fun g55 => absurd g55 (by decide))
            obtain ⟨m9, rfl⟩ : ∃ m9, n = m9 + 1 := ⟨n - 1, by omega⟩
            rw [chW_no (x := lf) (z := 10) (by omega) (by show min lf 3 = lf; omega) (by first | rfl | (unfold gsz; (repeat' split) <;> omega)) hrm] at kx
            exact kx ls H locs (lv_sub hl [5, 1] rfl) hP hD hS
        · skip
          refine lv_aload_n hx hb d_m_characters_151 rfl (lv_at hl 3 rfl) ?_
          refine lv_iload hx hb d_m_characters_152 (lv_at hl 1 rfl) ?_
          refine lv_iload_n hx hb d_m_characters_154 rfl (lv_at hl 4 rfl) ?_
          refine lv_iconst (v := nI 1) hx hb d_m_characters_155 (by decide) ?_
          refine n_icmp_ne hx hb d_m_characters_156 (tgt := 164) rfl (by omega) (by omega) (fun g156 => absurd g156 (by decide)) (fun g156 => ?_)
          refine lv_bipush (v := nI 10) hx hb d_m_characters_159 (by decide) ?_
          refine lv_goto hx hb d_m_characters_161 (tgt := 177) rfl ?_
          refine lv_iload hx hb d_m_characters_177 (lv_at hl 0 rfl) ?_
          refine lv_iload_n hx hb d_m_characters_179 rfl (lv_at hl 5 rfl) ?_
          refine q_writeVi (n := 4) (As := [.int (nI lf), .int (nI 10), .int (nI 10), .int (nI dt)]) (rest := []) (wc := [(h, .inr (8, [.int (nI i0), .int (nI i1), .ref a2, .ref a3, .ref a4, .ref a5, .ref a6, .ref a7, .ref a8, .int (nI i9), .ref a10, .ref a11, .ref a12, .ref a13, .ref a14, .ref a15, .int (nI pl), .int (nI fd), .ref a18, .int (nI i19), .ref a20, .ref a21, .int (nI i22), .ref a23])), (a11, .inl (cI, 26, .inl (fun j => nI (tr j)))), (a18, .inl (cI, 64, .inl (fun j => nI (rd j))))]) (wr := []) (w1 := [(h, .inr (8, [.int (nI i0), .int (nI i1), .ref a2, .ref a3, .ref a4, .ref a5, .ref a6, .ref a7, .ref a8, .int (nI i9), .ref a10, .ref a11, .ref a12, .ref a13, .ref a14, .ref a15, .int (nI (pl + 10)), .int (nI (fd + lf)), .ref a18, .int (nI i19), .ref a20, .ref a21, .int (nI i22), .ref a23])), (a11, .inl (cI, 26, .inl (fun j => nI (tr j)))), (a18, .inl (cI, 64, .inl (fun j => nI ((gpR rd fd lf 10 (nxL tr pl 10) lf) j))))]) S (c_m_group_ok l D cI cC h i0 i1 a2 a3 a4 a5 a6 a7 a8 i9 a10 a11 a12 a13 a14 a15 pl fd a18 i19 a20 a21 i22 a23 tr rd lf 10 10 dt (by omega) (by omega) (by omega) (by omega) (by omega) (by omega) htr H.size) hK hP hD hA (q0 := 0) rfl rfl [0, 1, 2] [] rfl rfl rfl rfl (by decide) rfl (q_goodV kw_988 kw_990 ks_40 kw_10 kw_991) (by decide +kernel) rfl rfl rfl ⟨Nat.le_trans (Nat.le_of_ble_eq_true rfl) hRf, Nat.le_trans (Nat.le_of_ble_eq_true rfl) hRl⟩ rfl hl.1 rfl (Nat.le_of_ble_eq_true rfl) d_m_characters_180 hRc hS (fun H locs hP hD hS => ?_)
          replace hP : va_P D classes [(h, .inr (8, [.int (nI i0), .int (nI i1), .ref a2, .ref a3, .ref a4, .ref a5, .ref a6, .ref a7, .ref a8, .int (nI i9), .ref a10, .ref a11, .ref a12, .ref a13, .ref a14, .ref a15, .int (nI (pl + 10)), .int (nI (fd + lf)), .ref a18, .int (nI i19), .ref a20, .ref a21, .int (nI i22), .ref a23])), (a11, .inl (cI, 26, .inl (fun j => nI (tr j)))), (a18, .inl (cI, 64, .inl (fun j => nI ((gpR rd fd lf 10 (nxL tr pl 10) lf) j))))] H := hP.sub [0, 1, 2] rfl
          replace hD : va_D A [(h, .inr (8, [.int (nI i0), .int (nI i1), .ref a2, .ref a3, .ref a4, .ref a5, .ref a6, .ref a7, .ref a8, .int (nI i9), .ref a10, .ref a11, .ref a12, .ref a13, .ref a14, .ref a15, .int (nI (pl + 10)), .int (nI (fd + lf)), .ref a18, .int (nI i19), .ref a20, .ref a21, .int (nI i22), .ref a23])), (a11, .inl (cI, 26, .inl (fun j => nI (tr j)))), (a18, .inl (cI, 64, .inl (fun j => nI ((gpR rd fd lf 10 (nxL tr pl 10) lf) j))))] := hD.sub [0, 1, 2] rfl rfl
          by_cases hgd : gpV (nxL tr pl 10) 10 lf = 0
          · skip
            refine n_topn (show bN (gpV (nxL tr pl 10) 10 lf = 0) = 1 from bN_t hgd) ?_
            refine lv_istore hx hb d_m_characters_183 hl (Nat.le_of_ble_eq_true rfl) rfl (fun ls hl => ?_)
            have hl : lv_has ls 9 [(5, .int (nI 1)), (8, .int (nI 10)), (7, .int (nI lf)), (6, .int (nI 3)), (0, .ref h), (1, .int (nI 1)), (2, .int (nI dt)), (3, .int (nI 10)), (4, .int (nI lf))] := hl
            refine lv_iload hx hb d_m_characters_185 (lv_at hl 8 rfl) ?_
            refine lv_iload hx hb d_m_characters_187 (lv_at hl 2 rfl) ?_
            refine n_isub hx hb d_m_characters_189 (by omega) ?_
            refine lv_istore hx hb d_m_characters_190 hl (Nat.le_of_ble_eq_true rfl) rfl (fun ls hl => ?_)
            have hl : lv_has ls 9 [(4, .int (nI (lf - lf))), (5, .int (nI 1)), (8, .int (nI 10)), (7, .int (nI lf)), (6, .int (nI 3)), (0, .ref h), (1, .int (nI 1)), (2, .int (nI dt)), (3, .int (nI 10))] := hl
            refine lv_goto hx hb d_m_characters_192 (tgt := 48) rfl ?_
            obtain ⟨m9, rfl⟩ : ∃ m9, n = m9 + 1 := ⟨n - 1, by omega⟩
            rw [chW_s (x := lf) (z := 10) (by omega) (by show min lf 3 = lf; omega) (by first | rfl | (unfold gsz; (repeat' split) <;> omega)) hrm hgd] at kx
            exact ih _ rfl (lf - lf) (pl + 10) (fd + lf) (gpR rd fd lf 10 (nxL tr pl 10) lf) ⟨by omega, by omega⟩ (by omega) (by omega) kx ls H locs (lv_sub hl [5, 6, 7, 8, 0, 1] rfl) hP hD hS
          · skip
            refine n_topn (show bN (gpV (nxL tr pl 10) 10 lf = 0) = 0 from bN_f hgd) ?_
            refine lv_istore hx hb d_m_characters_183 hl (Nat.le_of_ble_eq_true rfl) rfl (fun ls hl => ?_)
            have hl : lv_has ls 9 [(5, .int (nI 0)), (8, .int (nI 10)), (7, .int (nI lf)), (6, .int (nI 3)), (0, .ref h), (1, .int (nI 1)), (2, .int (nI dt)), (3, .int (nI 10)), (4, .int (nI lf))] := hl
            refine lv_iload hx hb d_m_characters_185 (lv_at hl 8 rfl) ?_
            refine lv_iload hx hb d_m_characters_187 (lv_at hl 2 rfl) ?_
            refine n_isub hx hb d_m_characters_189 (by omega) ?_
            refine lv_istore hx hb d_m_characters_190 hl (Nat.le_of_ble_eq_true rfl) rfl (fun ls hl => ?_)
            have hl : lv_has ls 9 [(4, .int (nI (lf - lf))), (5, .int (nI 0)), (8, .int (nI 10)), (7, .int (nI lf)), (6, .int (nI 3)), (0, .ref h), (1, .int (nI 1)), (2, .int (nI dt)), (3, .int (nI 10))] := hl
            refine lv_goto hx hb d_m_characters_192 (tgt := 48) rfl ?_
            refine lv_iload hx hb d_m_characters_48 (lv_at hl 0 rfl) ?_
            refine n_if_le hx hb d_m_characters_50 (tgt := 195) rfl (by omega) (fun g50 => ?_) (fun g50 => ?_)
            · skip
              obtain ⟨m9, rfl⟩ : ∃ m9, n = m9 + 1 := ⟨n - 1, by omega⟩
              rw [chW_bad (x := lf) (z := 10) (by omega) (by show min lf 3 = lf; omega) (by first | rfl | (unfold gsz; (repeat' split) <;> omega)) hrm hgd] at kx
              exact kx ls H locs (lv_sub hl [5, 1] rfl) hP hD hS
            · skip
              refine lv_iload hx hb d_m_characters_53 (lv_at hl 1 rfl) ?_
              refine n_if_eq hx hb d_m_characters_55 (tgt := 195) rfl (by omega) (fun g55 => ?_) (fun g55 => absurd g55 (by decide))
              obtain ⟨m9, rfl⟩ : ∃ m9, n = m9 + 1 := ⟨n - 1, by omega⟩
              rw [chW_bad (x := lf) (z := 10) (by omega) (by show min lf 3 = lf; omega) (by first | rfl | (unfold gsz; (repeat' split) <;> omega)) hrm hgd] at kx
              exact kx ls H locs (lv_sub hl [5, 1] rfl) hP hD hS
set_option maxHeartbeats 1000000 in
set_option maxRecDepth 100000 in
theorem bd_m_characters_1_ok (cI cC : ClassId) (h i0 i1 a2 a3 a4 a5 a6 a7 a8 i9 a10 a11 a12 a13 a14 a15 i16 i17 a18 i19 a20 a21 i22 a23 : Nat) (tr re : Nat → Nat) (dt : Nat) (hdt : dt ≤ 19) (hyes : i16 + 10 ≤ 8 * dt) (hinv : 10 * i17 ≤ 3 * i16) (htr : ∀ j, j < 26 → tr j < 256) (S : CallFix p m c b_m_characters 9 s args (cd_m_characters :: WS) R_Model) (hRf : 2 ≤ R.frames) (hRl : 50 ≤ R.locals) (hRc : cells ≤ R.cells ∧ slots ≤ R.slots) (hK : va_K D classes [(cI, .int), (cC, .char)] s) (hA : ∀ q, H0.size ≤ q → A q) (kr : ∀ (pc : Nat) (ls : Array Slot) (H : Heap) (locs : List Loc), decode b_m_characters pc = .ok (.ireturn, 1) → va_P D classes [(h, .inr (8, [.int (nI i0), .int (nI i1), .ref a2, .ref a3, .ref a4, .ref a5, .ref a6, .ref a7, .ref a8, .int (nI i9), .ref a10, .ref a11, .ref a12, .ref a13, .ref a14, .ref a15, .int (nI ((chW tr 1 dt (nxL tr i16 10) (nxL tr i16 10) (i16 + 10) i17 re).2.1)), .int (nI ((chW tr 1 dt (nxL tr i16 10) (nxL tr i16 10) (i16 + 10) i17 re).2.2.1)), .ref a18, .int (nI i19), .ref a20, .ref a21, .int (nI i22), .ref a23])), (a11, .inl (cI, 26, .inl (fun j => nI (tr j)))), (a18, .inl (cI, 64, .inl (fun j => nI (((chW tr 1 dt (nxL tr i16 10) (nxL tr i16 10) (i16 + 10) i17 re).2.2.2) j))))] H → va_D A [(h, .inr (8, [.int (nI i0), .int (nI i1), .ref a2, .ref a3, .ref a4, .ref a5, .ref a6, .ref a7, .ref a8, .int (nI i9), .ref a10, .ref a11, .ref a12, .ref a13, .ref a14, .ref a15, .int (nI ((chW tr 1 dt (nxL tr i16 10) (nxL tr i16 10) (i16 + 10) i17 re).2.1)), .int (nI ((chW tr 1 dt (nxL tr i16 10) (nxL tr i16 10) (i16 + 10) i17 re).2.2.1)), .ref a18, .int (nI i19), .ref a20, .ref a21, .int (nI i22), .ref a23])), (a11, .inl (cI, 26, .inl (fun j => nI (tr j)))), (a18, .inl (cI, 64, .inl (fun j => nI (((chW tr 1 dt (nxL tr i16 10) (nxL tr i16 10) (i16 + 10) i17 re).2.2.2) j))))] → va_S A H0 H locs → W p l e R s m args below meth c H locs cells slots Q (F0 m pc ls [.int (nI ((chW tr 1 dt (nxL tr i16 10) (nxL tr i16 10) (i16 + 10) i17 re).1))])) : ∀ (ls : Array Slot) (H : Heap) (locs : List Loc), lv_has ls 9 [(0, .ref h), (1, .int (nI 1)), (2, .int (nI dt))] → va_P D classes [(h, .inr (8, [.int (nI i0), .int (nI i1), .ref a2, .ref a3, .ref a4, .ref a5, .ref a6, .ref a7, .ref a8, .int (nI i9), .ref a10, .ref a11, .ref a12, .ref a13, .ref a14, .ref a15, .int (nI i16), .int (nI i17), .ref a18, .int (nI i19), .ref a20, .ref a21, .int (nI i22), .ref a23])), (a11, .inl (cI, 26, .inl (fun j => nI (tr j)))), (a18, .inl (cI, 64, .inl (fun j => nI (re j))))] H → va_D A [(h, .inr (8, [.int (nI i0), .int (nI i1), .ref a2, .ref a3, .ref a4, .ref a5, .ref a6, .ref a7, .ref a8, .int (nI i9), .ref a10, .ref a11, .ref a12, .ref a13, .ref a14, .ref a15, .int (nI i16), .int (nI i17), .ref a18, .int (nI i19), .ref a20, .ref a21, .int (nI i22), .ref a23])), (a11, .inl (cI, 26, .inl (fun j => nI (tr j)))), (a18, .inl (cI, 64, .inl (fun j => nI (re j))))] → va_S A H0 H locs → W p l e R s m args below meth c H locs cells slots Q (F0 m 0 ls []) := by
  obtain ⟨hx, hb, hml, hown, hts⟩ := id S
  intro ls H locs hl hP hD hS
  have hnx := nxL_lt htr i16 10
  refine lv_iload_n hx hb d_m_characters_0 rfl (lv_at hl 1 rfl) ?_
  refine lv_iconst (v := nI 1) hx hb d_m_characters_1 (by decide) ?_
  refine n_icmp_ne hx hb d_m_characters_2 (tgt := 10) rfl (by omega) (by omega) (fun g2 => absurd g2 (by decide)) (fun g2 => ?_)
  refine lv_bipush (v := nI 10) hx hb d_m_characters_5 (by decide) ?_
  refine lv_goto hx hb d_m_characters_7 (tgt := 22) rfl ?_
  refine lv_istore_n hx hb d_m_characters_22 rfl hl (Nat.le_of_ble_eq_true rfl) rfl (fun ls hl => ?_)
  have hl : lv_has ls 9 [(3, .int (nI 10)), (0, .ref h), (1, .int (nI 1)), (2, .int (nI dt))] := hl
  refine lv_aload_n hx hb d_m_characters_23 rfl (lv_at hl 1 rfl) ?_
  refine n_get (C := R_Model) (T := F_Model) (N := 24) (v := .int (nI i16)) hx hb hts u_Model_in hown hK hP 0 rfl rfl 16 (by decide) kw_792 rfl d_m_characters_24 ?_
  refine lv_iload_n hx hb d_m_characters_27 rfl (lv_at hl 0 rfl) ?_
  refine n_iadd hx hb d_m_characters_28 ?_
  refine lv_bipush (v := nI 8) hx hb d_m_characters_29 (by decide) ?_
  refine lv_iload_n hx hb d_m_characters_31 rfl (lv_at hl 3 rfl) ?_
  refine n_imul hx hb d_m_characters_32 ?_
  refine n_icmp_le hx hb d_m_characters_33 (tgt := 38) rfl (by omega) (by omega) (fun g33 => ?_) (fun g33 => absurd g33 (by omega))
  refine lv_aload_n hx hb d_m_characters_38 rfl (lv_at hl 1 rfl) ?_
  refine lv_iload_n hx hb d_m_characters_39 rfl (lv_at hl 0 rfl) ?_
  refine q_writeVi (n := 1) (As := [.int (nI 10)]) (rest := []) (wc := [(h, .inr (8, [.int (nI i0), .int (nI i1), .ref a2, .ref a3, .ref a4, .ref a5, .ref a6, .ref a7, .ref a8, .int (nI i9), .ref a10, .ref a11, .ref a12, .ref a13, .ref a14, .ref a15, .int (nI i16), .int (nI i17), .ref a18, .int (nI i19), .ref a20, .ref a21, .int (nI i22), .ref a23])), (a11, .inl (cI, 26, .inl (fun j => nI (tr j))))]) (wr := [(a18, .inl (cI, 64, .inl (fun j => nI (re j))))]) (w1 := [(h, .inr (8, [.int (nI i0), .int (nI i1), .ref a2, .ref a3, .ref a4, .ref a5, .ref a6, .ref a7, .ref a8, .int (nI i9), .ref a10, .ref a11, .ref a12, .ref a13, .ref a14, .ref a15, .int (nI (i16 + 10)), .int (nI i17), .ref a18, .int (nI i19), .ref a20, .ref a21, .int (nI i22), .ref a23])), (a11, .inl (cI, 26, .inl (fun j => nI (tr j))))]) S (c_m_next l D cI cC h i0 i1 a2 a3 a4 a5 a6 a7 a8 i9 a10 a11 a12 a13 a14 a15 i16 i17 a18 i19 a20 a21 i22 a23 tr 10 (by omega) (by omega) H.size) hK hP hD hA (q0 := 0) rfl rfl [0, 1] [2] rfl rfl rfl rfl (by decide) rfl (q_goodV kw_980 kw_982 ks_38 kw_10 kw_983) (by decide +kernel) rfl rfl rfl ⟨Nat.le_trans (Nat.le_of_ble_eq_true rfl) hRf, Nat.le_trans (Nat.le_of_ble_eq_true rfl) hRl⟩ rfl hl.1 rfl (Nat.le_of_ble_eq_true rfl) d_m_characters_40 hRc hS (fun H locs hP hD hS => ?_)
  replace hP : va_P D classes [(h, .inr (8, [.int (nI i0), .int (nI i1), .ref a2, .ref a3, .ref a4, .ref a5, .ref a6, .ref a7, .ref a8, .int (nI i9), .ref a10, .ref a11, .ref a12, .ref a13, .ref a14, .ref a15, .int (nI (i16 + 10)), .int (nI i17), .ref a18, .int (nI i19), .ref a20, .ref a21, .int (nI i22), .ref a23])), (a11, .inl (cI, 26, .inl (fun j => nI (tr j)))), (a18, .inl (cI, 64, .inl (fun j => nI (re j))))] H := hP.sub [1, 2, 0] rfl
  replace hD : va_D A [(h, .inr (8, [.int (nI i0), .int (nI i1), .ref a2, .ref a3, .ref a4, .ref a5, .ref a6, .ref a7, .ref a8, .int (nI i9), .ref a10, .ref a11, .ref a12, .ref a13, .ref a14, .ref a15, .int (nI (i16 + 10)), .int (nI i17), .ref a18, .int (nI i19), .ref a20, .ref a21, .int (nI i22), .ref a23])), (a11, .inl (cI, 26, .inl (fun j => nI (tr j)))), (a18, .inl (cI, 64, .inl (fun j => nI (re j))))] := hD.sub [1, 2, 0] rfl rfl
  refine lv_istore hx hb d_m_characters_43 hl (Nat.le_of_ble_eq_true rfl) rfl (fun ls hl => ?_)
  have hl : lv_has ls 9 [(4, .int (nI (nxL tr i16 10))), (3, .int (nI 10)), (0, .ref h), (1, .int (nI 1)), (2, .int (nI dt))] := hl
  refine lv_iconst (v := nI 1) hx hb d_m_characters_45 (by decide) ?_
  refine lv_istore hx hb d_m_characters_46 hl (Nat.le_of_ble_eq_true rfl) rfl (fun ls hl => ?_)
  have hl : lv_has ls 9 [(5, .int (nI 1)), (4, .int (nI (nxL tr i16 10))), (3, .int (nI 10)), (0, .ref h), (1, .int (nI 1)), (2, .int (nI dt))] := hl
  refine lw_m_characters_1_ok_48 cI cC h i0 i1 a2 a3 a4 a5 a6 a7 a8 i9 a10 a11 a12 a13 a14 a15 i16 i17 a18 i19 a20 a21 i22 a23 tr re dt hdt hyes hinv htr S hRf hRl hRc hK hA  (nxL tr i16 10) (nxL tr i16 10) (i16 + 10) i17 re ⟨Nat.le_refl _, by omega⟩ (by omega) (by omega) (fun ls H locs hl hP hD hS => ?_) ls H locs (lv_sub hl [3, 4, 5, 2, 1, 0] rfl) hP hD hS
  refine lv_iload hx hb d_m_characters_195 (lv_at hl 1 rfl) ?_
  exact kr _ ls H locs d_m_characters_197 hP hD hS
set_option maxHeartbeats 1000000 in
set_option maxRecDepth 100000 in
theorem c_m_characters_1_ok (l : Launch) (D : va_G) (cI cC : ClassId) (h i0 i1 a2 a3 a4 a5 a6 a7 a8 i9 a10 a11 a12 a13 a14 a15 i16 i17 a18 i19 a20 a21 i22 a23 : Nat) (tr re : Nat → Nat) (dt : Nat) (hdt : dt ≤ 19) (hyes : i16 + 10 ≤ 8 * dt) (hinv : 10 * i17 ≤ 3 * i16) (htr : ∀ j, j < 26 → tr j < 256) (sz : Nat) : Met l y_m_characters (cd_m_characters :: WS) { frames := 2, cells := 0, slots := 0, locals := 50 } (va_Pc [.ref h, .int (nI 1), .int (nI dt)] (wP D [(h, .inr (8, [.int (nI i0), .int (nI i1), .ref a2, .ref a3, .ref a4, .ref a5, .ref a6, .ref a7, .ref a8, .int (nI i9), .ref a10, .ref a11, .ref a12, .ref a13, .ref a14, .ref a15, .int (nI i16), .int (nI i17), .ref a18, .int (nI i19), .ref a20, .ref a21, .int (nI i22), .ref a23])), (a11, .inl (cI, 26, .inl (fun j => nI (tr j)))), (a18, .inl (cI, 64, .inl (fun j => nI (re j))))] [(cI, .int), (cC, .char)] sz)) (wQi D (nI ((chW tr 1 dt (nxL tr i16 10) (nxL tr i16 10) (i16 + 10) i17 re).1)) [(h, .inr (8, [.int (nI i0), .int (nI i1), .ref a2, .ref a3, .ref a4, .ref a5, .ref a6, .ref a7, .ref a8, .int (nI i9), .ref a10, .ref a11, .ref a12, .ref a13, .ref a14, .ref a15, .int (nI i16), .int (nI i17), .ref a18, .int (nI i19), .ref a20, .ref a21, .int (nI i22), .ref a23])), (a11, .inl (cI, 26, .inl (fun j => nI (tr j)))), (a18, .inl (cI, 64, .inl (fun j => nI (re j))))] [(h, .inr (8, [.int (nI i0), .int (nI i1), .ref a2, .ref a3, .ref a4, .ref a5, .ref a6, .ref a7, .ref a8, .int (nI i9), .ref a10, .ref a11, .ref a12, .ref a13, .ref a14, .ref a15, .int (nI ((chW tr 1 dt (nxL tr i16 10) (nxL tr i16 10) (i16 + 10) i17 re).2.1)), .int (nI ((chW tr 1 dt (nxL tr i16 10) (nxL tr i16 10) (i16 + 10) i17 re).2.2.1)), .ref a18, .int (nI i19), .ref a20, .ref a21, .int (nI i22), .ref a23])), (a11, .inl (cI, 26, .inl (fun j => nI (tr j)))), (a18, .inl (cI, 64, .inl (fun j => nI (((chW tr 1 dt (nxL tr i16 10) (nxL tr i16 10) (i16 + 10) i17 re).2.2.2) j))))] sz) 0 0 (va_A [(h, .inr (8, [.int (nI i0), .int (nI i1), .ref a2, .ref a3, .ref a4, .ref a5, .ref a6, .ref a7, .ref a8, .int (nI i9), .ref a10, .ref a11, .ref a12, .ref a13, .ref a14, .ref a15, .int (nI i16), .int (nI i17), .ref a18, .int (nI i19), .ref a20, .ref a21, .int (nI i22), .ref a23])), (a11, .inl (cI, 26, .inl (fun j => nI (tr j)))), (a18, .inl (cI, 64, .inl (fun j => nI (re j))))] sz) := by
  refine Met.ofW (cc := b_m_characters) (maxL := 9) (ret := (some .boolean)) (by decide) rfl ?_
  intro p e s m args below meth c s₁ B hml hv0
  obtain ⟨rfl, hP, hK, hD0, hsz⟩ := hv0
  have hts := atoms_spec (ws := cd_m_characters :: WS) B.pre
  have hown : s.vm.findClass R_Model = some m.cls := findClass_of_methodNamed B.named
  have hlocks := B.notSynchronized
  subst hsz
  have hD := hD0.self (sz := s.heap.size)
  have hl := lv_entry ([.ref h, .int (nI 1), .int (nI dt)]) (n := 9) (Nat.le_of_ble_eq_true rfl)
  rw [lg_entry_eq]
  generalize (lg_sl ([.ref h, .int (nI 1), .int (nI dt)]) ++ List.replicate (9 - (lg_sl ([.ref h, .int (nI 1), .int (nI dt)])).length) Slot.unset).toArray = ls at hl ⊢
  refine bd_m_characters_1_ok cI cC h i0 i1 a2 a3 a4 a5 a6 a7 a8 i9 a10 a11 a12 a13 a14 a15 i16 i17 a18 i19 a20 a21 i22 a23 tr re dt hdt hyes hinv htr ⟨B.exec, B.bytes, hml, hown, hts⟩ (Nat.le_refl _) (Nat.le_refl _) ⟨Nat.le_refl _, Nat.le_refl _⟩ hK (fun q h => Or.inr h) (fun pc ls H locs hd hP hD hS => ?_) ls _ _ hl hP hD (va_S.rf)
  exact W.zret B.exec B.bytes B.returns (chW_fit _ _ _ _ _ _ _ _) (fun t ht _ => ⟨⟨_, (), rfl, rfl, (by have h9 := hP; rw [← ht] at h9; exact h9)⟩, hS.F ht⟩) hS.2.2 hd
end
section
variable {p : Program} {l : Launch} {e : Env} {R : Room} {s : State} {m : MethodId} {args : Array Value} {below : List Frame} {meth : Method} {c : Code} {cells slots : Nat} {Q : State → Prop} {A : Nat → Prop} {H0 : Heap} {D : va_G}
set_option maxHeartbeats 1000000 in
set_option maxRecDepth 100000 in
theorem bd_m_characters_2_no (cI cC : ClassId) (h i0 i1 a2 a3 a4 a5 a6 a7 a8 i9 a10 a11 a12 a13 a14 a15 i16 i17 a18 i19 a20 a21 i22 a23 : Nat) (tr re : Nat → Nat) (dt : Nat) (hdt : dt ≤ 19) (hp0 : i16 ≤ 208) (hno : 8 * dt < i16 + 9) (S : CallFix p m c b_m_characters 9 s args (cd_m_characters :: WS) R_Model) (hRf : 2 ≤ R.frames) (hRl : 50 ≤ R.locals) (hRc : cells ≤ R.cells ∧ slots ≤ R.slots) (hK : va_K D classes [(cI, .int), (cC, .char)] s) (hA : ∀ q, H0.size ≤ q → A q) (kr : ∀ (pc : Nat) (ls : Array Slot) (H : Heap) (locs : List Loc), decode b_m_characters pc = .ok (.ireturn, 1) → va_P D classes [(h, .inr (8, [.int (nI i0), .int (nI i1), .ref a2, .ref a3, .ref a4, .ref a5, .ref a6, .ref a7, .ref a8, .int (nI i9), .ref a10, .ref a11, .ref a12, .ref a13, .ref a14, .ref a15, .int (nI i16), .int (nI i17), .ref a18, .int (nI i19), .ref a20, .ref a21, .int (nI i22), .ref a23])), (a11, .inl (cI, 26, .inl (fun j => nI (tr j)))), (a18, .inl (cI, 64, .inl (fun j => nI (re j))))] H → va_D A [(h, .inr (8, [.int (nI i0), .int (nI i1), .ref a2, .ref a3, .ref a4, .ref a5, .ref a6, .ref a7, .ref a8, .int (nI i9), .ref a10, .ref a11, .ref a12, .ref a13, .ref a14, .ref a15, .int (nI i16), .int (nI i17), .ref a18, .int (nI i19), .ref a20, .ref a21, .int (nI i22), .ref a23])), (a11, .inl (cI, 26, .inl (fun j => nI (tr j)))), (a18, .inl (cI, 64, .inl (fun j => nI (re j))))] → va_S A H0 H locs → W p l e R s m args below meth c H locs cells slots Q (F0 m pc ls [.int (nI 0)])) : ∀ (ls : Array Slot) (H : Heap) (locs : List Loc), lv_has ls 9 [(0, .ref h), (1, .int (nI 2)), (2, .int (nI dt))] → va_P D classes [(h, .inr (8, [.int (nI i0), .int (nI i1), .ref a2, .ref a3, .ref a4, .ref a5, .ref a6, .ref a7, .ref a8, .int (nI i9), .ref a10, .ref a11, .ref a12, .ref a13, .ref a14, .ref a15, .int (nI i16), .int (nI i17), .ref a18, .int (nI i19), .ref a20, .ref a21, .int (nI i22), .ref a23])), (a11, .inl (cI, 26, .inl (fun j => nI (tr j)))), (a18, .inl (cI, 64, .inl (fun j => nI (re j))))] H → va_D A [(h, .inr (8, [.int (nI i0), .int (nI i1), .ref a2, .ref a3, .ref a4, .ref a5, .ref a6, .ref a7, .ref a8, .int (nI i9), .ref a10, .ref a11, .ref a12, .ref a13, .ref a14, .ref a15, .int (nI i16), .int (nI i17), .ref a18, .int (nI i19), .ref a20, .ref a21, .int (nI i22), .ref a23])), (a11, .inl (cI, 26, .inl (fun j => nI (tr j)))), (a18, .inl (cI, 64, .inl (fun j => nI (re j))))] → va_S A H0 H locs → W p l e R s m args below meth c H locs cells slots Q (F0 m 0 ls []) := by
  obtain ⟨hx, hb, hml, hown, hts⟩ := id S
  intro ls H locs hl hP hD hS
  refine lv_iload_n hx hb d_m_characters_0 rfl (lv_at hl 1 rfl) ?_
  refine lv_iconst (v := nI 1) hx hb d_m_characters_1 (by decide) ?_
  refine n_icmp_ne hx hb d_m_characters_2 (tgt := 10) rfl (by omega) (by omega) (fun g2 => ?_) (fun g2 => absurd g2 (by decide))
  refine lv_iload_n hx hb d_m_characters_10 rfl (lv_at hl 1 rfl) ?_
  refine lv_iconst (v := nI 2) hx hb d_m_characters_11 (by decide) ?_
  refine n_icmp_ne hx hb d_m_characters_12 (tgt := 20) rfl (by omega) (by omega) (fun g12 => absurd g12 (by decide)) (fun g12 => ?_)
  refine lv_bipush (v := nI 9) hx hb d_m_characters_15 (by decide) ?_
  refine lv_goto hx hb d_m_characters_17 (tgt := 22) rfl ?_
  refine lv_istore_n hx hb d_m_characters_22 rfl hl (Nat.le_of_ble_eq_true rfl) rfl (fun ls hl => ?_)
  have hl : lv_has ls 9 [(3, .int (nI 9)), (0, .ref h), (1, .int (nI 2)), (2, .int (nI dt))] := hl
  refine lv_aload_n hx hb d_m_characters_23 rfl (lv_at hl 1 rfl) ?_
  refine n_get (C := R_Model) (T := F_Model) (N := 24) (v := .int (nI i16)) hx hb hts u_Model_in hown hK hP 0 rfl rfl 16 (by decide) kw_792 rfl d_m_characters_24 ?_
  refine lv_iload_n hx hb d_m_characters_27 rfl (lv_at hl 0 rfl) ?_
  refine n_iadd hx hb d_m_characters_28 ?_
  refine lv_bipush (v := nI 8) hx hb d_m_characters_29 (by decide) ?_
  refine lv_iload_n hx hb d_m_characters_31 rfl (lv_at hl 3 rfl) ?_
  refine n_imul hx hb d_m_characters_32 ?_
  refine n_icmp_le hx hb d_m_characters_33 (tgt := 38) rfl (by omega) (by omega) (fun g33 => absurd g33 (by omega)) (fun g33 => ?_)
  refine lv_iconst (v := nI 0) hx hb d_m_characters_36 (by decide) ?_
  exact kr _ ls H locs d_m_characters_37 hP hD hS
set_option maxHeartbeats 1000000 in
set_option maxRecDepth 100000 in
theorem c_m_characters_2_no (l : Launch) (D : va_G) (cI cC : ClassId) (h i0 i1 a2 a3 a4 a5 a6 a7 a8 i9 a10 a11 a12 a13 a14 a15 i16 i17 a18 i19 a20 a21 i22 a23 : Nat) (tr re : Nat → Nat) (dt : Nat) (hdt : dt ≤ 19) (hp0 : i16 ≤ 208) (hno : 8 * dt < i16 + 9) (sz : Nat) : Met l y_m_characters (cd_m_characters :: WS) { frames := 2, cells := 0, slots := 0, locals := 50 } (va_Pc [.ref h, .int (nI 2), .int (nI dt)] (wP D [(h, .inr (8, [.int (nI i0), .int (nI i1), .ref a2, .ref a3, .ref a4, .ref a5, .ref a6, .ref a7, .ref a8, .int (nI i9), .ref a10, .ref a11, .ref a12, .ref a13, .ref a14, .ref a15, .int (nI i16), .int (nI i17), .ref a18, .int (nI i19), .ref a20, .ref a21, .int (nI i22), .ref a23])), (a11, .inl (cI, 26, .inl (fun j => nI (tr j)))), (a18, .inl (cI, 64, .inl (fun j => nI (re j))))] [(cI, .int), (cC, .char)] sz)) (wQi D (nI 0) [(h, .inr (8, [.int (nI i0), .int (nI i1), .ref a2, .ref a3, .ref a4, .ref a5, .ref a6, .ref a7, .ref a8, .int (nI i9), .ref a10, .ref a11, .ref a12, .ref a13, .ref a14, .ref a15, .int (nI i16), .int (nI i17), .ref a18, .int (nI i19), .ref a20, .ref a21, .int (nI i22), .ref a23])), (a11, .inl (cI, 26, .inl (fun j => nI (tr j)))), (a18, .inl (cI, 64, .inl (fun j => nI (re j))))] [(h, .inr (8, [.int (nI i0), .int (nI i1), .ref a2, .ref a3, .ref a4, .ref a5, .ref a6, .ref a7, .ref a8, .int (nI i9), .ref a10, .ref a11, .ref a12, .ref a13, .ref a14, .ref a15, .int (nI i16), .int (nI i17), .ref a18, .int (nI i19), .ref a20, .ref a21, .int (nI i22), .ref a23])), (a11, .inl (cI, 26, .inl (fun j => nI (tr j)))), (a18, .inl (cI, 64, .inl (fun j => nI (re j))))] sz) 0 0 (va_A [(h, .inr (8, [.int (nI i0), .int (nI i1), .ref a2, .ref a3, .ref a4, .ref a5, .ref a6, .ref a7, .ref a8, .int (nI i9), .ref a10, .ref a11, .ref a12, .ref a13, .ref a14, .ref a15, .int (nI i16), .int (nI i17), .ref a18, .int (nI i19), .ref a20, .ref a21, .int (nI i22), .ref a23])), (a11, .inl (cI, 26, .inl (fun j => nI (tr j)))), (a18, .inl (cI, 64, .inl (fun j => nI (re j))))] sz) := by
  refine Met.ofW (cc := b_m_characters) (maxL := 9) (ret := (some .boolean)) (by decide) rfl ?_
  intro p e s m args below meth c s₁ B hml hv0
  obtain ⟨rfl, hP, hK, hD0, hsz⟩ := hv0
  have hts := atoms_spec (ws := cd_m_characters :: WS) B.pre
  have hown : s.vm.findClass R_Model = some m.cls := findClass_of_methodNamed B.named
  have hlocks := B.notSynchronized
  subst hsz
  have hD := hD0.self (sz := s.heap.size)
  have hl := lv_entry ([.ref h, .int (nI 2), .int (nI dt)]) (n := 9) (Nat.le_of_ble_eq_true rfl)
  rw [lg_entry_eq]
  generalize (lg_sl ([.ref h, .int (nI 2), .int (nI dt)]) ++ List.replicate (9 - (lg_sl ([.ref h, .int (nI 2), .int (nI dt)])).length) Slot.unset).toArray = ls at hl ⊢
  refine bd_m_characters_2_no cI cC h i0 i1 a2 a3 a4 a5 a6 a7 a8 i9 a10 a11 a12 a13 a14 a15 i16 i17 a18 i19 a20 a21 i22 a23 tr re dt hdt hp0 hno ⟨B.exec, B.bytes, hml, hown, hts⟩ (Nat.le_refl _) (Nat.le_refl _) ⟨Nat.le_refl _, Nat.le_refl _⟩ hK (fun q h => Or.inr h) (fun pc ls H locs hd hP hD hS => ?_) ls _ _ hl hP hD (va_S.rf)
  exact W.zret B.exec B.bytes B.returns rfl (fun t ht _ => ⟨⟨_, (), rfl, rfl, (by have h9 := hP; rw [← ht] at h9; exact h9)⟩, hS.F ht⟩) hS.2.2 hd
end
section
variable {p : Program} {l : Launch} {e : Env} {R : Room} {s : State} {m : MethodId} {args : Array Value} {below : List Frame} {meth : Method} {c : Code} {cells slots : Nat} {Q : State → Prop} {A : Nat → Prop} {H0 : Heap} {D : va_G}
set_option maxHeartbeats 1000000 in
set_option maxRecDepth 100000 in
theorem lw_m_characters_2_ok_48 (cI cC : ClassId) (h i0 i1 a2 a3 a4 a5 a6 a7 a8 i9 a10 a11 a12 a13 a14 a15 i16 i17 a18 i19 a20 a21 i22 a23 : Nat) (tr re : Nat → Nat) (dt : Nat) (hdt : dt ≤ 19) (hyes : i16 + 9 ≤ 8 * dt) (hinv : 10 * i17 ≤ 3 * i16) (htr : ∀ j, j < 26 → tr j < 256) (S : CallFix p m c b_m_characters 9 s args (cd_m_characters :: WS) R_Model) (hRf : 2 ≤ R.frames) (hRl : 50 ≤ R.locals) (hRc : cells ≤ R.cells ∧ slots ≤ R.slots) (hK : va_K D classes [(cI, .int), (cC, .char)] s) (hA : ∀ q, H0.size ≤ q → A q) :
    ∀ (n : Nat) (lf : Nat) (pl : Nat) (fd : Nat) (rd : Nat → Nat), (lf ≤ n ∧ lf < 2048) → (10 * fd ≤ 3 * pl) → (pl ≤ 8 * dt) → (∀ (ls : Array Slot) (H : Heap) (locs : List Loc), lv_has ls 9 [(0, .ref h), (5, .int (nI ((chW tr 2 dt n lf pl fd rd).1)))] → va_P D classes [(h, .inr (8, [.int (nI i0), .int (nI i1), .ref a2, .ref a3, .ref a4, .ref a5, .ref a6, .ref a7, .ref a8, .int (nI i9), .ref a10, .ref a11, .ref a12, .ref a13, .ref a14, .ref a15, .int (nI ((chW tr 2 dt n lf pl fd rd).2.1)), .int (nI ((chW tr 2 dt n lf pl fd rd).2.2.1)), .ref a18, .int (nI i19), .ref a20, .ref a21, .int (nI i22), .ref a23])), (a11, .inl (cI, 26, .inl (fun j => nI (tr j)))), (a18, .inl (cI, 64, .inl (fun j => nI (((chW tr 2 dt n lf pl fd rd).2.2.2) j))))] H → va_D A [(h, .inr (8, [.int (nI i0), .int (nI i1), .ref a2, .ref a3, .ref a4, .ref a5, .ref a6, .ref a7, .ref a8, .int (nI i9), .ref a10, .ref a11, .ref a12, .ref a13, .ref a14, .ref a15, .int (nI ((chW tr 2 dt n lf pl fd rd).2.1)), .int (nI ((chW tr 2 dt n lf pl fd rd).2.2.1)), .ref a18, .int (nI i19), .ref a20, .ref a21, .int (nI i22), .ref a23])), (a11, .inl (cI, 26, .inl (fun j => nI (tr j)))), (a18, .inl (cI, 64, .inl (fun j => nI (((chW tr 2 dt n lf pl fd rd).2.2.2) j))))] → va_S A H0 H locs → W p l e R s m args below meth c H locs cells slots Q (F0 m 195 ls [])) → ∀ (ls : Array Slot) (H : Heap) (locs : List Loc), lv_has ls 9 [(0, .ref h), (1, .int (nI 2)), (2, .int (nI dt)), (3, .int (nI 9)), (4, .int (nI lf)), (5, .int (nI 1))] → va_P D classes [(h, .inr (8, [.int (nI i0), .int (nI i1), .ref a2, .ref a3, .ref a4, .ref a5, .ref a6, .ref a7, .ref a8, .int (nI i9), .ref a10, .ref a11, .ref a12, .ref a13, .ref a14, .ref a15, .int (nI pl), .int (nI fd), .ref a18, .int (nI i19), .ref a20, .ref a21, .int (nI i22), .ref a23])), (a11, .inl (cI, 26, .inl (fun j => nI (tr j)))), (a18, .inl (cI, 64, .inl (fun j => nI (rd j))))] H → va_D A [(h, .inr (8, [.int (nI i0), .int (nI i1), .ref a2, .ref a3, .ref a4, .ref a5, .ref a6, .ref a7, .ref a8, .int (nI i9), .ref a10, .ref a11, .ref a12, .ref a13, .ref a14, .ref a15, .int (nI pl), .int (nI fd), .ref a18, .int (nI i19), .ref a20, .ref a21, .int (nI i22), .ref a23])), (a11, .inl (cI, 26, .inl (fun j => nI (tr j)))), (a18, .inl (cI, 64, .inl (fun j => nI (rd j))))] → va_S A H0 H locs → W p l e R s m args below meth c H locs cells slots Q (F0 m 48 ls []) := by
  obtain ⟨hx, hb, hml, hown, hts⟩ := id S
  refine fuel_ind (fun n ih => ?_)
  intro lf pl fd rd hln hi1 hi2 kx ls H locs hl hP hD hS
  refine lv_iload hx hb d_m_characters_48 (lv_at hl 4 rfl) ?_
  refine n_if_le hx hb d_m_characters_50 (tgt := 195) rfl (by omega) (fun g50 => ?_) (fun g50 => ?_)
  · skip
    rw [chW_z (by omega)] at kx
    exact kx ls H locs (lv_sub hl [0, 5] rfl) hP hD hS
  · skip
    refine lv_iload hx hb d_m_characters_53 (lv_at hl 5 rfl) ?_
    refine n_if_eq hx hb d_m_characters_55 (tgt := 195) rfl (by omega) (fun g55 => absurd g55 (by decide)) (fun g55 => ?_)
    refine lv_iload_n hx hb d_m_characters_58 rfl (lv_at hl 1 rfl) ?_
    refine lv_iconst (v := nI 1) hx hb d_m_characters_59 (by decide) ?_
    refine n_icmp_ne hx hb d_m_characters_60 (tgt := 67) rfl (by omega) (by omega) (fun g60 => ?_) (fun g60 => absurd g60 (by decide))
    refine lv_iload_n hx hb d_m_characters_67 rfl (lv_at hl 1 rfl) ?_
    refine lv_iconst (v := nI 2) hx hb d_m_characters_68 (by decide) ?_
    refine n_icmp_ne hx hb d_m_characters_69 (tgt := 76) rfl (by omega) (by omega) (fun g69 => absurd g69 (by decide)) (fun g69 => ?_)
    refine lv_iconst (v := nI 2) hx hb d_m_characters_72 (by decide) ?_
    refine lv_goto hx hb d_m_characters_73 (tgt := 77) rfl ?_
    refine lv_istore hx hb d_m_characters_77 hl (Nat.le_of_ble_eq_true rfl) rfl (fun ls hl => ?_)
    have hl : lv_has ls 9 [(6, .int (nI 2)), (0, .ref h), (1, .int (nI 2)), (2, .int (nI dt)), (3, .int (nI 9)), (4, .int (nI lf)), (5, .int (nI 1))] := hl
    refine lv_iload hx hb d_m_characters_79 (lv_at hl 5 rfl) ?_
    refine lv_iload hx hb d_m_characters_81 (lv_at hl 0 rfl) ?_
    refine n_icmp_ge hx hb d_m_characters_83 (tgt := 91) rfl (by omega) (by omega) (fun g83 => ?_) (fun g83 => ?_)
    · skip
      refine lv_iload hx hb d_m_characters_91 (lv_at hl 0 rfl) ?_
      refine lv_istore hx hb d_m_characters_93 hl (Nat.le_of_ble_eq_true rfl) rfl (fun ls hl => ?_)
      have hl : lv_has ls 9 [(7, .int (nI 2)), (6, .int (nI 2)), (0, .ref h), (1, .int (nI 2)), (2, .int (nI dt)), (3, .int (nI 9)), (4, .int (nI lf)), (5, .int (nI 1))] := hl
      refine lv_iload_n hx hb d_m_characters_95 rfl (lv_at hl 3 rfl) ?_
      refine lv_iconst (v := nI 4) hx hb d_m_characters_96 (by decide) ?_
      refine n_icmp_ne hx hb d_m_characters_97 (tgt := 105) rfl (by omega) (by omega) (fun g97 => ?_) (fun g97 => absurd g97 (by decide))
      refine lv_iload_n hx hb d_m_characters_105 rfl (lv_at hl 3 rfl) ?_
      refine lv_iconst (v := nI 2) hx hb d_m_characters_106 (by decide) ?_
      refine n_icmp_ne hx hb d_m_characters_107 (tgt := 126) rfl (by omega) (by omega) (fun g107 => absurd g107 (by decide)) (fun g107 => ?_)
      refine lv_iload hx hb d_m_characters_110 (lv_at hl 0 rfl) ?_
      refine lv_iconst (v := nI 2) hx hb d_m_characters_112 (by decide) ?_
      refine n_icmp_ne hx hb d_m_characters_113 (tgt := 121) rfl (by omega) (by omega) (fun g113 => absurd g113 (by decide)) (fun g113 => ?_)
      refine lv_bipush (v := nI 11) hx hb d_m_characters_116 (by decide) ?_
      refine lv_goto hx hb d_m_characters_118 (tgt := 149) rfl ?_
      refine lv_istore hx hb d_m_characters_149 hl (Nat.le_of_ble_eq_true rfl) rfl (fun ls hl => ?_)
      have hl : lv_has ls 9 [(8, .int (nI 11)), (7, .int (nI 2)), (6, .int (nI 2)), (0, .ref h), (1, .int (nI 2)), (2, .int (nI dt)), (3, .int (nI 9)), (4, .int (nI lf)), (5, .int (nI 1))] := hl
      rcases Nat.lt_or_ge (8 * dt) (pl + 11) with hrm | hrm
      · skip
        refine lv_aload_n hx hb d_m_characters_151 rfl (lv_at hl 3 rfl) ?_
        refine lv_iload hx hb d_m_characters_152 (lv_at hl 1 rfl) ?_
        refine lv_iload_n hx hb d_m_characters_154 rfl (lv_at hl 4 rfl) ?_
        refine lv_iconst (v := nI 1) hx hb d_m_characters_155 (by decide) ?_
        refine n_icmp_ne hx hb d_m_characters_156 (tgt := 164) rfl (by omega) (by omega) (fun g156 => ?_) (fun g156 => absurd g156 (by decide))
        refine lv_iload_n hx hb d_m_characters_164 rfl (lv_at hl 4 rfl) ?_
        refine lv_iconst (v := nI 2) hx hb d_m_characters_165 (by decide) ?_
        refine n_icmp_ne hx hb d_m_characters_166 (tgt := 174) rfl (by omega) (by omega) (fun g166 => absurd g166 (by decide)) (fun g166 => ?_)
        refine lv_bipush (v := nI 45) hx hb d_m_characters_169 (by decide) ?_
        refine lv_goto hx hb d_m_characters_171 (tgt := 177) rfl ?_
        refine lv_iload hx hb d_m_characters_177 (lv_at hl 0 rfl) ?_
        refine lv_iload_n hx hb d_m_characters_179 rfl (lv_at hl 5 rfl) ?_
        refine q_writeVi (n := 4) (As := [.int (nI 2), .int (nI 45), .int (nI 11), .int (nI dt)]) (rest := []) (wc := [(h, .inr (8, [.int (nI i0), .int (nI i1), .ref a2, .ref a3, .ref a4, .ref a5, .ref a6, .ref a7, .ref a8, .int (nI i9), .ref a10, .ref a11, .ref a12, .ref a13, .ref a14, .ref a15, .int (nI pl), .int (nI fd), .ref a18, .int (nI i19), .ref a20, .ref a21, .int (nI i22), .ref a23])), (a11, .inl (cI, 26, .inl (fun j => nI (tr j)))), (a18, .inl (cI, 64, .inl (fun j => nI (rd j))))]) (wr := []) (w1 := [(h, .inr (8, [.int (nI i0), .int (nI i1), .ref a2, .ref a3, .ref a4, .ref a5, .ref a6, .ref a7, .ref a8, .int (nI i9), .ref a10, .ref a11, .ref a12, .ref a13, .ref a14, .ref a15, .int (nI pl), .int (nI fd), .ref a18, .int (nI i19), .ref a20, .ref a21, .int (nI i22), .ref a23])), (a11, .inl (cI, 26, .inl (fun j => nI (tr j)))), (a18, .inl (cI, 64, .inl (fun j => nI (rd j))))]) S (c_m_group_no l D cI cC h i0 i1 a2 a3 a4 a5 a6 a7 a8 i9 a10 a11 a12 a13 a14 a15 pl fd a18 i19 a20 a21 i22 a23 tr rd 2 45 11 dt (by omega) (by omega) (by omega) (by omega) H.size) hK hP hD hA (q0 := 0) rfl rfl [0, 1, 2] [] rfl rfl rfl rfl (by decide) rfl (q_goodV kw_988 kw_990 ks_40 kw_10 kw_991) (by decide +kernel) rfl rfl rfl ⟨Nat.le_trans (Nat.le_of_ble_eq_true rfl) hRf, Nat.le_trans (Nat.le_of_ble_eq_true rfl) hRl⟩ rfl hl.1 rfl (Nat.le_of_ble_eq_true rfl) d_m_characters_180 hRc hS (fun H locs hP hD hS => ?_)
        replace hP : va_P D classes [(h, .inr (8, [.int (nI i0), .int (nI i1), .ref a2, .ref a3, .ref a4, .ref a5, .ref a6, .ref a7, .ref a8, .int (nI i9), .ref a10, .ref a11, .ref a12, .ref a13, .ref a14, .ref a15, .int (nI pl), .int (nI fd), .ref a18, .int (nI i19), .ref a20, .ref a21, .int (nI i22), .ref a23])), (a11, .inl (cI, 26, .inl (fun j => nI (tr j)))), (a18, .inl (cI, 64, .inl (fun j => nI (rd j))))] H := hP.sub [0, 1, 2] rfl
        replace hD : va_D A [(h, .inr (8, [.int (nI i0), .int (nI i1), .ref a2, .ref a3, .ref a4, .ref a5, .ref a6, .ref a7, .ref a8, .int (nI i9), .ref a10, .ref a11, .ref a12, .ref a13, .ref a14, .ref a15, .int (nI pl), .int (nI fd), .ref a18, .int (nI i19), .ref a20, .ref a21, .int (nI i22), .ref a23])), (a11, .inl (cI, 26, .inl (fun j => nI (tr j)))), (a18, .inl (cI, 64, .inl (fun j => nI (rd j))))] := hD.sub [0, 1, 2] rfl rfl
        refine lv_istore hx hb d_m_characters_183 hl (Nat.le_of_ble_eq_true rfl) rfl (fun ls hl => ?_)
        have hl : lv_has ls 9 [(5, .int (nI 0)), (8, .int (nI 11)), (7, .int (nI 2)), (6, .int (nI 2)), (0, .ref h), (1, .int (nI 2)), (2, .int (nI dt)), (3, .int (nI 9)), (4, .int (nI lf))] := hl
        refine lv_iload hx hb d_m_characters_185 (lv_at hl 8 rfl) ?_
        refine lv_iload hx hb d_m_characters_187 (lv_at hl 2 rfl) ?_
        refine n_isub hx hb d_m_characters_189 (by omega) ?_
        refine lv_istore hx hb d_m_characters_190 hl (Nat.le_of_ble_eq_true rfl) rfl (fun ls hl => ?_)
        have hl : lv_has ls 9 [(4, .int (nI (lf - 2))), (5, .int (nI 0)), (8, .int (nI 11)), (7, .int (nI 2)), (6, .int (nI 2)), (0, .ref h), (1, .int (nI 2)), (2, .int (nI dt)), (3, .int (nI 9))] := hl
        refine lv_goto hx hb d_m_characters_192 (tgt := 48) rfl ?_
        refine lv_iload hx hb d_m_characters_48 (lv_at hl 0 rfl) ?_
        refine n_if_le hx hb d_m_characters_50 (tgt := 195) rfl (by omega) (fun g50 => ?_) (fun g50 => ?_)
        · skip
          obtain ⟨m9, rfl⟩ : ∃ m9, n = m9 + 1 := ⟨n - 1, by omega⟩
          rw [chW_no (x := 2) (z := 11) (by omega) (by show min lf 2 = 2; omega) (by first | rfl | (unfold gsz; (repeat' split) <;> omega)) hrm] at kx
          exact kx ls H locs (lv_sub hl [5, 1] rfl) hP hD hS
        · skip
          refine lv_iload hx hb d_m_characters_53 (lv_at hl 1 rfl) ?_
          refine n_if_eq hx hb d_m_characters_55 (tgt := 195) rfl (by omega) (fun g55 => ?_) (fun g55 => absurd g55 (by decide))
          obtain ⟨m9, rfl⟩ : ∃ m9, n = m9 + 1 := ⟨n - 1, by omega⟩
          rw [chW_no (x := 2) (z := 11) (by omega) (by show min lf 2 = 2; omega) (by first | rfl | (unfold gsz; (repeat' split) <;> omega)) hrm] at kx
          exact kx ls H locs (lv_sub hl [5, 1] rfl) hP hD hS
      · skip
        refine lv_aload_n hx hb d_m_characters_151 rfl (lv_at hl 3 rfl) ?_
        refine lv_iload hx hb d_m_characters_152 (lv_at hl 1 rfl) ?_
        refine lv_iload_n hx hb d_m_characters_154 rfl (lv_at hl 4 rfl) ?_
        refine lv_iconst (v := nI 1) hx hb d_m_characters_155 (by decide) ?_
        refine n_icmp_ne hx hb d_m_characters_156 (tgt := 164) rfl (by omega) (by omega) (fun g156 => ?_) (fun g156 => absurd g156 (by decide))
        refine lv_iload_n hx hb d_m_characters_164 rfl (lv_at hl 4 rfl) ?_
        refine lv_iconst (v := nI 2) hx hb d_m_characters_165 (by decide) ?_
        refine n_icmp_ne hx hb d_m_characters_166 (tgt := 174) rfl (by omega) (by omega) (fun g166 => absurd g166 (by decide)) (fun g166 => ?_)
        refine lv_bipush (v := nI 45) hx hb d_m_characters_169 (by decide) ?_
        refine lv_goto hx hb d_m_characters_171 (tgt := 177) rfl ?_
        refine lv_iload hx hb d_m_characters_177 (lv_at hl 0 rfl) ?_
        refine lv_iload_n hx hb d_m_characters_179 rfl (lv_at hl 5 rfl) ?_
        refine q_writeVi (n := 4) (As := [.int (nI 2), .int (nI 45), .int (nI 11), .int (nI dt)]) (rest := []) (wc := [(h, .inr (8, [.int (nI i0), .int (nI i1), .ref a2, .ref a3, .ref a4, .ref a5, .ref a6, .ref a7, .ref a8, .int (nI i9), .ref a10, .ref a11, .ref a12, .ref a13, .ref a14, .ref a15, .int (nI pl), .int (nI fd), .ref a18, .int (nI i19), .ref a20, .ref a21, .int (nI i22), .ref a23])), (a11, .inl (cI, 26, .inl (fun j => nI (tr j)))), (a18, .inl (cI, 64, .inl (fun j => nI (rd j))))]) (wr := []) (w1 := [(h, .inr (8, [.int (nI i0), .int (nI i1), .ref a2, .ref a3, .ref a4, .ref a5, .ref a6, .ref a7, .ref a8, .int (nI i9), .ref a10, .ref a11, .ref a12, .ref a13, .ref a14, .ref a15, .int (nI (pl + 11)), .int (nI (fd + 2)), .ref a18, .int (nI i19), .ref a20, .ref a21, .int (nI i22), .ref a23])), (a11, .inl (cI, 26, .inl (fun j => nI (tr j)))), (a18, .inl (cI, 64, .inl (fun j => nI ((gpR rd fd 2 45 (nxL tr pl 11) 2) j))))]) S (c_m_group_ok l D cI cC h i0 i1 a2 a3 a4 a5 a6 a7 a8 i9 a10 a11 a12 a13 a14 a15 pl fd a18 i19 a20 a21 i22 a23 tr rd 2 45 11 dt (by omega) (by omega) (by omega) (by omega) (by omega) (by omega) htr H.size) hK hP hD hA (q0 := 0) rfl rfl [0, 1, 2] [] rfl rfl rfl rfl (by decide) rfl (q_goodV kw_988 kw_990 ks_40 kw_10 kw_991) (by decide +kernel) rfl rfl rfl ⟨Nat.le_trans (Nat.le_of_ble_eq_true rfl) hRf, Nat.le_trans (Nat.le_of_ble_eq_true rfl) hRl⟩ rfl hl.1 rfl (Nat.le_of_ble_eq_true rfl) d_m_characters_180 hRc hS (fun H locs hP hD hS => ?_)
        replace hP : va_P D classes [(h, .inr (8, [.int (nI i0), .int (nI i1), .ref a2, .ref a3, .ref a4, .ref a5, .ref a6, .ref a7, .ref a8, .int (nI i9), .ref a10, .ref a11, .ref a12, .ref a13, .ref a14, .ref a15, .int (nI (pl + 11)), .int (nI (fd + 2)), .ref a18, .int (nI i19), .ref a20, .ref a21, .int (nI i22), .ref a23])), (a11, .inl (cI, 26, .inl (fun j => nI (tr j)))), (a18, .inl (cI, 64, .inl (fun j => nI ((gpR rd fd 2 45 (nxL tr pl 11) 2) j))))] H := hP.sub [0, 1, 2] rfl
        replace hD : va_D A [(h, .inr (8, [.int (nI i0), .int (nI i1), .ref a2, .ref a3, .ref a4, .ref a5, .ref a6, .ref a7, .ref a8, .int (nI i9), .ref a10, .ref a11, .ref a12, .ref a13, .ref a14, .ref a15, .int (nI (pl + 11)), .int (nI (fd + 2)), .ref a18, .int (nI i19), .ref a20, .ref a21, .int (nI i22), .ref a23])), (a11, .inl (cI, 26, .inl (fun j => nI (tr j)))), (a18, .inl (cI, 64, .inl (fun j => nI ((gpR rd fd 2 45 (nxL tr pl 11) 2) j))))] := hD.sub [0, 1, 2] rfl rfl
        by_cases hgd : gpV (nxL tr pl 11) 45 2 = 0
        · skip
          refine n_topn (show bN (gpV (nxL tr pl 11) 45 2 = 0) = 1 from bN_t hgd) ?_
          refine lv_istore hx hb d_m_characters_183 hl (Nat.le_of_ble_eq_true rfl) rfl (fun ls hl => ?_)
          have hl : lv_has ls 9 [(5, .int (nI 1)), (8, .int (nI 11)), (7, .int (nI 2)), (6, .int (nI 2)), (0, .ref h), (1, .int (nI 2)), (2, .int (nI dt)), (3, .int (nI 9)), (4, .int (nI lf))] := hl
          refine lv_iload hx hb d_m_characters_185 (lv_at hl 8 rfl) ?_
          refine lv_iload hx hb d_m_characters_187 (lv_at hl 2 rfl) ?_
          refine n_isub hx hb d_m_characters_189 (by omega) ?_
          refine lv_istore hx hb d_m_characters_190 hl (Nat.le_of_ble_eq_true rfl) rfl (fun ls hl => ?_)
          have hl : lv_has ls 9 [(4, .int (nI (lf - 2))), (5, .int (nI 1)), (8, .int (nI 11)), (7, .int (nI 2)), (6, .int (nI 2)), (0, .ref h), (1, .int (nI 2)), (2, .int (nI dt)), (3, .int (nI 9))] := hl
          refine lv_goto hx hb d_m_characters_192 (tgt := 48) rfl ?_
          obtain ⟨m9, rfl⟩ : ∃ m9, n = m9 + 1 := ⟨n - 1, by omega⟩
          rw [chW_s (x := 2) (z := 11) (by omega) (by show min lf 2 = 2; omega) (by first | rfl | (unfold gsz; (repeat' split) <;> omega)) hrm hgd] at kx
          exact ih _ rfl (lf - 2) (pl + 11) (fd + 2) (gpR rd fd 2 45 (nxL tr pl 11) 2) ⟨by omega, by omega⟩ (by omega) (by omega) kx ls H locs (lv_sub hl [5, 6, 7, 8, 0, 1] rfl) hP hD hS
        · skip
          refine n_topn (show bN (gpV (nxL tr pl 11) 45 2 = 0) = 0 from bN_f hgd) ?_
          refine lv_istore hx hb d_m_characters_183 hl (Nat.le_of_ble_eq_true rfl) rfl (fun ls hl => ?_)
          have hl : lv_has ls 9 [(5, .int (nI 0)), (8, .int (nI 11)), (7, .int (nI 2)), (6, .int (nI 2)), (0, .ref h), (1, .int (nI 2)), (2, .int (nI dt)), (3, .int (nI 9)), (4, .int (nI lf))] := hl
          refine lv_iload hx hb d_m_characters_185 (lv_at hl 8 rfl) ?_
          refine lv_iload hx hb d_m_characters_187 (lv_at hl 2 rfl) ?_
          refine n_isub hx hb d_m_characters_189 (by omega) ?_
          refine lv_istore hx hb d_m_characters_190 hl (Nat.le_of_ble_eq_true rfl) rfl (fun ls hl => ?_)
          have hl : lv_has ls 9 [(4, .int (nI (lf - 2))), (5, .int (nI 0)), (8, .int (nI 11)), (7, .int (nI 2)), (6, .int (nI 2)), (0, .ref h), (1, .int (nI 2)), (2, .int (nI dt)), (3, .int (nI 9))] := hl
          refine lv_goto hx hb d_m_characters_192 (tgt := 48) rfl ?_
          refine lv_iload hx hb d_m_characters_48 (lv_at hl 0 rfl) ?_
          refine n_if_le hx hb d_m_characters_50 (tgt := 195) rfl (by omega) (fun g50 => ?_) (fun g50 => ?_)
          · skip
            obtain ⟨m9, rfl⟩ : ∃ m9, n = m9 + 1 := ⟨n - 1, by omega⟩
            rw [chW_bad (x := 2) (z := 11) (by omega) (by show min lf 2 = 2; omega) (by first | rfl | (unfold gsz; (repeat' split) <;> omega)) hrm hgd] at kx
            exact kx ls H locs (lv_sub hl [5, 1] rfl) hP hD hS
          · skip
            refine lv_iload hx hb d_m_characters_53 (lv_at hl 1 rfl) ?_
            refine n_if_eq hx hb d_m_characters_55 (tgt := 195) rfl (by omega) (fun g55 => ?_) (fun g55 => absurd g55 (by decide))
            obtain ⟨m9, rfl⟩ : ∃ m9, n = m9 + 1 := ⟨n - 1, by omega⟩
            rw [chW_bad (x := 2) (z := 11) (by omega) (by show min lf 2 = 2; omega) (by first | rfl | (unfold gsz; (repeat' split) <;> omega)) hrm hgd] at kx
            exact kx ls H locs (lv_sub hl [5, 1] rfl) hP hD hS
    · skip
      refine lv_iload hx hb d_m_characters_86 (lv_at hl 5 rfl) ?_
      refine lv_goto hx hb d_m_characters_88 (tgt := 93) rfl ?_
      refine n_topn (show lf = 1 from (by omega)) ?_
      refine lv_istore hx hb d_m_characters_93 hl (Nat.le_of_ble_eq_true rfl) rfl (fun ls hl => ?_)
      have hl : lv_has ls 9 [(7, .int (nI 1)), (6, .int (nI 2)), (0, .ref h), (1, .int (nI 2)), (2, .int (nI dt)), (3, .int (nI 9)), (4, .int (nI lf)), (5, .int (nI 1))] := hl
      refine lv_iload_n hx hb d_m_characters_95 rfl (lv_at hl 3 rfl) ?_
      refine lv_iconst (v := nI 4) hx hb d_m_characters_96 (by decide) ?_
      refine n_icmp_ne hx hb d_m_characters_97 (tgt := 105) rfl (by omega) (by omega) (fun g97 => ?_) (fun g97 => absurd g97 (by decide))
      refine lv_iload_n hx hb d_m_characters_105 rfl (lv_at hl 3 rfl) ?_
      refine lv_iconst (v := nI 2) hx hb d_m_characters_106 (by decide) ?_
      refine n_icmp_ne hx hb d_m_characters_107 (tgt := 126) rfl (by omega) (by omega) (fun g107 => absurd g107 (by decide)) (fun g107 => ?_)
      refine lv_iload hx hb d_m_characters_110 (lv_at hl 0 rfl) ?_
      refine lv_iconst (v := nI 2) hx hb d_m_characters_112 (by decide) ?_
      refine n_icmp_ne hx hb d_m_characters_113 (tgt := 121) rfl (by omega) (by omega) (fun g113 => ?_) (fun g113 => absurd g113 (by decide))
      refine lv_bipush (v := nI 6) hx hb d_m_characters_121 (by decide) ?_
      refine lv_goto hx hb d_m_characters_123 (tgt := 149) rfl ?_
      refine lv_istore hx hb d_m_characters_149 hl (Nat.le_of_ble_eq_true rfl) rfl (fun ls hl => ?_)
      have hl : lv_has ls 9 [(8, .int (nI 6)), (7, .int (nI 1)), (6, .int (nI 2)), (0, .ref h), (1, .int (nI 2)), (2, .int (nI dt)), (3, .int (nI 9)), (4, .int (nI lf)), (5, .int (nI 1))] := hl
      rcases Nat.lt_or_ge (8 * dt) (pl + 6) with hrm | hrm
      · skip
        refine lv_aload_n hx hb d_m_characters_151 rfl (lv_at hl 3 rfl) ?_
        refine lv_iload hx hb d_m_characters_152 (lv_at hl 1 rfl) ?_
        refine lv_iload_n hx hb d_m_characters_154 rfl (lv_at hl 4 rfl) ?_
        refine lv_iconst (v := nI 1) hx hb d_m_characters_155 (by decide) ?_
        refine n_icmp_ne hx hb d_m_characters_156 (tgt := 164) rfl (by omega) (by omega) (fun g156 => ?_) (fun g156 => absurd g156 (by decide))
        refine lv_iload_n hx hb d_m_characters_164 rfl (lv_at hl 4 rfl) ?_
        refine lv_iconst (v := nI 2) hx hb d_m_characters_165 (by decide) ?_
        refine n_icmp_ne hx hb d_m_characters_166 (tgt := 174) rfl (by omega) (by omega) (fun g166 => absurd g166 (by decide)) (fun g166 => ?_)
        refine lv_bipush (v := nI 45) hx hb d_m_characters_169 (by decide) ?_
        refine lv_goto hx hb d_m_characters_171 (tgt := 177) rfl ?_
        refine lv_iload hx hb d_m_characters_177 (lv_at hl 0 rfl) ?_
        refine lv_iload_n hx hb d_m_characters_179 rfl (lv_at hl 5 rfl) ?_
        refine q_writeVi (n := 4) (As := [.int (nI 1), .int (nI 45), .int (nI 6), .int (nI dt)]) (rest := []) (wc := [(h, .inr (8, [.int (nI i0), .int (nI i1), .ref a2, .ref a3, .ref a4, .ref a5, .ref a6, .ref a7, .ref a8, .int (nI i9), .ref a10, .ref a11, .ref a12, .ref a13, .ref a14, .ref a15, .int (nI pl), .int (nI fd), .ref a18, .int (nI i19), .ref a20, .ref a21, .int (nI i22), .ref a23])), (a11, .inl (cI, 26, .inl (fun j => nI (tr j)))), (a18, .inl (cI, 64, .inl (fun j => nI (rd j))))]) (wr := []) (w1 := [(h, .inr (8, [.int (nI i0), .int (nI i1), .ref a2, .ref a3, .ref a4, .ref a5, .ref a6, .ref a7, .ref a8, .int (nI i9), .ref a10, .ref a11, .ref a12, .ref a13, .ref a14, .ref a15, .int (nI pl), .int (nI fd), .ref a18, .int (nI i19), .ref a20, .ref a21, .int (nI i22), .ref a23])), (a11, .inl (cI, 26, .inl (fun j => nI (tr j)))), (a18, .inl (cI, 64, .inl (fun j => nI (rd j))))]) S (c_m_group_no l D cI cC h i0 i1 a2 a3 a4 a5 a6 a7 a8 i9 a10 a11 a12 a13 a14 a15 pl fd a18 i19 a20 a21 i22 a23 tr rd 1 45 6 dt (by omega) (by omega) (by omega) (by omega) H.size) hK hP hD hA (q0 := 0) rfl rfl [0, 1, 2] [] rfl rfl rfl rfl (by decide) rfl (q_goodV kw_988 kw_990 ks_40 kw_10 kw_991) (by decide +kernel) rfl rfl rfl ⟨Nat.le_trans (Nat.le_of_ble_eq_true rfl) hRf, Nat.le_trans (Nat.le_of_ble_eq_true rfl) hRl⟩ rfl hl.1 rfl (Nat.le_of_ble_eq_true rfl) d_m_characters_180 hRc hS (fun H locs hP hD hS => ?_)
        replace hP : va_P D classes [(h, .inr (8, [.int (nI i0), .int (nI i1), .ref a2, .ref a3, .ref a4, .ref a5, .ref a6, .ref a7, .ref a8, .int (nI i9), .ref a10, .ref a11, .ref a12, .ref a13, .ref a14, .ref a15, .int (nI pl), .int (nI fd), .ref a18, .int (nI i19), .ref a20, .ref a21, .int (nI i22), .ref a23])), (a11, .inl (cI, 26, .inl (fun j => nI (tr j)))), (a18, .inl (cI, 64, .inl (fun j => nI (rd j))))] H := hP.sub [0, 1, 2] rfl
        replace hD : va_D A [(h, .inr (8, [.int (nI i0), .int (nI i1), .ref a2, .ref a3, .ref a4, .ref a5, .ref a6, .ref a7, .ref a8, .int (nI i9), .ref a10, .ref a11, .ref a12, .ref a13, .ref a14, .ref a15, .int (nI pl), .int (nI fd), .ref a18, .int (nI i19), .ref a20, .ref a21, .int (nI i22), .ref a23])), (a11, .inl (cI, 26, .inl (fun j => nI (tr j)))), (a18, .inl (cI, 64, .inl (fun j => nI (rd j))))] := hD.sub [0, 1, 2] rfl rfl
        refine lv_istore hx hb d_m_characters_183 hl (Nat.le_of_ble_eq_true rfl) rfl (fun ls hl => ?_)
        have hl : lv_has ls 9 [(5, .int (nI 0)), (8, .int (nI 6)), (7, .int (nI 1)), (6, .int (nI 2)), (0, .ref h), (1, .int (nI 2)), (2, .int (nI dt)), (3, .int (nI 9)), (4, .int (nI lf))] := hl
        refine lv_iload hx hb d_m_characters_185 (lv_at hl 8 rfl) ?_
        refine lv_iload hx hb d_m_characters_187 (lv_at hl 2 rfl) ?_
        refine n_isub hx hb d_m_characters_189 (by omega) ?_
        refine lv_istore hx hb d_m_characters_190 hl (Nat.le_of_ble_eq_true rfl) rfl (fun ls hl => ?_)
        have hl : lv_has ls 9 [(4, .int (nI (lf - 1))), (5, .int (nI 0)), (8, .int (nI 6)), (7, .int (nI 1)), (6, .int (nI 2)), (0, .ref h), (1, .int (nI 2)), (2, .int (nI dt)), (3, .int (nI 9))] := hl
        refine lv_goto hx hb d_m_characters_192 (tgt := 48) rfl ?_
        refine lv_iload hx hb d_m_characters_48 (lv_at hl 0 rfl) ?_
        refine n_if_le hx hb d_m_characters_50 (tgt := 195) rfl (by omega) (fun g50 => ?_) (fun g50 => ?_)
        · skip
          obtain ⟨m9, rfl⟩ : ∃ m9, n = m9 + 1 := ⟨n - 1, by omega⟩
          rw [chW_no (x := 1) (z := 6) (by omega) (by show min lf 2 = 1; omega) (by first | rfl | (unfold gsz; (repeat' split) <;> omega)) hrm] at kx
          exact kx ls H locs (lv_sub hl [5, 1] rfl) hP hD hS
        · skip
          refine lv_iload hx hb d_m_characters_53 (lv_at hl 1 rfl) ?_
          refine n_if_eq hx hb d_m_characters_55 (tgt := 195) rfl (by omega) (fun g55 => ?_) (fun g55 => absurd g55 (by decide))
          obtain ⟨m9, rfl⟩ : ∃ m9, n = m9 + 1 := ⟨n - 1, by omega⟩
          rw [chW_no (x := 1) (z := 6) (by omega) (by show min lf 2 = 1; omega) (by first | rfl | (unfold gsz; (repeat' split) <;> omega)) hrm] at kx
          exact kx ls H locs (lv_sub hl [5, 1] rfl) hP hD hS
      · skip
        refine lv_aload_n hx hb d_m_characters_151 rfl (lv_at hl 3 rfl) ?_
        refine lv_iload hx hb d_m_characters_152 (lv_at hl 1 rfl) ?_
        refine lv_iload_n hx hb d_m_characters_154 rfl (lv_at hl 4 rfl) ?_
        refine lv_iconst (v := nI 1) hx hb d_m_characters_155 (by decide) ?_
        refine n_icmp_ne hx hb d_m_characters_156 (tgt := 164) rfl (by omega) (by omega) (fun g156 => ?_) (fun g156 => absurd g156 (by decide))
        refine lv_iload_n hx hb d_m_characters_164 rfl (lv_at hl 4 rfl) ?_
        refine lv_iconst (v := nI 2) hx hb d_m_characters_165 (by decide) ?_
        refine n_icmp_ne hx hb d_m_characters_166 (tgt := 174) rfl (by omega) (by omega) (fun g166 => absurd g166 (by decide)) (fun g166 => ?_)
        refine lv_bipush (v := nI 45) hx hb d_m_characters_169 (by decide) ?_
        refine lv_goto hx hb d_m_characters_171 (tgt := 177) rfl ?_
        refine lv_iload hx hb d_m_characters_177 (lv_at hl 0 rfl) ?_
        refine lv_iload_n hx hb d_m_characters_179 rfl (lv_at hl 5 rfl) ?_
        refine q_writeVi (n := 4) (As := [.int (nI 1), .int (nI 45), .int (nI 6), .int (nI dt)]) (rest := []) (wc := [(h, .inr (8, [.int (nI i0), .int (nI i1), .ref a2, .ref a3, .ref a4, .ref a5, .ref a6, .ref a7, .ref a8, .int (nI i9), .ref a10, .ref a11, .ref a12, .ref a13, .ref a14, .ref a15, .int (nI pl), .int (nI fd), .ref a18, .int (nI i19), .ref a20, .ref a21, .int (nI i22), .ref a23])), (a11, .inl (cI, 26, .inl (fun j => nI (tr j)))), (a18, .inl (cI, 64, .inl (fun j => nI (rd j))))]) (wr := []) (w1 := [(h, .inr (8, [.int (nI i0), .int (nI i1), .ref a2, .ref a3, .ref a4, .ref a5, .ref a6, .ref a7, .ref a8, .int (nI i9), .ref a10, .ref a11, .ref a12, .ref a13, .ref a14, .ref a15, .int (nI (pl + 6)), .int (nI (fd + 1)), .ref a18, .int (nI i19), .ref a20, .ref a21, .int (nI i22), .ref a23])), (a11, .inl (cI, 26, .inl (fun j => nI (tr j)))), (a18, .inl (cI, 64, .inl (fun j => nI ((gpR rd fd 1 45 (nxL tr pl 6) 1) j))))]) S (c_m_group_ok l D cI cC h i0 i1 a2 a3 a4 a5 a6 a7 a8 i9 a10 a11 a12 a13 a14 a15 pl fd a18 i19 a20 a21 i22 a23 tr rd 1 45 6 dt (by omega) (by omega) (by omega) (by omega) (by omega) (by omega) htr H.size) hK hP hD hA (q0 := 0) rfl rfl [0, 1, 2] [] rfl rfl rfl rfl (by decide) rfl (q_goodV kw_988 kw_990 ks_40 kw_10 kw_991) (by decide +kernel) rfl rfl rfl ⟨Nat.le_trans (Nat.le_of_ble_eq_true rfl) hRf, Nat.le_trans (Nat.le_of_ble_eq_true rfl) hRl⟩ rfl hl.1 rfl (Nat.le_of_ble_eq_true rfl) d_m_characters_180 hRc hS (fun H locs hP hD hS => ?_)
        replace hP : va_P D classes [(h, .inr (8, [.int (nI i0), .int (nI i1), .ref a2, .ref a3, .ref a4, .ref a5, .ref a6, .ref a7, .ref a8, .int (nI i9), .ref a10, .ref a11, .ref a12, .ref a13, .ref a14, .ref a15, .int (nI (pl + 6)), .int (nI (fd + 1)), .ref a18, .int (nI i19), .ref a20, .ref a21, .int (nI i22), .ref a23])), (a11, .inl (cI, 26, .inl (fun j => nI (tr j)))), (a18, .inl (cI, 64, .inl (fun j => nI ((gpR rd fd 1 45 (nxL tr pl 6) 1) j))))] H := hP.sub [0, 1, 2] rfl
        replace hD : va_D A [(h, .inr (8, [.int (nI i0), .int (nI i1), .ref a2, .ref a3, .ref a4, .ref a5, .ref a6, .ref a7, .ref a8, .int (nI i9), .ref a10, .ref a11, .ref a12, .ref a13, .ref a14, .ref a15, .int (nI (pl + 6)), .int (nI (fd + 1)), .ref a18, .int (nI i19), .ref a20, .ref a21, .int (nI i22), .ref a23])), (a11, .inl (cI, 26, .inl (fun j => nI (tr j)))), (a18, .inl (cI, 64, .inl (fun j => nI ((gpR rd fd 1 45 (nxL tr pl 6) 1) j))))] := hD.sub [0, 1, 2] rfl rfl
        by_cases hgd : gpV (nxL tr pl 6) 45 1 = 0
        · skip
          refine n_topn (show bN (gpV (nxL tr pl 6) 45 1 = 0) = 1 from bN_t hgd) ?_
          refine lv_istore hx hb d_m_characters_183 hl (Nat.le_of_ble_eq_true rfl) rfl (fun ls hl => ?_)
          have hl : lv_has ls 9 [(5, .int (nI 1)), (8, .int (nI 6)), (7, .int (nI 1)), (6, .int (nI 2)), (0, .ref h), (1, .int (nI 2)), (2, .int (nI dt)), (3, .int (nI 9)), (4, .int (nI lf))] := hl
          refine lv_iload hx hb d_m_characters_185 (lv_at hl 8 rfl) ?_
          refine lv_iload hx hb d_m_characters_187 (lv_at hl 2 rfl) ?_
          refine n_isub hx hb d_m_characters_189 (by omega) ?_
          refine lv_istore hx hb d_m_characters_190 hl (Nat.le_of_ble_eq_true rfl) rfl (fun ls hl => ?_)
          have hl : lv_has ls 9 [(4, .int (nI (lf - 1))), (5, .int (nI 1)), (8, .int (nI 6)), (7, .int (nI 1)), (6, .int (nI 2)), (0, .ref h), (1, .int (nI 2)), (2, .int (nI dt)), (3, .int (nI 9))] := hl
          refine lv_goto hx hb d_m_characters_192 (tgt := 48) rfl ?_
          obtain ⟨m9, rfl⟩ : ∃ m9, n = m9 + 1 := ⟨n - 1, by omega⟩
          rw [chW_s (x := 1) (z := 6) (by omega) (by show min lf 2 = 1; omega) (by first | rfl | (unfold gsz; (repeat' split) <;> omega)) hrm hgd] at kx
          exact ih _ rfl (lf - 1) (pl + 6) (fd + 1) (gpR rd fd 1 45 (nxL tr pl 6) 1) ⟨by omega, by omega⟩ (by omega) (by omega) kx ls H locs (lv_sub hl [5, 6, 7, 8, 0, 1] rfl) hP hD hS
        · skip
          refine n_topn (show bN (gpV (nxL tr pl 6) 45 1 = 0) = 0 from bN_f hgd) ?_
          refine lv_istore hx hb d_m_characters_183 hl (Nat.le_of_ble_eq_true rfl) rfl (fun ls hl => ?_)
          have hl : lv_has ls 9 [(5, .int (nI 0)), (8, .int (nI 6)), (7, .int (nI 1)), (6, .int (nI 2)), (0, .ref h), (1, .int (nI 2)), (2, .int (nI dt)), (3, .int (nI 9)), (4, .int (nI lf))] := hl
          refine lv_iload hx hb d_m_characters_185 (lv_at hl 8 rfl) ?_
          refine lv_iload hx hb d_m_characters_187 (lv_at hl 2 rfl) ?_
          refine n_isub hx hb d_m_characters_189 (by omega) ?_
          refine lv_istore hx hb d_m_characters_190 hl (Nat.le_of_ble_eq_true rfl) rfl (fun ls hl => ?_)
          have hl : lv_has ls 9 [(4, .int (nI (lf - 1))), (5, .int (nI 0)), (8, .int (nI 6)), (7, .int (nI 1)), (6, .int (nI 2)), (0, .ref h), (1, .int (nI 2)), (2, .int (nI dt)), (3, .int (nI 9))] := hl
          refine lv_goto hx hb d_m_characters_192 (tgt := 48) rfl ?_
          refine lv_iload hx hb d_m_characters_48 (lv_at hl 0 rfl) ?_
          refine n_if_le hx hb d_m_characters_50 (tgt := 195) rfl (by omega) (fun g50 => ?_) (fun g50 => ?_)
          · skip
            obtain ⟨m9, rfl⟩ : ∃ m9, n = m9 + 1 := ⟨n - 1, by omega⟩
            rw [chW_bad (x := 1) (z := 6) (by omega) (by show min lf 2 = 1; omega) (by first | rfl | (unfold gsz; (repeat' split) <;> omega)) hrm hgd] at kx
            exact kx ls H locs (lv_sub hl [5, 1] rfl) hP hD hS
          · skip
            refine lv_iload hx hb d_m_characters_53 (lv_at hl 1 rfl) ?_
            refine n_if_eq hx hb d_m_characters_55 (tgt := 195) rfl (by omega) (fun g55 => ?_) (fun g55 => absurd g55 (by decide))
            obtain ⟨m9, rfl⟩ : ∃ m9, n = m9 + 1 := ⟨n - 1, by omega⟩
            rw [chW_bad (x := 1) (z := 6) (by omega) (by show min lf 2 = 1; omega) (by first | rfl | (unfold gsz; (repeat' split) <;> omega)) hrm hgd] at kx
            exact kx ls H locs (lv_sub hl [5, 1] rfl) hP hD hS
set_option maxHeartbeats 1000000 in
set_option maxRecDepth 100000 in
theorem bd_m_characters_2_ok (cI cC : ClassId) (h i0 i1 a2 a3 a4 a5 a6 a7 a8 i9 a10 a11 a12 a13 a14 a15 i16 i17 a18 i19 a20 a21 i22 a23 : Nat) (tr re : Nat → Nat) (dt : Nat) (hdt : dt ≤ 19) (hyes : i16 + 9 ≤ 8 * dt) (hinv : 10 * i17 ≤ 3 * i16) (htr : ∀ j, j < 26 → tr j < 256) (S : CallFix p m c b_m_characters 9 s args (cd_m_characters :: WS) R_Model) (hRf : 2 ≤ R.frames) (hRl : 50 ≤ R.locals) (hRc : cells ≤ R.cells ∧ slots ≤ R.slots) (hK : va_K D classes [(cI, .int), (cC, .char)] s) (hA : ∀ q, H0.size ≤ q → A q) (kr : ∀ (pc : Nat) (ls : Array Slot) (H : Heap) (locs : List Loc), decode b_m_characters pc = .ok (.ireturn, 1) → va_P D classes [(h, .inr (8, [.int (nI i0), .int (nI i1), .ref a2, .ref a3, .ref a4, .ref a5, .ref a6, .ref a7, .ref a8, .int (nI i9), .ref a10, .ref a11, .ref a12, .ref a13, .ref a14, .ref a15, .int (nI ((chW tr 2 dt (nxL tr i16 9) (nxL tr i16 9) (i16 + 9) i17 re).2.1)), .int (nI ((chW tr 2 dt (nxL tr i16 9) (nxL tr i16 9) (i16 + 9) i17 re).2.2.1)), .ref a18, .int (nI i19), .ref a20, .ref a21, .int (nI i22), .ref a23])), (a11, .inl (cI, 26, .inl (fun j => nI (tr j)))), (a18, .inl (cI, 64, .inl (fun j => nI (((chW tr 2 dt (nxL tr i16 9) (nxL tr i16 9) (i16 + 9) i17 re).2.2.2) j))))] H → va_D A [(h, .inr (8, [.int (nI i0), .int (nI i1), .ref a2, .ref a3, .ref a4, .ref a5, .ref a6, .ref a7, .ref a8, .int (nI i9), .ref a10, .ref a11, .ref a12, .ref a13, .ref a14, .ref a15, .int (nI ((chW tr 2 dt (nxL tr i16 9) (nxL tr i16 9) (i16 + 9) i17 re).2.1)), .int (nI ((chW tr 2 dt (nxL tr i16 9) (nxL tr i16 9) (i16 + 9) i17 re).2.2.1)), .ref a18, .int (nI i19), .ref a20, .ref a21, .int (nI i22), .ref a23])), (a11, .inl (cI, 26, .inl (fun j => nI (tr j)))), (a18, .inl (cI, 64, .inl (fun j => nI (((chW tr 2 dt (nxL tr i16 9) (nxL tr i16 9) (i16 + 9) i17 re).2.2.2) j))))] → va_S A H0 H locs → W p l e R s m args below meth c H locs cells slots Q (F0 m pc ls [.int (nI ((chW tr 2 dt (nxL tr i16 9) (nxL tr i16 9) (i16 + 9) i17 re).1))])) : ∀ (ls : Array Slot) (H : Heap) (locs : List Loc), lv_has ls 9 [(0, .ref h), (1, .int (nI 2)), (2, .int (nI dt))] → va_P D classes [(h, .inr (8, [.int (nI i0), .int (nI i1), .ref a2, .ref a3, .ref a4, .ref a5, .ref a6, .ref a7, .ref a8, .int (nI i9), .ref a10, .ref a11, .ref a12, .ref a13, .ref a14, .ref a15, .int (nI i16), .int (nI i17), .ref a18, .int (nI i19), .ref a20, .ref a21, .int (nI i22), .ref a23])), (a11, .inl (cI, 26, .inl (fun j => nI (tr j)))), (a18, .inl (cI, 64, .inl (fun j => nI (re j))))] H → va_D A [(h, .inr (8, [.int (nI i0), .int (nI i1), .ref a2, .ref a3, .ref a4, .ref a5, .ref a6, .ref a7, .ref a8, .int (nI i9), .ref a10, .ref a11, .ref a12, .ref a13, .ref a14, .ref a15, .int (nI i16), .int (nI i17), .ref a18, .int (nI i19), .ref a20, .ref a21, .int (nI i22), .ref a23])), (a11, .inl (cI, 26, .inl (fun j => nI (tr j)))), (a18, .inl (cI, 64, .inl (fun j => nI (re j))))] → va_S A H0 H locs → W p l e R s m args below meth c H locs cells slots Q (F0 m 0 ls []) := by
  obtain ⟨hx, hb, hml, hown, hts⟩ := id S
  intro ls H locs hl hP hD hS
  have hnx := nxL_lt htr i16 9
  refine lv_iload_n hx hb d_m_characters_0 rfl (lv_at hl 1 rfl) ?_
  refine lv_iconst (v := nI 1) hx hb d_m_characters_1 (by decide) ?_
  refine n_icmp_ne hx hb d_m_characters_2 (tgt := 10) rfl (by omega) (by omega) (fun g2 => ?_) (fun g2 => absurd g2 (by decide))
  refine lv_iload_n hx hb d_m_characters_10 rfl (lv_at hl 1 rfl) ?_
  refine lv_iconst (v := nI 2) hx hb d_m_characters_11 (by decide) ?_
  refine n_icmp_ne hx hb d_m_characters_12 (tgt := 20) rfl (by omega) (by omega) (fun g12 => absurd g12 (by decide)) (fun g12 => ?_)
  refine lv_bipush (v := nI 9) hx hb d_m_characters_15 (by decide) ?_
  refine lv_goto hx hb d_m_characters_17 (tgt := 22) rfl ?_
  refine lv_istore_n hx hb d_m_characters_22 rfl hl (Nat.le_of_ble_eq_true rfl) rfl (fun ls hl => ?_)
  have hl : lv_has ls 9 [(3, .int (nI 9)), (0, .ref h), (1, .int (nI 2)), (2, .int (nI dt))] := hl
  refine lv_aload_n hx hb d_m_characters_23 rfl (lv_at hl 1 rfl) ?_
  refine n_get (C := R_Model) (T := F_Model) (N := 24) (v := .int (nI i16)) hx hb hts u_Model_in hown hK hP 0 rfl rfl 16 (by decide) kw_792 rfl d_m_characters_24 ?_
  refine lv_iload_n hx hb d_m_characters_27 rfl (lv_at hl 0 rfl) ?_
  refine n_iadd hx hb d_m_characters_28 ?_
  refine lv_bipush (v := nI 8) hx hb d_m_characters_29 (by decide) ?_
  refine lv_iload_n hx hb d_m_characters_31 rfl (lv_at hl 3 rfl) ?_
  refine n_imul hx hb d_m_characters_32 ?_
  refine n_icmp_le hx hb d_m_characters_33 (tgt := 38) rfl (by omega) (by omega) (fun g33 => ?_) (fun g33 => absurd g33 (by omega))
  refine lv_aload_n hx hb d_m_characters_38 rfl (lv_at hl 1 rfl) ?_
  refine lv_iload_n hx hb d_m_characters_39 rfl (lv_at hl 0 rfl) ?_
  refine q_writeVi (n := 1) (As := [.int (nI 9)]) (rest := []) (wc := [(h, .inr (8, [.int (nI i0), .int (nI i1), .ref a2, .ref a3, .ref a4, .ref a5, .ref a6, .ref a7, .ref a8, .int (nI i9), .ref a10, .ref a11, .ref a12, .ref a13, .ref a14, .ref a15, .int (nI i16), .int (nI i17), .ref a18, .int (nI i19), .ref a20, .ref a21, .int (nI i22), .ref a23])), (a11, .inl (cI, 26, .inl (fun j => nI (tr j))))]) (wr := [(a18, .inl (cI, 64, .inl (fun j => nI (re j))))]) (w1 := [(h, .inr (8, [.int (nI i0), .int (nI i1), .ref a2, .ref a3, .ref a4, .ref a5, .ref a6, .ref a7, .ref a8, .int (nI i9), .ref a10, .ref a11, .ref a12, .ref a13, .ref a14, .ref a15, .int (nI (i16 + 9)), .int (nI i17), .ref a18, .int (nI i19), .ref a20, .ref a21, .int (nI i22), .ref a23])), (a11, .inl (cI, 26, .inl (fun j => nI (tr j))))]) S (c_m_next l D cI cC h i0 i1 a2 a3 a4 a5 a6 a7 a8 i9 a10 a11 a12 a13 a14 a15 i16 i17 a18 i19 a20 a21 i22 a23 tr 9 (by omega) (by omega) H.size) hK hP hD hA (q0 := 0) rfl rfl [0, 1] [2] rfl rfl rfl rfl (by decide) rfl (q_goodV kw_980 kw_982 ks_38 kw_10 kw_983) (by decide +kernel) rfl rfl rfl ⟨Nat.le_trans (Nat.le_of_ble_eq_true rfl) hRf, Nat.le_trans (Nat.le_of_ble_eq_true rfl) hRl⟩ rfl hl.1 rfl (Nat.le_of_ble_eq_true rfl) d_m_characters_40 hRc hS (fun H locs hP hD hS => ?_)
  replace hP : va_P D classes [(h, .inr (8, [.int (nI i0), .int (nI i1), .ref a2, .ref a3, .ref a4, .ref a5, .ref a6, .ref a7, .ref a8, .int (nI i9), .ref a10, .ref a11, .ref a12, .ref a13, .ref a14, .ref a15, .int (nI (i16 + 9)), .int (nI i17), .ref a18, .int (nI i19), .ref a20, .ref a21, .int (nI i22), .ref a23])), (a11, .inl (cI, 26, .inl (fun j => nI (tr j)))), (a18, .inl (cI, 64, .inl (fun j => nI (re j))))] H := hP.sub [1, 2, 0] rfl
  replace hD : va_D A [(h, .inr (8, [.int (nI i0), .int (nI i1), .ref a2, .ref a3, .ref a4, .ref a5, .ref a6, .ref a7, .ref a8, .int (nI i9), .ref a10, .ref a11, .ref a12, .ref a13, .ref a14, .ref a15, .int (nI (i16 + 9)), .int (nI i17), .ref a18, .int (nI i19), .ref a20, .ref a21, .int (nI i22), .ref a23])), (a11, .inl (cI, 26, .inl (fun j => nI (tr j)))), (a18, .inl (cI, 64, .inl (fun j => nI (re j))))] := hD.sub [1, 2, 0] rfl rfl
  refine lv_istore hx hb d_m_characters_43 hl (Nat.le_of_ble_eq_true rfl) rfl (fun ls hl => ?_)
  have hl : lv_has ls 9 [(4, .int (nI (nxL tr i16 9))), (3, .int (nI 9)), (0, .ref h), (1, .int (nI 2)), (2, .int (nI dt))] := hl
  refine lv_iconst (v := nI 1) hx hb d_m_characters_45 (by decide) ?_
  refine lv_istore hx hb d_m_characters_46 hl (Nat.le_of_ble_eq_true rfl) rfl (fun ls hl => ?_)
  have hl : lv_has ls 9 [(5, .int (nI 1)), (4, .int (nI (nxL tr i16 9))), (3, .int (nI 9)), (0, .ref h), (1, .int (nI 2)), (2, .int (nI dt))] := hl
  refine lw_m_characters_2_ok_48 cI cC h i0 i1 a2 a3 a4 a5 a6 a7 a8 i9 a10 a11 a12 a13 a14 a15 i16 i17 a18 i19 a20 a21 i22 a23 tr re dt hdt hyes hinv htr S hRf hRl hRc hK hA  (nxL tr i16 9) (nxL tr i16 9) (i16 + 9) i17 re ⟨Nat.le_refl _, by omega⟩ (by omega) (by omega) (fun ls H locs hl hP hD hS => ?_) ls H locs (lv_sub hl [3, 4, 5, 2, 1, 0] rfl) hP hD hS
  refine lv_iload hx hb d_m_characters_195 (lv_at hl 1 rfl) ?_
  exact kr _ ls H locs d_m_characters_197 hP hD hS
set_option maxHeartbeats 1000000 in
set_option maxRecDepth 100000 in
theorem c_m_characters_2_ok (l : Launch) (D : va_G) (cI cC : ClassId) (h i0 i1 a2 a3 a4 a5 a6 a7 a8 i9 a10 a11 a12 a13 a14 a15 i16 i17 a18 i19 a20 a21 i22 a23 : Nat) (tr re : Nat → Nat) (dt : Nat) (hdt : dt ≤ 19) (hyes : i16 + 9 ≤ 8 * dt) (hinv : 10 * i17 ≤ 3 * i16) (htr : ∀ j, j < 26 → tr j < 256) (sz : Nat) : Met l y_m_characters (cd_m_characters :: WS) { frames := 2, cells := 0, slots := 0, locals := 50 } (va_Pc [.ref h, .int (nI 2), .int (nI dt)] (wP D [(h, .inr (8, [.int (nI i0), .int (nI i1), .ref a2, .ref a3, .ref a4, .ref a5, .ref a6, .ref a7, .ref a8, .int (nI i9), .ref a10, .ref a11, .ref a12, .ref a13, .ref a14, .ref a15, .int (nI i16), .int (nI i17), .ref a18, .int (nI i19), .ref a20, .ref a21, .int (nI i22), .ref a23])), (a11, .inl (cI, 26, .inl (fun j => nI (tr j)))), (a18, .inl (cI, 64, .inl (fun j => nI (re j))))] [(cI, .int), (cC, .char)] sz)) (wQi D (nI ((chW tr 2 dt (nxL tr i16 9) (nxL tr i16 9) (i16 + 9) i17 re).1)) [(h, .inr (8, [.int (nI i0), .int (nI i1), .ref a2, .ref a3, .ref a4, .ref a5, .ref a6, .ref a7, .ref a8, .int (nI i9), .ref a10, .ref a11, .ref a12, .ref a13, .ref a14, .ref a15, .int (nI i16), .int (nI i17), .ref a18, .int (nI i19), .ref a20, .ref a21, .int (nI i22), .ref a23])), (a11, .inl (cI, 26, .inl (fun j => nI (tr j)))), (a18, .inl (cI, 64, .inl (fun j => nI (re j))))] [(h, .inr (8, [.int (nI i0), .int (nI i1), .ref a2, .ref a3, .ref a4, .ref a5, .ref a6, .ref a7, .ref a8, .int (nI i9), .ref a10, .ref a11, .ref a12, .ref a13, .ref a14, .ref a15, .int (nI ((chW tr 2 dt (nxL tr i16 9) (nxL tr i16 9) (i16 + 9) i17 re).2.1)), .int (nI ((chW tr 2 dt (nxL tr i16 9) (nxL tr i16 9) (i16 + 9) i17 re).2.2.1)), .ref a18, .int (nI i19), .ref a20, .ref a21, .int (nI i22), .ref a23])), (a11, .inl (cI, 26, .inl (fun j => nI (tr j)))), (a18, .inl (cI, 64, .inl (fun j => nI (((chW tr 2 dt (nxL tr i16 9) (nxL tr i16 9) (i16 + 9) i17 re).2.2.2) j))))] sz) 0 0 (va_A [(h, .inr (8, [.int (nI i0), .int (nI i1), .ref a2, .ref a3, .ref a4, .ref a5, .ref a6, .ref a7, .ref a8, .int (nI i9), .ref a10, .ref a11, .ref a12, .ref a13, .ref a14, .ref a15, .int (nI i16), .int (nI i17), .ref a18, .int (nI i19), .ref a20, .ref a21, .int (nI i22), .ref a23])), (a11, .inl (cI, 26, .inl (fun j => nI (tr j)))), (a18, .inl (cI, 64, .inl (fun j => nI (re j))))] sz) := by
  refine Met.ofW (cc := b_m_characters) (maxL := 9) (ret := (some .boolean)) (by decide) rfl ?_
  intro p e s m args below meth c s₁ B hml hv0
  obtain ⟨rfl, hP, hK, hD0, hsz⟩ := hv0
  have hts := atoms_spec (ws := cd_m_characters :: WS) B.pre
  have hown : s.vm.findClass R_Model = some m.cls := findClass_of_methodNamed B.named
  have hlocks := B.notSynchronized
  subst hsz
  have hD := hD0.self (sz := s.heap.size)
  have hl := lv_entry ([.ref h, .int (nI 2), .int (nI dt)]) (n := 9) (Nat.le_of_ble_eq_true rfl)
  rw [lg_entry_eq]
  generalize (lg_sl ([.ref h, .int (nI 2), .int (nI dt)]) ++ List.replicate (9 - (lg_sl ([.ref h, .int (nI 2), .int (nI dt)])).length) Slot.unset).toArray = ls at hl ⊢
  refine bd_m_characters_2_ok cI cC h i0 i1 a2 a3 a4 a5 a6 a7 a8 i9 a10 a11 a12 a13 a14 a15 i16 i17 a18 i19 a20 a21 i22 a23 tr re dt hdt hyes hinv htr ⟨B.exec, B.bytes, hml, hown, hts⟩ (Nat.le_refl _) (Nat.le_refl _) ⟨Nat.le_refl _, Nat.le_refl _⟩ hK (fun q h => Or.inr h) (fun pc ls H locs hd hP hD hS => ?_) ls _ _ hl hP hD (va_S.rf)
  exact W.zret B.exec B.bytes B.returns (chW_fit _ _ _ _ _ _ _ _) (fun t ht _ => ⟨⟨_, (), rfl, rfl, (by have h9 := hP; rw [← ht] at h9; exact h9)⟩, hS.F ht⟩) hS.2.2 hd
end
section
variable {p : Program} {l : Launch} {e : Env} {R : Room} {s : State} {m : MethodId} {args : Array Value} {below : List Frame} {meth : Method} {c : Code} {cells slots : Nat} {Q : State → Prop} {A : Nat → Prop} {H0 : Heap} {D : va_G}
set_option maxHeartbeats 1000000 in
set_option maxRecDepth 100000 in
theorem bd_m_characters_4_no (cI cC : ClassId) (h i0 i1 a2 a3 a4 a5 a6 a7 a8 i9 a10 a11 a12 a13 a14 a15 i16 i17 a18 i19 a20 a21 i22 a23 : Nat) (tr re : Nat → Nat) (dt : Nat) (hdt : dt ≤ 19) (hp0 : i16 ≤ 208) (hno : 8 * dt < i16 + 8) (S : CallFix p m c b_m_characters 9 s args (cd_m_characters :: WS) R_Model) (hRf : 2 ≤ R.frames) (hRl : 50 ≤ R.locals) (hRc : cells ≤ R.cells ∧ slots ≤ R.slots) (hK : va_K D classes [(cI, .int), (cC, .char)] s) (hA : ∀ q, H0.size ≤ q → A q) (kr : ∀ (pc : Nat) (ls : Array Slot) (H : Heap) (locs : List Loc), decode b_m_characters pc = .ok (.ireturn, 1) → va_P D classes [(h, .inr (8, [.int (nI i0), .int (nI i1), .ref a2, .ref a3, .ref a4, .ref a5, .ref a6, .ref a7, .ref a8, .int (nI i9), .ref a10, .ref a11, .ref a12, .ref a13, .ref a14, .ref a15, .int (nI i16), .int (nI i17), .ref a18, .int (nI i19), .ref a20, .ref a21, .int (nI i22), .ref a23])), (a11, .inl (cI, 26, .inl (fun j => nI (tr j)))), (a18, .inl (cI, 64, .inl (fun j => nI (re j))))] H → va_D A [(h, .inr (8, [.int (nI i0), .int (nI i1), .ref a2, .ref a3, .ref a4, .ref a5, .ref a6, .ref a7, .ref a8, .int (nI i9), .ref a10, .ref a11, .ref a12, .ref a13, .ref a14, .ref a15, .int (nI i16), .int (nI i17), .ref a18, .int (nI i19), .ref a20, .ref a21, .int (nI i22), .ref a23])), (a11, .inl (cI, 26, .inl (fun j => nI (tr j)))), (a18, .inl (cI, 64, .inl (fun j => nI (re j))))] → va_S A H0 H locs → W p l e R s m args below meth c H locs cells slots Q (F0 m pc ls [.int (nI 0)])) : ∀ (ls : Array Slot) (H : Heap) (locs : List Loc), lv_has ls 9 [(0, .ref h), (1, .int (nI 4)), (2, .int (nI dt))] → va_P D classes [(h, .inr (8, [.int (nI i0), .int (nI i1), .ref a2, .ref a3, .ref a4, .ref a5, .ref a6, .ref a7, .ref a8, .int (nI i9), .ref a10, .ref a11, .ref a12, .ref a13, .ref a14, .ref a15, .int (nI i16), .int (nI i17), .ref a18, .int (nI i19), .ref a20, .ref a21, .int (nI i22), .ref a23])), (a11, .inl (cI, 26, .inl (fun j => nI (tr j)))), (a18, .inl (cI, 64, .inl (fun j => nI (re j))))] H → va_D A [(h, .inr (8, [.int (nI i0), .int (nI i1), .ref a2, .ref a3, .ref a4, .ref a5, .ref a6, .ref a7, .ref a8, .int (nI i9), .ref a10, .ref a11, .ref a12, .ref a13, .ref a14, .ref a15, .int (nI i16), .int (nI i17), .ref a18, .int (nI i19), .ref a20, .ref a21, .int (nI i22), .ref a23])), (a11, .inl (cI, 26, .inl (fun j => nI (tr j)))), (a18, .inl (cI, 64, .inl (fun j => nI (re j))))] → va_S A H0 H locs → W p l e R s m args below meth c H locs cells slots Q (F0 m 0 ls []) := by
  obtain ⟨hx, hb, hml, hown, hts⟩ := id S
  intro ls H locs hl hP hD hS
  refine lv_iload_n hx hb d_m_characters_0 rfl (lv_at hl 1 rfl) ?_
  refine lv_iconst (v := nI 1) hx hb d_m_characters_1 (by decide) ?_
  refine n_icmp_ne hx hb d_m_characters_2 (tgt := 10) rfl (by omega) (by omega) (fun g2 => ?_) (fun g2 => absurd g2 (by decide))
  refine lv_iload_n hx hb d_m_characters_10 rfl (lv_at hl 1 rfl) ?_
  refine lv_iconst (v := nI 2) hx hb d_m_characters_11 (by decide) ?_
  refine n_icmp_ne hx hb d_m_characters_12 (tgt := 20) rfl (by omega) (by omega) (fun g12 => ?_) (fun g12 => absurd g12 (by decide))
  refine lv_bipush (v := nI 8) hx hb d_m_characters_20 (by decide) ?_
  refine lv_istore_n hx hb d_m_characters_22 rfl hl (Nat.le_of_ble_eq_true rfl) rfl (fun ls hl => ?_)
  have hl : lv_has ls 9 [(3, .int (nI 8)), (0, .ref h), (1, .int (nI 4)), (2, .int (nI dt))] := hl
  refine lv_aload_n hx hb d_m_characters_23 rfl (lv_at hl 1 rfl) ?_
  refine n_get (C := R_Model) (T := F_Model) (N := 24) (v := .int (nI i16)) hx hb hts u_Model_in hown hK hP 0 rfl rfl 16 (by decide) kw_792 rfl d_m_characters_24 ?_
  refine lv_iload_n hx hb d_m_characters_27 rfl (lv_at hl 0 rfl) ?_
  refine n_iadd hx hb d_m_characters_28 ?_
  refine lv_bipush (v := nI 8) hx hb d_m_characters_29 (by decide) ?_
  refine lv_iload_n hx hb d_m_characters_31 rfl (lv_at hl 3 rfl) ?_
  refine n_imul hx hb d_m_characters_32 ?_
  refine n_icmp_le hx hb d_m_characters_33 (tgt := 38) rfl (by omega) (by omega) (fun g33 => absurd g33 (by omega)) (fun g33 => ?_)
  refine lv_iconst (v := nI 0) hx hb d_m_characters_36 (by decide) ?_
  exact kr _ ls H locs d_m_characters_37 hP hD hS
set_option maxHeartbeats 1000000 in
set_option maxRecDepth 100000 in
theorem c_m_characters_4_no (l : Launch) (D : va_G) (cI cC : ClassId) (h i0 i1 a2 a3 a4 a5 a6 a7 a8 i9 a10 a11 a12 a13 a14 a15 i16 i17 a18 i19 a20 a21 i22 a23 : Nat) (tr re : Nat → Nat) (dt : Nat) (hdt : dt ≤ 19) (hp0 : i16 ≤ 208) (hno : 8 * dt < i16 + 8) (sz : Nat) : Met l y_m_characters (cd_m_characters :: WS) { frames := 2, cells := 0, slots := 0, locals := 50 } (va_Pc [.ref h, .int (nI 4), .int (nI dt)] (wP D [(h, .inr (8, [.int (nI i0), .int (nI i1), .ref a2, .ref a3, .ref a4, .ref a5, .ref a6, .ref a7, .ref a8, .int (nI i9), .ref a10, .ref a11, .ref a12, .ref a13, .ref a14, .ref a15, .int (nI i16), .int (nI i17), .ref a18, .int (nI i19), .ref a20, .ref a21, .int (nI i22), .ref a23])), (a11, .inl (cI, 26, .inl (fun j => nI (tr j)))), (a18, .inl (cI, 64, .inl (fun j => nI (re j))))] [(cI, .int), (cC, .char)] sz)) (wQi D (nI 0) [(h, .inr (8, [.int (nI i0), .int (nI i1), .ref a2, .ref a3, .ref a4, .ref a5, .ref a6, .ref a7, .ref a8, .int (nI i9), .ref a10, .ref a11, .ref a12, .ref a13, .ref a14, .ref a15, .int (nI i16), .int (nI i17), .ref a18, .int (nI i19), .ref a20, .ref a21, .int (nI i22), .ref a23])), (a11, .inl (cI, 26, .inl (fun j => nI (tr j)))), (a18, .inl (cI, 64, .inl (fun j => nI (re j))))] [(h, .inr (8, [.int (nI i0), .int (nI i1), .ref a2, .ref a3, .ref a4, .ref a5, .ref a6, .ref a7, .ref a8, .int (nI i9), .ref a10, .ref a11, .ref a12, .ref a13, .ref a14, .ref a15, .int (nI i16), .int (nI i17), .ref a18, .int (nI i19), .ref a20, .ref a21, .int (nI i22), .ref a23])), (a11, .inl (cI, 26, .inl (fun j => nI (tr j)))), (a18, .inl (cI, 64, .inl (fun j => nI (re j))))] sz) 0 0 (va_A [(h, .inr (8, [.int (nI i0), .int (nI i1), .ref a2, .ref a3, .ref a4, .ref a5, .ref a6, .ref a7, .ref a8, .int (nI i9), .ref a10, .ref a11, .ref a12, .ref a13, .ref a14, .ref a15, .int (nI i16), .int (nI i17), .ref a18, .int (nI i19), .ref a20, .ref a21, .int (nI i22), .ref a23])), (a11, .inl (cI, 26, .inl (fun j => nI (tr j)))), (a18, .inl (cI, 64, .inl (fun j => nI (re j))))] sz) := by
  refine Met.ofW (cc := b_m_characters) (maxL := 9) (ret := (some .boolean)) (by decide) rfl ?_
  intro p e s m args below meth c s₁ B hml hv0
  obtain ⟨rfl, hP, hK, hD0, hsz⟩ := hv0
  have hts := atoms_spec (ws := cd_m_characters :: WS) B.pre
  have hown : s.vm.findClass R_Model = some m.cls := findClass_of_methodNamed B.named
  have hlocks := B.notSynchronized
  subst hsz
  have hD := hD0.self (sz := s.heap.size)
  have hl := lv_entry ([.ref h, .int (nI 4), .int (nI dt)]) (n := 9) (Nat.le_of_ble_eq_true rfl)
  rw [lg_entry_eq]
  generalize (lg_sl ([.ref h, .int (nI 4), .int (nI dt)]) ++ List.replicate (9 - (lg_sl ([.ref h, .int (nI 4), .int (nI dt)])).length) Slot.unset).toArray = ls at hl ⊢
  refine bd_m_characters_4_no cI cC h i0 i1 a2 a3 a4 a5 a6 a7 a8 i9 a10 a11 a12 a13 a14 a15 i16 i17 a18 i19 a20 a21 i22 a23 tr re dt hdt hp0 hno ⟨B.exec, B.bytes, hml, hown, hts⟩ (Nat.le_refl _) (Nat.le_refl _) ⟨Nat.le_refl _, Nat.le_refl _⟩ hK (fun q h => Or.inr h) (fun pc ls H locs hd hP hD hS => ?_) ls _ _ hl hP hD (va_S.rf)
  exact W.zret B.exec B.bytes B.returns rfl (fun t ht _ => ⟨⟨_, (), rfl, rfl, (by have h9 := hP; rw [← ht] at h9; exact h9)⟩, hS.F ht⟩) hS.2.2 hd
end
section
variable {p : Program} {l : Launch} {e : Env} {R : Room} {s : State} {m : MethodId} {args : Array Value} {below : List Frame} {meth : Method} {c : Code} {cells slots : Nat} {Q : State → Prop} {A : Nat → Prop} {H0 : Heap} {D : va_G}
set_option maxHeartbeats 1000000 in
set_option maxRecDepth 100000 in
theorem lw_m_characters_4_ok_48 (cI cC : ClassId) (h i0 i1 a2 a3 a4 a5 a6 a7 a8 i9 a10 a11 a12 a13 a14 a15 i16 i17 a18 i19 a20 a21 i22 a23 : Nat) (tr re : Nat → Nat) (dt : Nat) (hdt : dt ≤ 19) (hyes : i16 + 8 ≤ 8 * dt) (hinv : 10 * i17 ≤ 3 * i16) (htr : ∀ j, j < 26 → tr j < 256) (S : CallFix p m c b_m_characters 9 s args (cd_m_characters :: WS) R_Model) (hRf : 2 ≤ R.frames) (hRl : 50 ≤ R.locals) (hRc : cells ≤ R.cells ∧ slots ≤ R.slots) (hK : va_K D classes [(cI, .int), (cC, .char)] s) (hA : ∀ q, H0.size ≤ q → A q) :
    ∀ (n : Nat) (lf : Nat) (pl : Nat) (fd : Nat) (rd : Nat → Nat), (lf ≤ n ∧ lf < 2048) → (10 * fd ≤ 3 * pl) → (pl ≤ 8 * dt) → (∀ (ls : Array Slot) (H : Heap) (locs : List Loc), lv_has ls 9 [(0, .ref h), (5, .int (nI ((chW tr 4 dt n lf pl fd rd).1)))] → va_P D classes [(h, .inr (8, [.int (nI i0), .int (nI i1), .ref a2, .ref a3, .ref a4, .ref a5, .ref a6, .ref a7, .ref a8, .int (nI i9), .ref a10, .ref a11, .ref a12, .ref a13, .ref a14, .ref a15, .int (nI ((chW tr 4 dt n lf pl fd rd).2.1)), .int (nI ((chW tr 4 dt n lf pl fd rd).2.2.1)), .ref a18, .int (nI i19), .ref a20, .ref a21, .int (nI i22), .ref a23])), (a11, .inl (cI, 26, .inl (fun j => nI (tr j)))), (a18, .inl (cI, 64, .inl (fun j => nI (((chW tr 4 dt n lf pl fd rd).2.2.2) j))))] H → va_D A [(h, .inr (8, [.int (nI i0), .int (nI i1), .ref a2, .ref a3, .ref a4, .ref a5, .ref a6, .ref a7, .ref a8, .int (nI i9), .ref a10, .ref a11, .ref a12, .ref a13, .ref a14, .ref a15, .int (nI ((chW tr 4 dt n lf pl fd rd).2.1)), .int (nI ((chW tr 4 dt n lf pl fd rd).2.2.1)), .ref a18, .int (nI i19), .ref a20, .ref a21, .int (nI i22), .ref a23])), (a11, .inl (cI, 26, .inl (fun j => nI (tr j)))), (a18, .inl (cI, 64, .inl (fun j => nI (((chW tr 4 dt n lf pl fd rd).2.2.2) j))))] → va_S A H0 H locs → W p l e R s m args below meth c H locs cells slots Q (F0 m 195 ls [])) → ∀ (ls : Array Slot) (H : Heap) (locs : List Loc), lv_has ls 9 [(0, .ref h), (1, .int (nI 4)), (2, .int (nI dt)), (3, .int (nI 8)), (4, .int (nI lf)), (5, .int (nI 1))] → va_P D classes [(h, .inr (8, [.int (nI i0), .int (nI i1), .ref a2, .ref a3, .ref a4, .ref a5, .ref a6, .ref a7, .ref a8, .int (nI i9), .ref a10, .ref a11, .ref a12, .ref a13, .ref a14, .ref a15, .int (nI pl), .int (nI fd), .ref a18, .int (nI i19), .ref a20, .ref a21, .int (nI i22), .ref a23])), (a11, .inl (cI, 26, .inl (fun j => nI (tr j)))), (a18, .inl (cI, 64, .inl (fun j => nI (rd j))))] H → va_D A [(h, .inr (8, [.int (nI i0), .int (nI i1), .ref a2, .ref a3, .ref a4, .ref a5, .ref a6, .ref a7, .ref a8, .int (nI i9), .ref a10, .ref a11, .ref a12, .ref a13, .ref a14, .ref a15, .int (nI pl), .int (nI fd), .ref a18, .int (nI i19), .ref a20, .ref a21, .int (nI i22), .ref a23])), (a11, .inl (cI, 26, .inl (fun j => nI (tr j)))), (a18, .inl (cI, 64, .inl (fun j => nI (rd j))))] → va_S A H0 H locs → W p l e R s m args below meth c H locs cells slots Q (F0 m 48 ls []) := by
  obtain ⟨hx, hb, hml, hown, hts⟩ := id S
  refine fuel_ind (fun n ih => ?_)
  intro lf pl fd rd hln hi1 hi2 kx ls H locs hl hP hD hS
  refine lv_iload hx hb d_m_characters_48 (lv_at hl 4 rfl) ?_
  refine n_if_le hx hb d_m_characters_50 (tgt := 195) rfl (by omega) (fun g50 => ?_) (fun g50 => ?_)
  · skip
    rw [chW_z (by omega)] at kx
    exact kx ls H locs (lv_sub hl [0, 5] rfl) hP hD hS
  · skip
    refine lv_iload hx hb d_m_characters_53 (lv_at hl 5 rfl) ?_
    refine n_if_eq hx hb d_m_characters_55 (tgt := 195) rfl (by omega) (fun g55 => absurd g55 (by decide)) (fun g55 => ?_)
    refine lv_iload_n hx hb d_m_characters_58 rfl (lv_at hl 1 rfl) ?_
    refine lv_iconst (v := nI 1) hx hb d_m_characters_59 (by decide) ?_
    refine n_icmp_ne hx hb d_m_characters_60 (tgt := 67) rfl (by omega) (by omega) (fun g60 => ?_) (fun g60 => absurd g60 (by decide))
    refine lv_iload_n hx hb d_m_characters_67 rfl (lv_at hl 1 rfl) ?_
    refine lv_iconst (v := nI 2) hx hb d_m_characters_68 (by decide) ?_
    refine n_icmp_ne hx hb d_m_characters_69 (tgt := 76) rfl (by omega) (by omega) (fun g69 => ?_) (fun g69 => absurd g69 (by decide))
    refine lv_iconst (v := nI 1) hx hb d_m_characters_76 (by decide) ?_
    refine lv_istore hx hb d_m_characters_77 hl (Nat.le_of_ble_eq_true rfl) rfl (fun ls hl => ?_)
    have hl : lv_has ls 9 [(6, .int (nI 1)), (0, .ref h), (1, .int (nI 4)), (2, .int (nI dt)), (3, .int (nI 8)), (4, .int (nI lf)), (5, .int (nI 1))] := hl
    refine lv_iload hx hb d_m_characters_79 (lv_at hl 5 rfl) ?_
    refine lv_iload hx hb d_m_characters_81 (lv_at hl 0 rfl) ?_
    refine n_icmp_ge hx hb d_m_characters_83 (tgt := 91) rfl (by omega) (by omega) (fun g83 => ?_) (fun g83 => ?_)
    · skip
      refine lv_iload hx hb d_m_characters_91 (lv_at hl 0 rfl) ?_
      refine lv_istore hx hb d_m_characters_93 hl (Nat.le_of_ble_eq_true rfl) rfl (fun ls hl => ?_)
      have hl : lv_has ls 9 [(7, .int (nI 1)), (6, .int (nI 1)), (0, .ref h), (1, .int (nI 4)), (2, .int (nI dt)), (3, .int (nI 8)), (4, .int (nI lf)), (5, .int (nI 1))] := hl
      refine lv_iload_n hx hb d_m_characters_95 rfl (lv_at hl 3 rfl) ?_
      refine lv_iconst (v := nI 4) hx hb d_m_characters_96 (by decide) ?_
      refine n_icmp_ne hx hb d_m_characters_97 (tgt := 105) rfl (by omega) (by omega) (fun g97 => absurd g97 (by decide)) (fun g97 => ?_)
      refine lv_bipush (v := nI 8) hx hb d_m_characters_100 (by decide) ?_
      refine lv_goto hx hb d_m_characters_102 (tgt := 149) rfl ?_
      refine lv_istore hx hb d_m_characters_149 hl (Nat.le_of_ble_eq_true rfl) rfl (fun ls hl => ?_)
      have hl : lv_has ls 9 [(8, .int (nI 8)), (7, .int (nI 1)), (6, .int (nI 1)), (0, .ref h), (1, .int (nI 4)), (2, .int (nI dt)), (3, .int (nI 8)), (4, .int (nI lf)), (5, .int (nI 1))] := hl
      rcases Nat.lt_or_ge (8 * dt) (pl + 8) with hrm | hrm
      · skip
        refine lv_aload_n hx hb d_m_characters_151 rfl (lv_at hl 3 rfl) ?_
        refine lv_iload hx hb d_m_characters_152 (lv_at hl 1 rfl) ?_
        refine lv_iload_n hx hb d_m_characters_154 rfl (lv_at hl 4 rfl) ?_
        refine lv_iconst (v := nI 1) hx hb d_m_characters_155 (by decide) ?_
        refine n_icmp_ne hx hb d_m_characters_156 (tgt := 164) rfl (by omega) (by omega) (fun g156 => ?_) (fun g156 => absurd g156 (by decide))
        refine lv_iload_n hx hb d_m_characters_164 rfl (lv_at hl 4 rfl) ?_
        refine lv_iconst (v := nI 2) hx hb d_m_characters_165 (by decide) ?_
        refine n_icmp_ne hx hb d_m_characters_166 (tgt := 174) rfl (by omega) (by omega) (fun g166 => ?_) (fun g166 => absurd g166 (by decide))
        refine lv_sipush (v := nI 256) hx hb d_m_characters_174 (by decide) ?_
        refine lv_iload hx hb d_m_characters_177 (lv_at hl 0 rfl) ?_
        refine lv_iload_n hx hb d_m_characters_179 rfl (lv_at hl 5 rfl) ?_
        refine q_writeVi (n := 4) (As := [.int (nI 1), .int (nI 256), .int (nI 8), .int (nI dt)]) (rest := []) (wc := [(h, .inr (8, [.int (nI i0), .int (nI i1), .ref a2, .ref a3, .ref a4, .ref a5, .ref a6, .ref a7, .ref a8, .int (nI i9), .ref a10, .ref a11, .ref a12, .ref a13, .ref a14, .ref a15, .int (nI pl), .int (nI fd), .ref a18, .int (nI i19), .ref a20, .ref a21, .int (nI i22), .ref a23])), (a11, .inl (cI, 26, .inl (fun j => nI (tr j)))), (a18, .inl (cI, 64, .inl (fun j => nI (rd j))))]) (wr := []) (w1 := [(h, .inr (8, [.int (nI i0), .int (nI i1), .ref a2, .ref a3, .ref a4, .ref a5, .ref a6, .ref a7, .ref a8, .int (nI i9), .ref a10, .ref a11, .ref a12, .ref a13, .ref a14, .ref a15, .int (nI pl), .int (nI fd), .ref a18, .int (nI i19), .ref a20, .ref a21, .int (nI i22), .ref a23])), (a11, .inl (cI, 26, .inl (fun j => nI (tr j)))), (a18, .inl (cI, 64, .inl (fun j => nI (rd j))))]) S (c_m_group_no l D cI cC h i0 i1 a2 a3 a4 a5 a6 a7 a8 i9 a10 a11 a12 a13 a14 a15 pl fd a18 i19 a20 a21 i22 a23 tr rd 1 256 8 dt (by omega) (by omega) (by omega) (by omega) H.size) hK hP hD hA (q0 := 0) rfl rfl [0, 1, 2] [] rfl rfl rfl rfl (by decide) rfl (q_goodV kw_988 kw_990 ks_40 kw_10 kw_991) (by decide +kernel) rfl rfl rfl ⟨Nat.le_trans (Nat.le_of_ble_eq_true rfl) hRf, Nat.le_trans (Nat.le_of_ble_eq_true rfl) hRl⟩ rfl hl.1 rfl (Nat.le_of_ble_eq_true rfl) d_m_characters_180 hRc hS (fun H locs hP hD hS => ?_)
        replace hP : va_P D classes [(h, .inr (8, [.int (nI i0), .int (nI i1), .ref a2, .ref a3, .ref a4, .ref a5, .ref a6, .ref a7, .ref a8, .int (nI i9), .ref a10, .ref a11, .ref a12, .ref a13, .ref a14, .ref a15, .int (nI pl), .int (nI fd), .ref a18, .int (nI i19), .ref a20, .ref a21, .int (nI i22), .ref a23])), (a11, .inl (cI, 26, .inl (fun j => nI (tr j)))), (a18, .inl (cI, 64, .inl (fun j => nI (rd j))))] H := hP.sub [0, 1, 2] rfl
        replace hD : va_D A [(h, .inr (8, [.int (nI i0), .int (nI i1), .ref a2, .ref a3, .ref a4, .ref a5, .ref a6, .ref a7, .ref a8, .int (nI i9), .ref a10, .ref a11, .ref a12, .ref a13, .ref a14, .ref a15, .int (nI pl), .int (nI fd), .ref a18, .int (nI i19), .ref a20, .ref a21, .int (nI i22), .ref a23])), (a11, .inl (cI, 26, .inl (fun j => nI (tr j)))), (a18, .inl (cI, 64, .inl (fun j => nI (rd j))))] := hD.sub [0, 1, 2] rfl rfl
        refine lv_istore hx hb d_m_characters_183 hl (Nat.le_of_ble_eq_true rfl) rfl (fun ls hl => ?_)
        have hl : lv_has ls 9 [(5, .int (nI 0)), (8, .int (nI 8)), (7, .int (nI 1)), (6, .int (nI 1)), (0, .ref h), (1, .int (nI 4)), (2, .int (nI dt)), (3, .int (nI 8)), (4, .int (nI lf))] := hl
        refine lv_iload hx hb d_m_characters_185 (lv_at hl 8 rfl) ?_
        refine lv_iload hx hb d_m_characters_187 (lv_at hl 2 rfl) ?_
        refine n_isub hx hb d_m_characters_189 (by omega) ?_
        refine lv_istore hx hb d_m_characters_190 hl (Nat.le_of_ble_eq_true rfl) rfl (fun ls hl => ?_)
        have hl : lv_has ls 9 [(4, .int (nI (lf - 1))), (5, .int (nI 0)), (8, .int (nI 8)), (7, .int (nI 1)), (6, .int (nI 1)), (0, .ref h), (1, .int (nI 4)), (2, .int (nI dt)), (3, .int (nI 8))] := hl
        refine lv_goto hx hb d_m_characters_192 (tgt := 48) rfl ?_
        refine lv_iload hx hb d_m_characters_48 (lv_at hl 0 rfl) ?_
        refine n_if_le hx hb d_m_characters_50 (tgt := 195) rfl (by omega) (fun g50 => ?_) (fun g50 => ?_)
        · skip
          obtain ⟨m9, rfl⟩ : ∃ m9, n = m9 + 1 := ⟨n - 1, by omega⟩
          rw [chW_no (x := 1) (z := 8) (by omega) (by show min lf 1 = 1; omega) (by first | rfl | (unfold gsz; (repeat' split) <;> omega)) hrm] at kx
          exact kx ls H locs (lv_sub hl [5, 1] rfl) hP hD hS
        · skip
          refine lv_iload hx hb d_m_characters_53 (lv_at hl 1 rfl) ?_
          refine n_if_eq hx hb d_m_characters_55 (tgt := 195) rfl (by omega) (fun g55 => ?_) (fun g55 => absurd g55 (by decide))
          obtain ⟨m9, rfl⟩ : ∃ m9, n = m9 + 1 := ⟨n - 1, by omega⟩
          rw [chW_no (x := 1) (z := 8) (by omega) (by show min lf 1 = 1; omega) (by first | rfl | (unfold gsz; (repeat' split) <;> omega)) hrm] at kx
          exact kx ls H locs (lv_sub hl [5, 1] rfl) hP hD hS
      · skip
        refine lv_aload_n hx hb d_m_characters_151 rfl (lv_at hl 3 rfl) ?_
        refine lv_iload hx hb d_m_characters_152 (lv_at hl 1 rfl) ?_
        refine lv_iload_n hx hb d_m_characters_154 rfl (lv_at hl 4 rfl) ?_
        refine lv_iconst (v := nI 1) hx hb d_m_characters_155 (by decide) ?_
        refine n_icmp_ne hx hb d_m_characters_156 (tgt := 164) rfl (by omega) (by omega) (fun g156 => ?_) (fun g156 => absurd g156 (by decide))
        refine lv_iload_n hx hb d_m_characters_164 rfl (lv_at hl 4 rfl) ?_
        refine lv_iconst (v := nI 2) hx hb d_m_characters_165 (by decide) ?_
        refine n_icmp_ne hx hb d_m_characters_166 (tgt := 174) rfl (by omega) (by omega) (fun g166 => ?_) (fun g166 => absurd g166 (by decide))
        refine lv_sipush (v := nI 256) hx hb d_m_characters_174 (by decide) ?_
        refine lv_iload hx hb d_m_characters_177 (lv_at hl 0 rfl) ?_
        refine lv_iload_n hx hb d_m_characters_179 rfl (lv_at hl 5 rfl) ?_
        refine q_writeVi (n := 4) (As := [.int (nI 1), .int (nI 256), .int (nI 8), .int (nI dt)]) (rest := []) (wc := [(h, .inr (8, [.int (nI i0), .int (nI i1), .ref a2, .ref a3, .ref a4, .ref a5, .ref a6, .ref a7, .ref a8, .int (nI i9), .ref a10, .ref a11, .ref a12, .ref a13, .ref a14, .ref a15, .int (nI pl), .int (nI fd), .ref a18, .int (nI i19), .ref a20, .ref a21, .int (nI i22), .ref a23])), (a11, .inl (cI, 26, .inl (fun j => nI (tr j)))), (a18, .inl (cI, 64, .inl (fun j => nI (rd j))))]) (wr := []) (w1 := [(h, .inr (8, [.int (nI i0), .int (nI i1), .ref a2, .ref a3, .ref a4, .ref a5, .ref a6, .ref a7, .ref a8, .int (nI i9), .ref a10, .ref a11, .ref a12, .ref a13, .ref a14, .ref a15, .int (nI (pl + 8)), .int (nI (fd + 1)), .ref a18, .int (nI i19), .ref a20, .ref a21, .int (nI i22), .ref a23])), (a11, .inl (cI, 26, .inl (fun j => nI (tr j)))), (a18, .inl (cI, 64, .inl (fun j => nI ((gpR rd fd 1 256 (nxL tr pl 8) 1) j))))]) S (c_m_group_ok l D cI cC h i0 i1 a2 a3 a4 a5 a6 a7 a8 i9 a10 a11 a12 a13 a14 a15 pl fd a18 i19 a20 a21 i22 a23 tr rd 1 256 8 dt (by omega) (by omega) (by omega) (by omega) (by omega) (by omega) htr H.size) hK hP hD hA (q0 := 0) rfl rfl [0, 1, 2] [] rfl rfl rfl rfl (by decide) rfl (q_goodV kw_988 kw_990 ks_40 kw_10 kw_991) (by decide +kernel) rfl rfl rfl ⟨Nat.le_trans (Nat.le_of_ble_eq_true rfl) hRf, Nat.le_trans (Nat.le_of_ble_eq_true rfl) hRl⟩ rfl hl.1 rfl (Nat.le_of_ble_eq_true rfl) d_m_characters_180 hRc hS (fun H locs hP hD hS => ?_)
        replace hP : va_P D classes [(h, .inr (8, [.int (nI i0), .int (nI i1), .ref a2, .ref a3, .ref a4, .ref a5, .ref a6, .ref a7, .ref a8, .int (nI i9), .ref a10, .ref a11, .ref a12, .ref a13, .ref a14, .ref a15, .int (nI (pl + 8)), .int (nI (fd + 1)), .ref a18, .int (nI i19), .ref a20, .ref a21, .int (nI i22), .ref a23])), (a11, .inl (cI, 26, .inl (fun j => nI (tr j)))), (a18, .inl (cI, 64, .inl (fun j => nI ((gpR rd fd 1 256 (nxL tr pl 8) 1) j))))] H := hP.sub [0, 1, 2] rfl
        replace hD : va_D A [(h, .inr (8, [.int (nI i0), .int (nI i1), .ref a2, .ref a3, .ref a4, .ref a5, .ref a6, .ref a7, .ref a8, .int (nI i9), .ref a10, .ref a11, .ref a12, .ref a13, .ref a14, .ref a15, .int (nI (pl + 8)), .int (nI (fd + 1)), .ref a18, .int (nI i19), .ref a20, .ref a21, .int (nI i22), .ref a23])), (a11, .inl (cI, 26, .inl (fun j => nI (tr j)))), (a18, .inl (cI, 64, .inl (fun j => nI ((gpR rd fd 1 256 (nxL tr pl 8) 1) j))))] := hD.sub [0, 1, 2] rfl rfl
        by_cases hgd : gpV (nxL tr pl 8) 256 1 = 0
        · skip
          refine n_topn (show bN (gpV (nxL tr pl 8) 256 1 = 0) = 1 from bN_t hgd) ?_
          refine lv_istore hx hb d_m_characters_183 hl (Nat.le_of_ble_eq_true rfl) rfl (fun ls hl => ?_)
          have hl : lv_has ls 9 [(5, .int (nI 1)), (8, .int (nI 8)), (7, .int (nI 1)), (6, .int (nI 1)), (0, .ref h), (1, .int (nI 4)), (2, .int (nI dt)), (3, .int (nI 8)), (4, .int (nI lf))] := hl
          refine lv_iload hx hb d_m_characters_185 (lv_at hl 8 rfl) ?_
          refine lv_iload hx hb d_m_characters_187 (lv_at hl 2 rfl) ?_
          refine n_isub hx hb d_m_characters_189 (by omega) ?_
          refine lv_istore hx hb d_m_characters_190 hl (Nat.le_of_ble_eq_true rfl) rfl (fun ls hl => ?_)
          have hl : lv_has ls 9 [(4, .int (nI (lf - 1))), (5, .int (nI 1)), (8, .int (nI 8)), (7, .int (nI 1)), (6, .int (nI 1)), (0, .ref h), (1, .int (nI 4)), (2, .int (nI dt)), (3, .int (nI 8))] := hl
          refine lv_goto hx hb d_m_characters_192 (tgt := 48) rfl ?_
          obtain ⟨m9, rfl⟩ : ∃ m9, n = m9 + 1 := ⟨n - 1, by omega⟩
          rw [chW_s (x := 1) (z := 8) (by omega) (by show min lf 1 = 1; omega) (by first | rfl | (unfold gsz; (repeat' split) <;> omega)) hrm hgd] at kx
          exact ih _ rfl (lf - 1) (pl + 8) (fd + 1) (gpR rd fd 1 256 (nxL tr pl 8) 1) ⟨by omega, by omega⟩ (by omega) (by omega) kx ls H locs (lv_sub hl [5, 6, 7, 8, 0, 1] rfl) hP hD hS
        · skip
          refine n_topn (show bN (gpV (nxL tr pl 8) 256 1 = 0) = 0 from bN_f hgd) ?_
          refine lv_istore hx hb d_m_characters_183 hl (Nat.le_of_ble_eq_true rfl) rfl (fun ls hl => ?_)
          have hl : lv_has ls 9 [(5, .int (nI 0)), (8, .int (nI 8)), (7, .int (nI 1)), (6, .int (nI 1)), (0, .ref h), (1, .int (nI 4)), (2, .int (nI dt)), (3, .int (nI 8)), (4, .int (nI lf))] := hl
          refine lv_iload hx hb d_m_characters_185 (lv_at hl 8 rfl) ?_
          refine lv_iload hx hb d_m_characters_187 (lv_at hl 2 rfl) ?_
          refine n_isub hx hb d_m_characters_189 (by omega) ?_
          refine lv_istore hx hb d_m_characters_190 hl (Nat.le_of_ble_eq_true rfl) rfl (fun ls hl => ?_)
          have hl : lv_has ls 9 [(4, .int (nI (lf - 1))), (5, .int (nI 0)), (8, .int (nI 8)), (7, .int (nI 1)), (6, .int (nI 1)), (0, .ref h), (1, .int (nI 4)), (2, .int (nI dt)), (3, .int (nI 8))] := hl
          refine lv_goto hx hb d_m_characters_192 (tgt := 48) rfl ?_
          refine lv_iload hx hb d_m_characters_48 (lv_at hl 0 rfl) ?_
          refine n_if_le hx hb d_m_characters_50 (tgt := 195) rfl (by omega) (fun g50 => ?_) (fun g50 => ?_)
          · skip
            obtain ⟨m9, rfl⟩ : ∃ m9, n = m9 + 1 := ⟨n - 1, by omega⟩
            rw [chW_bad (x := 1) (z := 8) (by omega) (by show min lf 1 = 1; omega) (by first | rfl | (unfold gsz; (repeat' split) <;> omega)) hrm hgd] at kx
            exact kx ls H locs (lv_sub hl [5, 1] rfl) hP hD hS
          · skip
            refine lv_iload hx hb d_m_characters_53 (lv_at hl 1 rfl) ?_
            refine n_if_eq hx hb d_m_characters_55 (tgt := 195) rfl (by omega) (fun g55 => ?_) (fun g55 => absurd g55 (by decide))
            obtain ⟨m9, rfl⟩ : ∃ m9, n = m9 + 1 := ⟨n - 1, by omega⟩
            rw [chW_bad (x := 1) (z := 8) (by omega) (by show min lf 1 = 1; omega) (by first | rfl | (unfold gsz; (repeat' split) <;> omega)) hrm hgd] at kx
            exact kx ls H locs (lv_sub hl [5, 1] rfl) hP hD hS
    · skip
      refine lv_iload hx hb d_m_characters_86 (lv_at hl 5 rfl) ?_
      refine lv_goto hx hb d_m_characters_88 (tgt := 93) rfl ?_
      refine lv_istore hx hb d_m_characters_93 hl (Nat.le_of_ble_eq_true rfl) rfl (fun ls hl => ?_)
      have hl : lv_has ls 9 [(7, .int (nI lf)), (6, .int (nI 1)), (0, .ref h), (1, .int (nI 4)), (2, .int (nI dt)), (3, .int (nI 8)), (4, .int (nI lf)), (5, .int (nI 1))] := hl
      refine lv_iload_n hx hb d_m_characters_95 rfl (lv_at hl 3 rfl) ?_
      refine lv_iconst (v := nI 4) hx hb d_m_characters_96 (by decide) ?_
      refine n_icmp_ne hx hb d_m_characters_97 (tgt := 105) rfl (by omega) (by omega) (fun g97 => absurd g97 (by decide)) (fun g97 => ?_)
      refine lv_bipush (v := nI 8) hx hb d_m_characters_100 (by decide) ?_
      refine lv_goto hx hb d_m_characters_102 (tgt := 149) rfl ?_
      refine lv_istore hx hb d_m_characters_149 hl (Nat.le_of_ble_eq_true rfl) rfl (fun ls hl => ?_)
      have hl : lv_has ls 9 [(8, .int (nI 8)), (7, .int (nI lf)), (6, .int (nI 1)), (0, .ref h), (1, .int (nI 4)), (2, .int (nI dt)), (3, .int (nI 8)), (4, .int (nI lf)), (5, .int (nI 1))] := hl
      rcases Nat.lt_or_ge (8 * dt) (pl + 8) with hrm | hrm
      · skip
        refine lv_aload_n hx hb d_m_characters_151 rfl (lv_at hl 3 rfl) ?_
        refine lv_iload hx hb d_m_characters_152 (lv_at hl 1 rfl) ?_
        refine lv_iload_n hx hb d_m_characters_154 rfl (lv_at hl 4 rfl) ?_
        refine lv_iconst (v := nI 1) hx hb d_m_characters_155 (by decide) ?_
        refine n_icmp_ne hx hb d_m_characters_156 (tgt := 164) rfl (by omega) (by omega) (fun g156 => ?_) (fun g156 => absurd g156 (by decide))
        refine lv_iload_n hx hb d_m_characters_164 rfl (lv_at hl 4 rfl) ?_
        refine lv_iconst (v := nI 2) hx hb d_m_characters_165 (by decide) ?_
        refine n_icmp_ne hx hb d_m_characters_166 (tgt := 174) rfl (by omega) (by omega) (fun g166 => ?_) (fun g166 => absurd g166 (by decide))
        refine lv_sipush (v := nI 256) hx hb d_m_characters_174 (by decide) ?_
        refine lv_iload hx hb d_m_characters_177 (lv_at hl 0 rfl) ?_
        refine lv_iload_n hx hb d_m_characters_179 rfl (lv_at hl 5 rfl) ?_
        refine q_writeVi (n := 4) (As := [.int (nI lf), .int (nI 256), .int (nI 8), .int (nI dt)]) (rest := []) (wc := [(h, .inr (8, [.int (nI i0), .int (nI i1), .ref a2, .ref a3, .ref a4, .ref a5, .ref a6, .ref a7, .ref a8, .int (nI i9), .ref a10, .ref a11, .ref a12, .ref a13, .ref a14, .ref a15, .int (nI pl), .int (nI fd), .ref a18, .int (nI i19), .ref a20, .ref a21, .int (nI i22), .ref a23])), (a11, .inl (cI, 26, .inl (fun j => nI (tr j)))), (a18, .inl (cI, 64, .inl (fun j => nI (rd j))))]) (wr := []) (w1 := [(h, .inr (8, [.int (nI i0), .int (nI i1), .ref a2, .ref a3, .ref a4, .ref a5, .ref a6, .ref a7, .ref a8, .int (nI i9), .ref a10, .ref a11, .ref a12, .ref a13, .ref a14, .ref a15, .int (nI pl), .int (nI fd), .ref a18, .int (nI i19), .ref a20, .ref a21, .int (nI i22), .ref a23])), (a11, .inl (cI, 26, .inl (fun j => nI (tr j)))), (a18, .inl (cI, 64, .inl (fun j => nI (rd j))))]) S (c_m_group_no l D cI cC h i0 i1 a2 a3 a4 a5 a6 a7 a8 i9 a10 a11 a12 a13 a14 a15 pl fd a18 i19 a20 a21 i22 a23 tr rd lf 256 8 dt (by omega) (by omega) (by omega) (by omega) H.size) hK hP hD hA (q0 := 0) rfl rfl [0, 1, 2] [] rfl rfl rfl rfl (by decide) rfl (q_goodV kw_988 kw_990 ks_40 kw_10 kw_991) (by decide +kernel) rfl rfl rfl ⟨Nat.le_trans (Nat.le_of_ble_eq_true rfl) hRf, Nat.le_trans (Nat.le_of_ble_eq_true rfl) hRl⟩ rfl hl.1 rfl (Nat.le_of_ble_eq_true rfl) d_m_characters_180 hRc hS (fun H locs hP hD hS => ?_)
        replace hP : va_P D classes [(h, .inr (8, [.int (nI i0), .int (nI i1), .ref a2, .ref a3, .ref a4, .ref a5, .ref a6, .ref a7, .ref a8, .int (nI i9), .ref a10, .ref a11, .ref a12, .ref a13, .ref a14, .ref a15, .int (nI pl), .int (nI fd), .ref a18, .int (nI i19), .ref a20, .ref a21, .int (nI i22), .ref a23])), (a11, .inl (cI, 26, .inl (fun j => nI (tr j)))), (a18, .inl (cI, 64, .inl (fun j => nI (rd j))))] H := hP.sub [0, 1, 2] rfl
        replace hD : va_D A [(h, .inr (8, [.int (nI i0), .int (nI i1), .ref a2, .ref a3, .ref a4, .ref a5, .ref a6, .ref a7, .ref a8, .int (nI i9), .ref a10, .ref a11, .ref a12, .ref a13, .ref a14, .ref a15, .int (nI pl), .int (nI fd), .ref a18, .int (nI i19), .ref a20, .ref a21, .int (nI i22), .ref a23])), (a11, .inl (cI, 26, .inl (fun j => nI (tr j)))), (a18, .inl (cI, 64, .inl (fun j => nI (rd j))))] := hD.sub [0, 1, 2] rfl rfl
        refine lv_istore hx hb d_m_characters_183 hl (Nat.le_of_ble_eq_true rfl) rfl (fun ls hl => ?_)
        have hl : lv_has ls 9 [(5, .int (nI 0)), (8, .int (nI 8)), (7, .int (nI lf)), (6, .int (nI 1)), (0, .ref h), (1, .int (nI 4)), (2, .int (nI dt)), (3, .int (nI 8)), (4, .int (nI lf))] := hl
        refine lv_iload hx hb d_m_characters_185 (lv_at hl 8 rfl) ?_
        refine lv_iload hx hb d_m_characters_187 (lv_at hl 2 rfl) ?_
        refine n_isub hx hb d_m_characters_189 (by omega) ?_
        refine lv_istore hx hb d_m_characters_190 hl (Nat.le_of_ble_eq_true rfl) rfl (fun ls hl => ?_)
        have hl : lv_has ls 9 [(4, .int (nI (lf - lf))), (5, .int (nI 0)), (8, .int (nI 8)), (7, .int (nI lf)), (6, .int (nI 1)), (0, .ref h), (1, .int (nI 4)), (2, .int (nI dt)), (3, .int (nI 8))] := hl
        refine lv_goto hx hb d_m_characters_192 (tgt := 48) rfl ?_
        refine lv_iload hx hb d_m_characters_48 (lv_at hl 0 rfl) ?_
        refine n_if_le hx hb d_m_characters_50 (tgt := 195) rfl (by omega) (fun g50 => ?_) (fun g50 => ?_)
        · skip
          obtain ⟨m9, rfl⟩ : ∃ m9, n = m9 + 1 := ⟨n - 1, by omega⟩
          rw [chW_no (x := lf) (z := 8) (by omega) (by show min lf 1 = lf; omega) (by first | rfl | (unfold gsz; (repeat' split) <;> omega)) hrm] at kx
          exact kx ls H locs (lv_sub hl [5, 1] rfl) hP hD hS
        · skip
          refine lv_iload hx hb d_m_characters_53 (lv_at hl 1 rfl) ?_
          refine n_if_eq hx hb d_m_characters_55 (tgt := 195) rfl (by omega) (fun g55 => ?_) (fun g55 => absurd g55 (by decide))
          obtain ⟨m9, rfl⟩ : ∃ m9, n = m9 + 1 := ⟨n - 1, by omega⟩
          rw [chW_no (x := lf) (z := 8) (by omega) (by show min lf 1 = lf; omega) (by first | rfl | (unfold gsz; (repeat' split) <;> omega)) hrm] at kx
          exact kx ls H locs (lv_sub hl [5, 1] rfl) hP hD hS
      · skip
        refine lv_aload_n hx hb d_m_characters_151 rfl (lv_at hl 3 rfl) ?_
        refine lv_iload hx hb d_m_characters_152 (lv_at hl 1 rfl) ?_
        refine lv_iload_n hx hb d_m_characters_154 rfl (lv_at hl 4 rfl) ?_
        refine lv_iconst (v := nI 1) hx hb d_m_characters_155 (by decide) ?_
        refine n_icmp_ne hx hb d_m_characters_156 (tgt := 164) rfl (by omega) (by omega) (fun g156 => ?_) (fun g156 => absurd g156 (by decide))
        refine lv_iload_n hx hb d_m_characters_164 rfl (lv_at hl 4 rfl) ?_
        refine lv_iconst (v := nI 2) hx hb d_m_characters_165 (by decide) ?_
        refine n_icmp_ne hx hb d_m_characters_166 (tgt := 174) rfl (by omega) (by omega) (fun g166 => ?_) (fun g166 => absurd g166 (by decide))
        refine lv_sipush (v := nI 256) hx hb d_m_characters_174 (by decide) ?_
        refine lv_iload hx hb d_m_characters_177 (lv_at hl 0 rfl) ?_
        refine lv_iload_n hx hb d_m_characters_179 rfl (lv_at hl 5 rfl) ?_
        refine q_writeVi (n := 4) (As := [.int (nI lf), .int (nI 256), .int (nI 8), .int (nI dt)]) (rest := []) (wc := [(h, .inr (8, [.int (nI i0), .int (nI i1), .ref a2, .ref a3, .ref a4, .ref a5, .ref a6, .ref a7, .ref a8, .int (nI i9), .ref a10, .ref a11, .ref a12, .ref a13, .ref a14, .ref a15, .int (nI pl), .int (nI fd), .ref a18, .int (nI i19), .ref a20, .ref a21, .int (nI i22), .ref a23])), (a11, .inl (cI, 26, .inl (fun j => nI (tr j)))), (a18, .inl (cI, 64, .inl (fun j => nI (rd j))))]) (wr := []) (w1 := [(h, .inr (8, [.int (nI i0), .int (nI i1), .ref a2, .ref a3, .ref a4, .ref a5, .ref a6, .ref a7, .ref a8, .int (nI i9), .ref a10, .ref a11, .ref a12, .ref a13, .ref a14, .ref a15, .int (nI (pl + 8)), .int (nI (fd + lf)), .ref a18, .int (nI i19), .ref a20, .ref a21, .int (nI i22), .ref a23])), (a11, .inl (cI, 26, .inl (fun j => nI (tr j)))), (a18, .inl (cI, 64, .inl (fun j => nI ((gpR rd fd lf 256 (nxL tr pl 8) lf) j))))]) S (c_m_group_ok l D cI cC h i0 i1 a2 a3 a4 a5 a6 a7 a8 i9 a10 a11 a12 a13 a14 a15 pl fd a18 i19 a20 a21 i22 a23 tr rd lf 256 8 dt (by omega) (by omega) (by omega) (by omega) (by omega) (by omega) htr H.size) hK hP hD hA (q0 := 0) rfl rfl [0, 1, 2] [] rfl rfl rfl rfl (by decide) rfl (q_goodV kw_988 kw_990 ks_40 kw_10 kw_991) (by decide +kernel) rfl rfl rfl ⟨Nat.le_trans (Nat.le_of_ble_eq_true rfl) hRf, Nat.le_trans (Nat.le_of_ble_eq_true rfl) hRl⟩ rfl hl.1 rfl (Nat.le_of_ble_eq_true rfl) d_m_characters_180 hRc hS (fun H locs hP hD hS => ?_)
        replace hP : va_P D classes [(h, .inr (8, [.int (nI i0), .int (nI i1), .ref a2, .ref a3, .ref a4, .ref a5, .ref a6, .ref a7, .ref a8, .int (nI i9), .ref a10, .ref a11, .ref a12, .ref a13, .ref a14, .ref a15, .int (nI (pl + 8)), .int (nI (fd + lf)), .ref a18, .int (nI i19), .ref a20, .ref a21, .int (nI i22), .ref a23])), (a11, .inl (cI, 26, .inl (fun j => nI (tr j)))), (a18, .inl (cI, 64, .inl (fun j => nI ((gpR rd fd lf 256 (nxL tr pl 8) lf) j))))] H := hP.sub [0, 1, 2] rfl
        replace hD : va_D A [(h, .inr (8, [.int (nI i0), .int (nI i1), .ref a2, .ref a3, .ref a4, .ref a5, .ref a6, .ref a7, .ref a8, .int (nI i9), .ref a10, .ref a11, .ref a12, .ref a13, .ref a14, .ref a15, .int (nI (pl + 8)), .int (nI (fd + lf)), .ref a18, .int (nI i19), .ref a20, .ref a21, .int (nI i22), .ref a23])), (a11, .inl (cI, 26, .inl (fun j => nI (tr j)))), (a18, .inl (cI, 64, .inl (fun j => nI ((gpR rd fd lf 256 (nxL tr pl 8) lf) j))))] := hD.sub [0, 1, 2] rfl rfl
        by_cases hgd : gpV (nxL tr pl 8) 256 lf = 0
        · skip
          refine n_topn (show bN (gpV (nxL tr pl 8) 256 lf = 0) = 1 from bN_t hgd) ?_
          refine lv_istore hx hb d_m_characters_183 hl (Nat.le_of_ble_eq_true rfl) rfl (fun ls hl => ?_)
          have hl : lv_has ls 9 [(5, .int (nI 1)), (8, .int (nI 8)), (7, .int (nI lf)), (6, .int (nI 1)), (0, .ref h), (1, .int (nI 4)), (2, .int (nI dt)), (3, .int (nI 8)), (4, .int (nI lf))] := hl
          refine lv_iload hx hb d_m_characters_185 (lv_at hl 8 rfl) ?_
          refine lv_iload hx hb d_m_characters_187 (lv_at hl 2 rfl) ?_
          refine n_isub hx hb d_m_characters_189 (by omega) ?_
          refine lv_istore hx hb d_m_characters_190 hl (Nat.le_of_ble_eq_true rfl) rfl (fun ls hl => ?_)
          have hl : lv_has ls 9 [(4, .int (nI (lf - lf))), (5, .int (nI 1)), (8, .int (nI 8)), (7, .int (nI lf)), (6, .int (nI 1)), (0, .ref h), (1, .int (nI 4)), (2, .int (nI dt)), (3, .int (nI 8))] := hl
          refine lv_goto hx hb d_m_characters_192 (tgt := 48) rfl ?_
          obtain ⟨m9, rfl⟩ : ∃ m9, n = m9 + 1 := ⟨n - 1, by omega⟩
          rw [chW_s (x := lf) (z := 8) (by omega) (by show min lf 1 = lf; omega) (by first | rfl | (unfold gsz; (repeat' split) <;> omega)) hrm hgd] at kx
          exact ih _ rfl (lf - lf) (pl + 8) (fd + lf) (gpR rd fd lf 256 (nxL tr pl 8) lf) ⟨by omega, by omega⟩ (by omega) (by omega) kx ls H locs (lv_sub hl [5, 6, 7, 8, 0, 1] rfl) hP hD hS
        · skip
          refine n_topn (show bN (gpV (nxL tr pl 8) 256 lf = 0) = 0 from bN_f hgd) ?_
          refine lv_istore hx hb d_m_characters_183 hl (Nat.le_of_ble_eq_true rfl) rfl (fun ls hl => ?_)
          have hl : lv_has ls 9 [(5, .int (nI 0)), (8, .int (nI 8)), (7, .int (nI lf)), (6, .int (nI 1)), (0, .ref h), (1, .int (nI 4)), (2, .int (nI dt)), (3, .int (nI 8)), (4, .int (nI lf))] := hl
          refine lv_iload hx hb d_m_characters_185 (lv_at hl 8 rfl) ?_
          refine lv_iload hx hb d_m_characters_187 (lv_at hl 2 rfl) ?_
          refine n_isub hx hb d_m_characters_189 (by omega) ?_
          refine lv_istore hx hb d_m_characters_190 hl (Nat.le_of_ble_eq_true rfl) rfl (fun ls hl => ?_)
          have hl : lv_has ls 9 [(4, .int (nI (lf - lf))), (5, .int (nI 0)), (8, .int (nI 8)), (7, .int (nI lf)), (6, .int (nI 1)), (0, .ref h), (1, .int (nI 4)), (2, .int (nI dt)), (3, .int (nI 8))] := hl
          refine lv_goto hx hb d_m_characters_192 (tgt := 48) rfl ?_
          refine lv_iload hx hb d_m_characters_48 (lv_at hl 0 rfl) ?_
          refine n_if_le hx hb d_m_characters_50 (tgt := 195) rfl (by omega) (fun g50 => ?_) (fun g50 => ?_)
          · skip
            obtain ⟨m9, rfl⟩ : ∃ m9, n = m9 + 1 := ⟨n - 1, by omega⟩
            rw [chW_bad (x := lf) (z := 8) (by omega) (by show min lf 1 = lf; omega) (by first | rfl | (unfold gsz; (repeat' split) <;> omega)) hrm hgd] at kx
            exact kx ls H locs (lv_sub hl [5, 1] rfl) hP hD hS
          · skip
            refine lv_iload hx hb d_m_characters_53 (lv_at hl 1 rfl) ?_
            refine n_if_eq hx hb d_m_characters_55 (tgt := 195) rfl (by omega) (fun g55 => ?_) (fun g55 => absurd g55 (by decide))
            obtain ⟨m9, rfl⟩ : ∃ m9, n = m9 + 1 := ⟨n - 1, by omega⟩
            rw [chW_bad (x := lf) (z := 8) (by omega) (by show min lf 1 = lf; omega) (by first | rfl | (unfold gsz; (repeat' split) <;> omega)) hrm hgd] at kx
            exact kx ls H locs (lv_sub hl [5, 1] rfl) hP hD hS
set_option maxHeartbeats 1000000 in
set_option maxRecDepth 100000 in
theorem bd_m_characters_4_ok (cI cC : ClassId) (h i0 i1 a2 a3 a4 a5 a6 a7 a8 i9 a10 a11 a12 a13 a14 a15 i16 i17 a18 i19 a20 a21 i22 a23 : Nat) (tr re : Nat → Nat) (dt : Nat) (hdt : dt ≤ 19) (hyes : i16 + 8 ≤ 8 * dt) (hinv : 10 * i17 ≤ 3 * i16) (htr : ∀ j, j < 26 → tr j < 256) (S : CallFix p m c b_m_characters 9 s args (cd_m_characters :: WS) R_Model) (hRf : 2 ≤ R.frames) (hRl : 50 ≤ R.locals) (hRc : cells ≤ R.cells ∧ slots ≤ R.slots) (hK : va_K D classes [(cI, .int), (cC, .char)] s) (hA : ∀ q, H0.size ≤ q → A q) (kr : ∀ (pc : Nat) (ls : Array Slot) (H : Heap) (locs : List Loc), decode b_m_characters pc = .ok (.ireturn, 1) → va_P D classes [(h, .inr (8, [.int (nI i0), .int (nI i1), .ref a2, .ref a3, .ref a4, .ref a5, .ref a6, .ref a7, .ref a8, .int (nI i9), .ref a10, .ref a11, .ref a12, .ref a13, .ref a14, .ref a15, .int (nI ((chW tr 4 dt (nxL tr i16 8) (nxL tr i16 8) (i16 + 8) i17 re).2.1)), .int (nI ((chW tr 4 dt (nxL tr i16 8) (nxL tr i16 8) (i16 + 8) i17 re).2.2.1)), .ref a18, .int (nI i19), .ref a20, .ref a21, .int (nI i22), .ref a23])), (a11, .inl (cI, 26, .inl (fun j => nI (tr j)))), (a18, .inl (cI, 64, .inl (fun j => nI (((chW tr 4 dt (nxL tr i16 8) (nxL tr i16 8) (i16 + 8) i17 re).2.2.2) j))))] H → va_D A [(h, .inr (8, [.int (nI i0), .int (nI i1), .ref a2, .ref a3, .ref a4, .ref a5, .ref a6, .ref a7, .ref a8, .int (nI i9), .ref a10, .ref a11, .ref a12, .ref a13, .ref a14, .ref a15, .int (nI ((chW tr 4 dt (nxL tr i16 8) (nxL tr i16 8) (i16 + 8) i17 re).2.1)), .int (nI ((chW tr 4 dt (nxL tr i16 8) (nxL tr i16 8) (i16 + 8) i17 re).2.2.1)), .ref a18, .int (nI i19), .ref a20, .ref a21, .int (nI i22), .ref a23])), (a11, .inl (cI, 26, .inl (fun j => nI (tr j)))), (a18, .inl (cI, 64, .inl (fun j => nI (((chW tr 4 dt (nxL tr i16 8) (nxL tr i16 8) (i16 + 8) i17 re).2.2.2) j))))] → va_S A H0 H locs → W p l e R s m args below meth c H locs cells slots Q (F0 m pc ls [.int (nI ((chW tr 4 dt (nxL tr i16 8) (nxL tr i16 8) (i16 + 8) i17 re).1))])) : ∀ (ls : Array Slot) (H : Heap) (locs : List Loc), lv_has ls 9 [(0, .ref h), (1, .int (nI 4)), (2, .int (nI dt))] → va_P D classes [(h, .inr (8, [.int (nI i0), .int (nI i1), .ref a2, .ref a3, .ref a4, .ref a5, .ref a6, .ref a7, .ref a8, .int (nI i9), .ref a10, .ref a11, .ref a12, .ref a13, .ref a14, .ref a15, .int (nI i16), .int (nI i17), .ref a18, .int (nI i19), .ref a20, .ref a21, .int (nI i22), .ref a23])), (a11, .inl (cI, 26, .inl (fun j => nI (tr j)))), (a18, .inl (cI, 64, .inl (fun j => nI (re j))))] H → va_D A [(h, .inr (8, [.int (nI i0), .int (nI i1), .ref a2, .ref a3, .ref a4, .ref a5, .ref a6, .ref a7, .ref a8, .int (nI i9), .ref a10, .ref a11, .ref a12, .ref a13, .ref a14, .ref a15, .int (nI i16), .int (nI i17), .ref a18, .int (nI i19), .ref a20, .ref a21, .int (nI i22), .ref a23])), (a11, .inl (cI, 26, .inl (fun j => nI (tr j)))), (a18, .inl (cI, 64, .inl (fun j => nI (re j))))] → va_S A H0 H locs → W p l e R s m args below meth c H locs cells slots Q (F0 m 0 ls []) := by
  obtain ⟨hx, hb, hml, hown, hts⟩ := id S
  intro ls H locs hl hP hD hS
  have hnx := nxL_lt htr i16 8
  refine lv_iload_n hx hb d_m_characters_0 rfl (lv_at hl 1 rfl) ?_
  refine lv_iconst (v := nI 1) hx hb d_m_characters_1 (by decide) ?_
  refine n_icmp_ne hx hb d_m_characters_2 (tgt := 10) rfl (by omega) (by omega) (fun g2 => ?_) (fun g2 => absurd g2 (by decide))
  refine lv_iload_n hx hb d_m_characters_10 rfl (lv_at hl 1 rfl) ?_
  refine lv_iconst (v := nI 2) hx hb d_m_characters_11 (by decide) ?_
  refine n_icmp_ne hx hb d_m_characters_12 (tgt := 20) rfl (by omega) (by omega) (fun g12 => ?_) (fun g12 => absurd g12 (by decide))
  refine lv_bipush (v := nI 8) hx hb d_m_characters_20 (by decide) ?_
  refine lv_istore_n hx hb d_m_characters_22 rfl hl (Nat.le_of_ble_eq_true rfl) rfl (fun ls hl => ?_)
  have hl : lv_has ls 9 [(3, .int (nI 8)), (0, .ref h), (1, .int (nI 4)), (2, .int (nI dt))] := hl
  refine lv_aload_n hx hb d_m_characters_23 rfl (lv_at hl 1 rfl) ?_
  refine n_get (C := R_Model) (T := F_Model) (N := 24) (v := .int (nI i16)) hx hb hts u_Model_in hown hK hP 0 rfl rfl 16 (by decide) kw_792 rfl d_m_characters_24 ?_
  refine lv_iload_n hx hb d_m_characters_27 rfl (lv_at hl 0 rfl) ?_
  refine n_iadd hx hb d_m_characters_28 ?_
  refine lv_bipush (v := nI 8) hx hb d_m_characters_29 (by decide) ?_
  refine lv_iload_n hx hb d_m_characters_31 rfl (lv_at hl 3 rfl) ?_
  refine n_imul hx hb d_m_characters_32 ?_
  refine n_icmp_le hx hb d_m_characters_33 (tgt := 38) rfl (by omega) (by omega) (fun g33 => ?_) (fun g33 => absurd g33 (by omega))
  refine lv_aload_n hx hb d_m_characters_38 rfl (lv_at hl 1 rfl) ?_
  refine lv_iload_n hx hb d_m_characters_39 rfl (lv_at hl 0 rfl) ?_
  refine q_writeVi (n := 1) (As := [.int (nI 8)]) (rest := []) (wc := [(h, .inr (8, [.int (nI i0), .int (nI i1), .ref a2, .ref a3, .ref a4, .ref a5, .ref a6, .ref a7, .ref a8, .int (nI i9), .ref a10, .ref a11, .ref a12, .ref a13, .ref a14, .ref a15, .int (nI i16), .int (nI i17), .ref a18, .int (nI i19), .ref a20, .ref a21, .int (nI i22), .ref a23])), (a11, .inl (cI, 26, .inl (fun j => nI (tr j))))]) (wr := [(a18, .inl (cI, 64, .inl (fun j => nI (re j))))]) (w1 := [(h, .inr (8, [.int (nI i0), .int (nI i1), .ref a2, .ref a3, .ref a4, .ref a5, .ref a6, .ref a7, .ref a8, .int (nI i9), .ref a10, .ref a11, .ref a12, .ref a13, .ref a14, .ref a15, .int (nI (i16 + 8)), .int (nI i17), .ref a18, .int (nI i19), .ref a20, .ref a21, .int (nI i22), .ref a23])), (a11, .inl (cI, 26, .inl (fun j => nI (tr j))))]) S (c_m_next l D cI cC h i0 i1 a2 a3 a4 a5 a6 a7 a8 i9 a10 a11 a12 a13 a14 a15 i16 i17 a18 i19 a20 a21 i22 a23 tr 8 (by omega) (by omega) H.size) hK hP hD hA (q0 := 0) rfl rfl [0, 1] [2] rfl rfl rfl rfl (by decide) rfl (q_goodV kw_980 kw_982 ks_38 kw_10 kw_983) (by decide +kernel) rfl rfl rfl ⟨Nat.le_trans (Nat.le_of_ble_eq_true rfl) hRf, Nat.le_trans (Nat.le_of_ble_eq_true rfl) hRl⟩ rfl hl.1 rfl (Nat.le_of_ble_eq_true rfl) d_m_characters_40 hRc hS (fun H locs hP hD hS => ?_)
  replace hP : va_P D classes [(h, .inr (8, [.int (nI i0), .int (nI i1), .ref a2, .ref a3, .ref a4, .ref a5, .ref a6, .ref a7, .ref a8, .int (nI i9), .ref a10, .ref a11, .ref a12, .ref a13, .ref a14, .ref a15, .int (nI (i16 + 8)), .int (nI i17), .ref a18, .int (nI i19), .ref a20, .ref a21, .int (nI i22), .ref a23])), (a11, .inl (cI, 26, .inl (fun j => nI (tr j)))), (a18, .inl (cI, 64, .inl (fun j => nI (re j))))] H := hP.sub [1, 2, 0] rfl
  replace hD : va_D A [(h, .inr (8, [.int (nI i0), .int (nI i1), .ref a2, .ref a3, .ref a4, .ref a5, .ref a6, .ref a7, .ref a8, .int (nI i9), .ref a10, .ref a11, .ref a12, .ref a13, .ref a14, .ref a15, .int (nI (i16 + 8)), .int (nI i17), .ref a18, .int (nI i19), .ref a20, .ref a21, .int (nI i22), .ref a23])), (a11, .inl (cI, 26, .inl (fun j => nI (tr j)))), (a18, .inl (cI, 64, .inl (fun j => nI (re j))))] := hD.sub [1, 2, 0] rfl rfl
  refine lv_istore hx hb d_m_characters_43 hl (Nat.le_of_ble_eq_true rfl) rfl (fun ls hl => ?_)
  have hl : lv_has ls 9 [(4, .int (nI (nxL tr i16 8))), (3, .int (nI 8)), (0, .ref h), (1, .int (nI 4)), (2, .int (nI dt))] := hl
  refine lv_iconst (v := nI 1) hx hb d_m_characters_45 (by decide) ?_
  refine lv_istore hx hb d_m_characters_46 hl (Nat.le_of_ble_eq_true rfl) rfl (fun ls hl => ?_)
  have hl : lv_has ls 9 [(5, .int (nI 1)), (4, .int (nI (nxL tr i16 8))), (3, .int (nI 8)), (0, .ref h), (1, .int (nI 4)), (2, .int (nI dt))] := hl
  refine lw_m_characters_4_ok_48 cI cC h i0 i1 a2 a3 a4 a5 a6 a7 a8 i9 a10 a11 a12 a13 a14 a15 i16 i17 a18 i19 a20 a21 i22 a23 tr re dt hdt hyes hinv htr S hRf hRl hRc hK hA  (nxL tr i16 8) (nxL tr i16 8) (i16 + 8) i17 re ⟨Nat.le_refl _, by omega⟩ (by omega) (by omega) (fun ls H locs hl hP hD hS => ?_) ls H locs (lv_sub hl [3, 4, 5, 2, 1, 0] rfl) hP hD hS
  refine lv_iload hx hb d_m_characters_195 (lv_at hl 1 rfl) ?_
  exact kr _ ls H locs d_m_characters_197 hP hD hS
set_option maxHeartbeats 1000000 in
set_option maxRecDepth 100000 in
theorem c_m_characters_4_ok (l : Launch) (D : va_G) (cI cC : ClassId) (h i0 i1 a2 a3 a4 a5 a6 a7 a8 i9 a10 a11 a12 a13 a14 a15 i16 i17 a18 i19 a20 a21 i22 a23 : Nat) (tr re : Nat → Nat) (dt : Nat) (hdt : dt ≤ 19) (hyes : i16 + 8 ≤ 8 * dt) (hinv : 10 * i17 ≤ 3 * i16) (htr : ∀ j, j < 26 → tr j < 256) (sz : Nat) : Met l y_m_characters (cd_m_characters :: WS) { frames := 2, cells := 0, slots := 0, locals := 50 } (va_Pc [.ref h, .int (nI 4), .int (nI dt)] (wP D [(h, .inr (8, [.int (nI i0), .int (nI i1), .ref a2, .ref a3, .ref a4, .ref a5, .ref a6, .ref a7, .ref a8, .int (nI i9), .ref a10, .ref a11, .ref a12, .ref a13, .ref a14, .ref a15, .int (nI i16), .int (nI i17), .ref a18, .int (nI i19), .ref a20, .ref a21, .int (nI i22), .ref a23])), (a11, .inl (cI, 26, .inl (fun j => nI (tr j)))), (a18, .inl (cI, 64, .inl (fun j => nI (re j))))] [(cI, .int), (cC, .char)] sz)) (wQi D (nI ((chW tr 4 dt (nxL tr i16 8) (nxL tr i16 8) (i16 + 8) i17 re).1)) [(h, .inr (8, [.int (nI i0), .int (nI i1), .ref a2, .ref a3, .ref a4, .ref a5, .ref a6, .ref a7, .ref a8, .int (nI i9), .ref a10, .ref a11, .ref a12, .ref a13, .ref a14, .ref a15, .int (nI i16), .int (nI i17), .ref a18, .int (nI i19), .ref a20, .ref a21, .int (nI i22), .ref a23])), (a11, .inl (cI, 26, .inl (fun j => nI (tr j)))), (a18, .inl (cI, 64, .inl (fun j => nI (re j))))] [(h, .inr (8, [.int (nI i0), .int (nI i1), .ref a2, .ref a3, .ref a4, .ref a5, .ref a6, .ref a7, .ref a8, .int (nI i9), .ref a10, .ref a11, .ref a12, .ref a13, .ref a14, .ref a15, .int (nI ((chW tr 4 dt (nxL tr i16 8) (nxL tr i16 8) (i16 + 8) i17 re).2.1)), .int (nI ((chW tr 4 dt (nxL tr i16 8) (nxL tr i16 8) (i16 + 8) i17 re).2.2.1)), .ref a18, .int (nI i19), .ref a20, .ref a21, .int (nI i22), .ref a23])), (a11, .inl (cI, 26, .inl (fun j => nI (tr j)))), (a18, .inl (cI, 64, .inl (fun j => nI (((chW tr 4 dt (nxL tr i16 8) (nxL tr i16 8) (i16 + 8) i17 re).2.2.2) j))))] sz) 0 0 (va_A [(h, .inr (8, [.int (nI i0), .int (nI i1), .ref a2, .ref a3, .ref a4, .ref a5, .ref a6, .ref a7, .ref a8, .int (nI i9), .ref a10, .ref a11, .ref a12, .ref a13, .ref a14, .ref a15, .int (nI i16), .int (nI i17), .ref a18, .int (nI i19), .ref a20, .ref a21, .int (nI i22), .ref a23])), (a11, .inl (cI, 26, .inl (fun j => nI (tr j)))), (a18, .inl (cI, 64, .inl (fun j => nI (re j))))] sz) := by
  refine Met.ofW (cc := b_m_characters) (maxL := 9) (ret := (some .boolean)) (by decide) rfl ?_
  intro p e s m args below meth c s₁ B hml hv0
  obtain ⟨rfl, hP, hK, hD0, hsz⟩ := hv0
  have hts := atoms_spec (ws := cd_m_characters :: WS) B.pre
  have hown : s.vm.findClass R_Model = some m.cls := findClass_of_methodNamed B.named
  have hlocks := B.notSynchronized
  subst hsz
  have hD := hD0.self (sz := s.heap.size)
  have hl := lv_entry ([.ref h, .int (nI 4), .int (nI dt)]) (n := 9) (Nat.le_of_ble_eq_true rfl)
  rw [lg_entry_eq]
  generalize (lg_sl ([.ref h, .int (nI 4), .int (nI dt)]) ++ List.replicate (9 - (lg_sl ([.ref h, .int (nI 4), .int (nI dt)])).length) Slot.unset).toArray = ls at hl ⊢
  refine bd_m_characters_4_ok cI cC h i0 i1 a2 a3 a4 a5 a6 a7 a8 i9 a10 a11 a12 a13 a14 a15 i16 i17 a18 i19 a20 a21 i22 a23 tr re dt hdt hyes hinv htr ⟨B.exec, B.bytes, hml, hown, hts⟩ (Nat.le_refl _) (Nat.le_refl _) ⟨Nat.le_refl _, Nat.le_refl _⟩ hK (fun q h => Or.inr h) (fun pc ls H locs hd hP hD hS => ?_) ls _ _ hl hP hD (va_S.rf)
  exact W.zret B.exec B.bytes B.returns (chW_fit _ _ _ _ _ _ _ _) (fun t ht _ => ⟨⟨_, (), rfl, rfl, (by have h9 := hP; rw [← ht] at h9; exact h9)⟩, hS.F ht⟩) hS.2.2 hd
end
