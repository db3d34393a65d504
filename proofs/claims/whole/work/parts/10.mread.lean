theorem kw_787 : (Jvm.Cond.fieldLink "SquareCodesModel" (34 : Nat) "SquareCodesModel" "tried" "[I") ∈ WS := WS_tbl 787 (by decide +kernel) rfl
theorem kw_887 : (Jvm.Cond.methodLink "SquareCodesModel" (90 : Nat) ({ cls := "SquareCodesModel", name := "power", desc := "(I)I" } : Jvm.MethodName)) ∈ WS := WS_tbl 887 (by decide +kernel) rfl
theorem kw_888 : (Jvm.Cond.static ({ cls := "SquareCodesModel", name := "power", desc := "(I)I" } : Jvm.MethodName)) ∈ WS := WS_tbl 888 (by decide +kernel) rfl
set_option maxRecDepth 1000000 in
theorem kw_889 : cd_m_power ∈ WS := WS_tbl 889 rfl rfl
theorem kw_953 : (Jvm.Cond.methodLink "SquareCodesModel" (139 : Nat) ({ cls := "SquareCodesModel", name := "at", desc := "(I)I" } : Jvm.MethodName)) ∈ WS := WS_tbl 953 (by decide +kernel) rfl
theorem kw_955 : (Jvm.Cond.instanceMethod ({ cls := "SquareCodesModel", name := "at", desc := "(I)I" } : Jvm.MethodName)) ∈ WS := WS_tbl 955 (by decide +kernel) rfl
theorem ks_32 : Cond.selects R_Model y_m_at y_m_at ∈ WS := WS_sel 32 (by decide +kernel) rfl
set_option maxRecDepth 1000000 in
theorem kw_956 : cd_m_at ∈ WS := WS_tbl 956 rfl rfl
theorem kw_780 : (Jvm.Cond.fieldLink "SquareCodesModel" (16 : Nat) "SquareCodesModel" "draft" "[I") ∈ WS := WS_tbl 780 (by decide +kernel) rfl
theorem kw_914 : (Jvm.Cond.methodLink "SquareCodesModel" (127 : Nat) ({ cls := "SquareCodesModel", name := "inLine", desc := "(II)I" } : Jvm.MethodName)) ∈ WS := WS_tbl 914 (by decide +kernel) rfl
theorem kw_916 : (Jvm.Cond.instanceMethod ({ cls := "SquareCodesModel", name := "inLine", desc := "(II)I" } : Jvm.MethodName)) ∈ WS := WS_tbl 916 (by decide +kernel) rfl
theorem ks_28 : Cond.selects R_Model y_m_inLine y_m_inLine ∈ WS := WS_sel 28 (by decide +kernel) rfl
set_option maxRecDepth 1000000 in
theorem kw_917 : cd_m_inLine ∈ WS := WS_tbl 917 rfl rfl
section
theorem d_m_at_0 : decode b_m_at 0 = .ok (.iload_n 1, 1) := by decide +kernel
theorem d_m_at_1 : decode b_m_at 1 = .ok (.invokestatic 90, 3) := by decide +kernel
theorem d_m_at_4 : decode b_m_at 4 = .ok (.istore_n 2, 1) := by decide +kernel
theorem d_m_at_5 : decode b_m_at 5 = .ok (.iconst 0, 1) := by decide +kernel
theorem d_m_at_6 : decode b_m_at 6 = .ok (.istore_n 3, 1) := by decide +kernel
theorem d_m_at_7 : decode b_m_at 7 = .ok (.iconst 0, 1) := by decide +kernel
theorem d_m_at_8 : decode b_m_at 8 = .ok (.istore 4, 2) := by decide +kernel
theorem d_m_at_10 : decode b_m_at 10 = .ok (.iload 4, 2) := by decide +kernel
theorem d_m_at_12 : decode b_m_at 12 = .ok (.bipush 26, 2) := by decide +kernel
theorem d_m_at_14 : decode b_m_at 14 = .ok (.if_icmp .ge 23, 3) := by decide +kernel
theorem d_m_at_17 : decode b_m_at 17 = .ok (.iload_n 3, 1) := by decide +kernel
theorem d_m_at_18 : decode b_m_at 18 = .ok (.iload_n 2, 1) := by decide +kernel
theorem d_m_at_19 : decode b_m_at 19 = .ok (.invokestatic 72, 3) := by decide +kernel
theorem d_m_at_22 : decode b_m_at 22 = .ok (.aload_n 0, 1) := by decide +kernel
theorem d_m_at_23 : decode b_m_at 23 = .ok (.getfield 34, 3) := by decide +kernel
theorem d_m_at_26 : decode b_m_at 26 = .ok (.iload 4, 2) := by decide +kernel
theorem d_m_at_28 : decode b_m_at 28 = .ok (.iaload, 1) := by decide +kernel
theorem d_m_at_29 : decode b_m_at 29 = .ok (.ixor, 1) := by decide +kernel
theorem d_m_at_30 : decode b_m_at 30 = .ok (.istore_n 3, 1) := by decide +kernel
theorem d_m_at_31 : decode b_m_at 31 = .ok (.iinc 4 1, 3) := by decide +kernel
theorem d_m_at_34 : decode b_m_at 34 = .ok (.goto (-24), 3) := by decide +kernel
theorem d_m_at_37 : decode b_m_at 37 = .ok (.iload_n 3, 1) := by decide +kernel
theorem d_m_at_38 : decode b_m_at 38 = .ok (.ireturn, 1) := by decide +kernel
end
section
variable {p : Program} {l : Launch} {e : Env} {R : Room} {s : State} {m : MethodId} {args : Array Value} {below : List Frame} {meth : Method} {c : Code} {cells slots : Nat} {Q : State → Prop} {A : Nat → Prop} {H0 : Heap} {D : va_G}
set_option maxHeartbeats 1000000 in
set_option maxRecDepth 100000 in
theorem lp_m_at_10 (cI cC : ClassId) (h i0 i1 a2 a3 a4 a5 a6 a7 a8 i9 a10 a11 a12 a13 a14 a15 i16 i17 a18 i19 a20 a21 i22 a23 : Nat) (tr : Nat → Nat) (k : Nat) (hk : k < 255) (htr : ∀ j, j < 26 → tr j < 256) (S : CallFix p m c b_m_at 5 s args (cd_m_at :: WS) R_Model) (hRf : 2 ≤ R.frames) (hRl : 46 ≤ R.locals) (hRc : cells ≤ R.cells ∧ slots ≤ R.slots) (hK : va_K D classes [(cI, .int), (cC, .char)] s) (kx : ∀ (ls : Array Slot) (H : Heap) (locs : List Loc), lv_has ls 5 [(0, .ref h), (1, .int (nI k)), (2, .int (nI (pw k))), (3, .int (nI (hrn tr (pw k) 26))), (4, .int (nI 26))] → va_P D classes [(h, .inr (8, [.int (nI i0), .int (nI i1), .ref a2, .ref a3, .ref a4, .ref a5, .ref a6, .ref a7, .ref a8, .int (nI i9), .ref a10, .ref a11, .ref a12, .ref a13, .ref a14, .ref a15, .int (nI i16), .int (nI i17), .ref a18, .int (nI i19), .ref a20, .ref a21, .int (nI i22), .ref a23])), (a11, .inl (cI, 26, .inl (fun j => nI (tr j))))] H → va_S A H0 H locs → W p l e R s m args below meth c H locs cells slots Q (F0 m 37 ls [])) :
    ∀ j, j ≤ 26 → ∀ (ls : Array Slot) (H : Heap) (locs : List Loc), lv_has ls 5 [(0, .ref h), (1, .int (nI k)), (2, .int (nI (pw k))), (3, .int (nI (hrn tr (pw k) j))), (4, .int (nI j))] → va_P D classes [(h, .inr (8, [.int (nI i0), .int (nI i1), .ref a2, .ref a3, .ref a4, .ref a5, .ref a6, .ref a7, .ref a8, .int (nI i9), .ref a10, .ref a11, .ref a12, .ref a13, .ref a14, .ref a15, .int (nI i16), .int (nI i17), .ref a18, .int (nI i19), .ref a20, .ref a21, .int (nI i22), .ref a23])), (a11, .inl (cI, 26, .inl (fun j => nI (tr j))))] H → va_S A H0 H locs → W p l e R s m args below meth c H locs cells slots Q (F0 m 10 ls []) := by
  obtain ⟨hx, hb, hml, hown, hts⟩ := id S
  refine up_loop (fun j hkj ih => ?_)
  intro ls H locs hl hP hS
  have hp := pw_lt k
  have hv := hrn_lt htr (pw_lt k) j (by omega)
  refine lv_iload hx hb d_m_at_10 (lv_at hl 4 rfl) ?_
  refine lv_bipush (v := nI 26) hx hb d_m_at_12 (by decide) ?_
  refine n_icmp_ge hx hb d_m_at_14 (tgt := 37) rfl (by omega) (by omega) (fun g14 => ?_) (fun g14 => ?_)
  · skip
    obtain rfl : j = 26 := by omega
    exact kx ls H locs (lv_sub hl [0, 1, 2, 3, 4] rfl) hP hS
  · skip
    refine lv_iload_n hx hb d_m_at_17 rfl (lv_at hl 3 rfl) ?_
    refine lv_iload_n hx hb d_m_at_18 rfl (lv_at hl 2 rfl) ?_
    refine q_pureS (n := 2) (As := [.int (nI (hrn tr (pw k) j)), .int (nI (pw k))]) (rest := []) S (c_m_times l (hrn tr (pw k) j) (pw k) (by omega) (by omega)) (q_goodS kw_890 kw_891 kw_10 kw_892) (by decide +kernel) rfl rfl ⟨Nat.le_trans (Nat.le_of_ble_eq_true rfl) hRf, Nat.le_trans (Nat.le_of_ble_eq_true rfl) hRl⟩ rfl hl.1 rfl (Nat.le_of_ble_eq_true rfl) d_m_at_19 hRc hS (fun H locs hkp hS => ?_)
    replace hP := hP.kept (fun k q hq => hkp q.1 (hP k q hq).lt)
    refine lv_aload_n hx hb d_m_at_22 rfl (lv_at hl 0 rfl) ?_
    refine n_get (C := R_Model) (T := F_Model) (N := 24) (v := .ref a11) hx hb hts u_Model_in hown hK hP 0 rfl rfl 11 (by decide) kw_787 rfl d_m_at_23 ?_
    refine lv_iload hx hb d_m_at_26 (lv_at hl 4 rfl) ?_
    refine n_iald hx hb hK hP 1 0 rfl rfl (by omega) (by decide) d_m_at_28 ?_
    refine n_ixor hx hb d_m_at_29 ?_
    refine n_topn (show (gm (hrn tr (pw k) j) (pw k)) ^^^ (tr j) = hrn tr (pw k) (j + 1) from rfl) ?_
    refine lv_istore_n hx hb d_m_at_30 rfl hl (Nat.le_of_ble_eq_true rfl) rfl (fun ls hl => ?_)
    have hl : lv_has ls 5 [(3, .int (nI (hrn tr (pw k) (j + 1)))), (0, .ref h), (1, .int (nI k)), (2, .int (nI (pw k))), (4, .int (nI j))] := hl
    refine lv_iinc (k := 4) (v := nI (j + 1)) hx hb d_m_at_31 hl rfl (nx_inc j 1) (Nat.le_of_ble_eq_true rfl) rfl (fun ls hl => ?_)
    have hl : lv_has ls 5 [(4, .int (nI (j + 1))), (3, .int (nI (hrn tr (pw k) (j + 1)))), (0, .ref h), (1, .int (nI k)), (2, .int (nI (pw k)))] := hl
    refine lv_goto hx hb d_m_at_34 (tgt := 10) rfl ?_
    exact ih (by omega) ls H locs (lv_sub hl [2, 3, 4, 1, 0] rfl) hP hS
set_option maxHeartbeats 1000000 in
set_option maxRecDepth 100000 in
theorem bd_m_at (cI cC : ClassId) (h i0 i1 a2 a3 a4 a5 a6 a7 a8 i9 a10 a11 a12 a13 a14 a15 i16 i17 a18 i19 a20 a21 i22 a23 : Nat) (tr : Nat → Nat) (k : Nat) (hk : k < 255) (htr : ∀ j, j < 26 → tr j < 256) (S : CallFix p m c b_m_at 5 s args (cd_m_at :: WS) R_Model) (hRf : 2 ≤ R.frames) (hRl : 46 ≤ R.locals) (hRc : cells ≤ R.cells ∧ slots ≤ R.slots) (hK : va_K D classes [(cI, .int), (cC, .char)] s) (kr : ∀ (pc : Nat) (ls : Array Slot) (H : Heap) (locs : List Loc), decode b_m_at pc = .ok (.ireturn, 1) → va_P D classes [(h, .inr (8, [.int (nI i0), .int (nI i1), .ref a2, .ref a3, .ref a4, .ref a5, .ref a6, .ref a7, .ref a8, .int (nI i9), .ref a10, .ref a11, .ref a12, .ref a13, .ref a14, .ref a15, .int (nI i16), .int (nI i17), .ref a18, .int (nI i19), .ref a20, .ref a21, .int (nI i22), .ref a23])), (a11, .inl (cI, 26, .inl (fun j => nI (tr j))))] H → va_S A H0 H locs → W p l e R s m args below meth c H locs cells slots Q (F0 m pc ls [.int (nI (hrn tr (pw k) 26))])) : ∀ (ls : Array Slot) (H : Heap) (locs : List Loc), lv_has ls 5 [(0, .ref h), (1, .int (nI k))] → va_P D classes [(h, .inr (8, [.int (nI i0), .int (nI i1), .ref a2, .ref a3, .ref a4, .ref a5, .ref a6, .ref a7, .ref a8, .int (nI i9), .ref a10, .ref a11, .ref a12, .ref a13, .ref a14, .ref a15, .int (nI i16), .int (nI i17), .ref a18, .int (nI i19), .ref a20, .ref a21, .int (nI i22), .ref a23])), (a11, .inl (cI, 26, .inl (fun j => nI (tr j))))] H → va_S A H0 H locs → W p l e R s m args below meth c H locs cells slots Q (F0 m 0 ls []) := by
  obtain ⟨hx, hb, hml, hown, hts⟩ := id S
  intro ls H locs hl hP hS
  refine lv_iload_n hx hb d_m_at_0 rfl (lv_at hl 1 rfl) ?_
  refine q_pureS (n := 1) (As := [.int (nI k)]) (rest := []) S (c_m_power l k (by omega)) (q_goodS kw_887 kw_888 kw_10 kw_889) (by decide +kernel) rfl rfl ⟨Nat.le_trans (Nat.le_of_ble_eq_true rfl) hRf, Nat.le_trans (Nat.le_of_ble_eq_true rfl) hRl⟩ rfl hl.1 rfl (Nat.le_of_ble_eq_true rfl) d_m_at_1 hRc hS (fun H locs hkp hS => ?_)
  replace hP := hP.kept (fun k q hq => hkp q.1 (hP k q hq).lt)
  refine lv_istore_n hx hb d_m_at_4 rfl hl (Nat.le_of_ble_eq_true rfl) rfl (fun ls hl => ?_)
  have hl : lv_has ls 5 [(2, .int (nI (pw k))), (0, .ref h), (1, .int (nI k))] := hl
  refine lv_iconst (v := nI 0) hx hb d_m_at_5 (by decide) ?_
  refine lv_istore_n hx hb d_m_at_6 rfl hl (Nat.le_of_ble_eq_true rfl) rfl (fun ls hl => ?_)
  have hl : lv_has ls 5 [(3, .int (nI 0)), (2, .int (nI (pw k))), (0, .ref h), (1, .int (nI k))] := hl
  refine lv_iconst (v := nI 0) hx hb d_m_at_7 (by decide) ?_
  refine lv_istore hx hb d_m_at_8 hl (Nat.le_of_ble_eq_true rfl) rfl (fun ls hl => ?_)
  have hl : lv_has ls 5 [(4, .int (nI 0)), (3, .int (nI 0)), (2, .int (nI (pw k))), (0, .ref h), (1, .int (nI k))] := hl
  refine lp_m_at_10 cI cC h i0 i1 a2 a3 a4 a5 a6 a7 a8 i9 a10 a11 a12 a13 a14 a15 i16 i17 a18 i19 a20 a21 i22 a23 tr k hk htr S hRf hRl hRc hK  (fun ls H locs hl hP hS => ?_) 0 (by omega) ls H locs (lv_sub hl [3, 4, 2, 1, 0] rfl) hP hS
  refine lv_iload_n hx hb d_m_at_37 rfl (lv_at hl 3 rfl) ?_
  exact kr _ ls H locs d_m_at_38 hP hS
set_option maxHeartbeats 1000000 in
set_option maxRecDepth 100000 in
theorem c_m_at (l : Launch) (D : va_G) (cI cC : ClassId) (h i0 i1 a2 a3 a4 a5 a6 a7 a8 i9 a10 a11 a12 a13 a14 a15 i16 i17 a18 i19 a20 a21 i22 a23 : Nat) (tr : Nat → Nat) (k : Nat) (hk : k < 255) (htr : ∀ j, j < 26 → tr j < 256) : Met l y_m_at (cd_m_at :: WS) { frames := 2, cells := 0, slots := 0, locals := 46 } (va_Pc [.ref h, .int (nI k)] (rP D [(h, .inr (8, [.int (nI i0), .int (nI i1), .ref a2, .ref a3, .ref a4, .ref a5, .ref a6, .ref a7, .ref a8, .int (nI i9), .ref a10, .ref a11, .ref a12, .ref a13, .ref a14, .ref a15, .int (nI i16), .int (nI i17), .ref a18, .int (nI i19), .ref a20, .ref a21, .int (nI i22), .ref a23])), (a11, .inl (cI, 26, .inl (fun j => nI (tr j))))] [(cI, .int), (cC, .char)])) (pQ (nI (hrn tr (pw k) 26))) 0 0 noA := by
  refine Met.ofW (cc := b_m_at) (maxL := 5) (ret := (some .int)) (by decide) rfl ?_
  intro p e s m args below meth c s₁ B hml hv0
  obtain ⟨rfl, hP, hK⟩ := hv0
  have hts := atoms_spec (ws := cd_m_at :: WS) B.pre
  have hown : s.vm.findClass R_Model = some m.cls := findClass_of_methodNamed B.named
  have hlocks := B.notSynchronized
  have hl := lv_entry ([.ref h, .int (nI k)]) (n := 5) (Nat.le_of_ble_eq_true rfl)
  rw [lg_entry_eq]
  generalize (lg_sl ([.ref h, .int (nI k)]) ++ List.replicate (5 - (lg_sl ([.ref h, .int (nI k)])).length) Slot.unset).toArray = ls at hl ⊢
  refine bd_m_at cI cC h i0 i1 a2 a3 a4 a5 a6 a7 a8 i9 a10 a11 a12 a13 a14 a15 i16 i17 a18 i19 a20 a21 i22 a23 tr k hk htr ⟨B.exec, B.bytes, hml, hown, hts⟩ (Nat.le_refl _) (Nat.le_refl _) ⟨Nat.le_refl _, Nat.le_refl _⟩ hK (fun pc ls H locs hd hP hS => ?_) ls _ _ hl hP (va_S.rf (A := noA))
  exact W.iret B.exec B.bytes B.returns (fun t ht _ => ⟨⟨_, (), rfl, rfl, trivial⟩, hS.F ht⟩) hS.2.2 hd
end
section
theorem d_m_isRight_0 : decode b_m_isRight 0 = .ok (.iconst 1, 1) := by decide +kernel
theorem d_m_isRight_1 : decode b_m_isRight 1 = .ok (.istore_n 2, 1) := by decide +kernel
theorem d_m_isRight_2 : decode b_m_isRight 2 = .ok (.iconst 0, 1) := by decide +kernel
theorem d_m_isRight_3 : decode b_m_isRight 3 = .ok (.istore_n 3, 1) := by decide +kernel
theorem d_m_isRight_4 : decode b_m_isRight 4 = .ok (.iload_n 3, 1) := by decide +kernel
theorem d_m_isRight_5 : decode b_m_isRight 5 = .ok (.iload_n 1, 1) := by decide +kernel
theorem d_m_isRight_6 : decode b_m_isRight 6 = .ok (.if_icmp .ge 27, 3) := by decide +kernel
theorem d_m_isRight_9 : decode b_m_isRight 9 = .ok (.iload_n 2, 1) := by decide +kernel
theorem d_m_isRight_10 : decode b_m_isRight 10 = .ok (.ifCond .eq 15, 3) := by decide +kernel
theorem d_m_isRight_13 : decode b_m_isRight 13 = .ok (.aload_n 0, 1) := by decide +kernel
theorem d_m_isRight_14 : decode b_m_isRight 14 = .ok (.iload_n 3, 1) := by decide +kernel
theorem d_m_isRight_15 : decode b_m_isRight 15 = .ok (.invokevirtual 139, 3) := by decide +kernel
theorem d_m_isRight_18 : decode b_m_isRight 18 = .ok (.ifCond .ne 7, 3) := by decide +kernel
theorem d_m_isRight_21 : decode b_m_isRight 21 = .ok (.iconst 1, 1) := by decide +kernel
theorem d_m_isRight_22 : decode b_m_isRight 22 = .ok (.goto 4, 3) := by decide +kernel
theorem d_m_isRight_25 : decode b_m_isRight 25 = .ok (.iconst 0, 1) := by decide +kernel
theorem d_m_isRight_26 : decode b_m_isRight 26 = .ok (.istore_n 2, 1) := by decide +kernel
theorem d_m_isRight_27 : decode b_m_isRight 27 = .ok (.iinc 3 1, 3) := by decide +kernel
theorem d_m_isRight_30 : decode b_m_isRight 30 = .ok (.goto (-26), 3) := by decide +kernel
theorem d_m_isRight_33 : decode b_m_isRight 33 = .ok (.iload_n 2, 1) := by decide +kernel
theorem d_m_isRight_34 : decode b_m_isRight 34 = .ok (.ireturn, 1) := by decide +kernel
end
section
variable {p : Program} {l : Launch} {e : Env} {R : Room} {s : State} {m : MethodId} {args : Array Value} {below : List Frame} {meth : Method} {c : Code} {cells slots : Nat} {Q : State → Prop} {A : Nat → Prop} {H0 : Heap} {D : va_G}
set_option maxHeartbeats 1000000 in
set_option maxRecDepth 100000 in
theorem lp_m_isRight_4 (cI cC : ClassId) (h i0 i1 a2 a3 a4 a5 a6 a7 a8 i9 a10 a11 a12 a13 a14 a15 i16 i17 a18 i19 a20 a21 i22 a23 : Nat) (tr : Nat → Nat) (n : Nat) (hn : n < 18) (htr : ∀ j, j < 26 → tr j < 256) (S : CallFix p m c b_m_isRight 4 s args (cd_m_isRight :: WS) R_Model) (hRf : 3 ≤ R.frames) (hRl : 70 ≤ R.locals) (hRc : cells ≤ R.cells ∧ slots ≤ R.slots) (hK : va_K D classes [(cI, .int), (cC, .char)] s) (kx : ∀ (ls : Array Slot) (H : Heap) (locs : List Loc), lv_has ls 4 [(0, .ref h), (1, .int (nI n)), (2, .int (nI (irL tr n))), (3, .int (nI n))] → va_P D classes [(h, .inr (8, [.int (nI i0), .int (nI i1), .ref a2, .ref a3, .ref a4, .ref a5, .ref a6, .ref a7, .ref a8, .int (nI i9), .ref a10, .ref a11, .ref a12, .ref a13, .ref a14, .ref a15, .int (nI i16), .int (nI i17), .ref a18, .int (nI i19), .ref a20, .ref a21, .int (nI i22), .ref a23])), (a11, .inl (cI, 26, .inl (fun j => nI (tr j))))] H → va_S A H0 H locs → W p l e R s m args below meth c H locs cells slots Q (F0 m 33 ls [])) :
    ∀ k, k ≤ n → ∀ (ls : Array Slot) (H : Heap) (locs : List Loc), lv_has ls 4 [(0, .ref h), (1, .int (nI n)), (2, .int (nI (irL tr k))), (3, .int (nI k))] → va_P D classes [(h, .inr (8, [.int (nI i0), .int (nI i1), .ref a2, .ref a3, .ref a4, .ref a5, .ref a6, .ref a7, .ref a8, .int (nI i9), .ref a10, .ref a11, .ref a12, .ref a13, .ref a14, .ref a15, .int (nI i16), .int (nI i17), .ref a18, .int (nI i19), .ref a20, .ref a21, .int (nI i22), .ref a23])), (a11, .inl (cI, 26, .inl (fun j => nI (tr j))))] H → va_S A H0 H locs → W p l e R s m args below meth c H locs cells slots Q (F0 m 4 ls []) := by
  obtain ⟨hx, hb, hml, hown, hts⟩ := id S
  refine up_loop (fun k hkk ih => ?_)
  intro ls H locs hl hP hS
  have hi := irL_le tr k
  have hv := hrn_lt htr (pw_lt k) 26 (by omega)
  refine lv_iload_n hx hb d_m_isRight_4 rfl (lv_at hl 3 rfl) ?_
  refine lv_iload_n hx hb d_m_isRight_5 rfl (lv_at hl 1 rfl) ?_
  refine n_icmp_ge hx hb d_m_isRight_6 (tgt := 33) rfl (by omega) (by omega) (fun g6 => ?_) (fun g6 => ?_)
  · skip
    obtain rfl : k = n := by omega
    exact kx ls H locs (lv_sub hl [0, 1, 2, 3] rfl) hP hS
  · skip
    refine lv_iload_n hx hb d_m_isRight_9 rfl (lv_at hl 2 rfl) ?_
    refine n_if_eq hx hb d_m_isRight_10 (tgt := 25) rfl (by omega) (fun g10 => ?_) (fun g10 => ?_)
    · skip
      refine lv_iconst (v := nI 0) hx hb d_m_isRight_25 (by decide) ?_
      refine n_topn (show 0 = irL tr (k + 1) from (by first | exact (irL_t g10 g18).symm | exact (irL_f g10).symm | exact (irL_g g18).symm)) ?_
      refine lv_istore_n hx hb d_m_isRight_26 rfl hl (Nat.le_of_ble_eq_true rfl) rfl (fun ls hl => ?_)
      have hl : lv_has ls 4 [(2, .int (nI (irL tr (k + 1)))), (0, .ref h), (1, .int (nI n)), (3, .int (nI k))] := hl
      refine lv_iinc (k := 3) (v := nI (k + 1)) hx hb d_m_isRight_27 hl rfl (nx_inc k 1) (Nat.le_of_ble_eq_true rfl) rfl (fun ls hl => ?_)
      have hl : lv_has ls 4 [(3, .int (nI (k + 1))), (2, .int (nI (irL tr (k + 1)))), (0, .ref h), (1, .int (nI n))] := hl
      refine lv_goto hx hb d_m_isRight_30 (tgt := 4) rfl ?_
      exact ih (by omega) ls H locs (lv_sub hl [2, 3, 1, 0] rfl) hP hS
    · skip
      refine lv_aload_n hx hb d_m_isRight_13 rfl (lv_at hl 0 rfl) ?_
      refine lv_iload_n hx hb d_m_isRight_14 rfl (lv_at hl 3 rfl) ?_
      refine q_readV (n := 1) (As := [.int (nI k)]) (rest := []) (wc := [(h, .inr (8, [.int (nI i0), .int (nI i1), .ref a2, .ref a3, .ref a4, .ref a5, .ref a6, .ref a7, .ref a8, .int (nI i9), .ref a10, .ref a11, .ref a12, .ref a13, .ref a14, .ref a15, .int (nI i16), .int (nI i17), .ref a18, .int (nI i19), .ref a20, .ref a21, .int (nI i22), .ref a23])), (a11, .inl (cI, 26, .inl (fun j => nI (tr j))))]) S (c_m_at l D cI cC h i0 i1 a2 a3 a4 a5 a6 a7 a8 i9 a10 a11 a12 a13 a14 a15 i16 i17 a18 i19 a20 a21 i22 a23 tr k (by omega) htr) hK hP (q0 := 0) rfl rfl [0, 1] rfl (q_goodV kw_953 kw_955 ks_32 kw_10 kw_956) (by decide +kernel) rfl rfl rfl ⟨Nat.le_trans (Nat.le_of_ble_eq_true rfl) hRf, Nat.le_trans (Nat.le_of_ble_eq_true rfl) hRl⟩ rfl hl.1 rfl (Nat.le_of_ble_eq_true rfl) d_m_isRight_15 hRc hS (fun H locs hP hS => ?_)
      refine n_if_ne hx hb d_m_isRight_18 (tgt := 25) rfl (by omega) (fun g18 => ?_) (fun g18 => ?_)
      · skip
        refine lv_iconst (v := nI 0) hx hb d_m_isRight_25 (by decide) ?_
        refine n_topn (show 0 = irL tr (k + 1) from (by first | exact (irL_t g10 g18).symm | exact (irL_f g10).symm | exact (irL_g g18).symm)) ?_
        refine lv_istore_n hx hb d_m_isRight_26 rfl hl (Nat.le_of_ble_eq_true rfl) rfl (fun ls hl => ?_)
        have hl : lv_has ls 4 [(2, .int (nI (irL tr (k + 1)))), (0, .ref h), (1, .int (nI n)), (3, .int (nI k))] := hl
        refine lv_iinc (k := 3) (v := nI (k + 1)) hx hb d_m_isRight_27 hl rfl (nx_inc k 1) (Nat.le_of_ble_eq_true rfl) rfl (fun ls hl => ?_)
        have hl : lv_has ls 4 [(3, .int (nI (k + 1))), (2, .int (nI (irL tr (k + 1)))), (0, .ref h), (1, .int (nI n))] := hl
        refine lv_goto hx hb d_m_isRight_30 (tgt := 4) rfl ?_
        exact ih (by omega) ls H locs (lv_sub hl [2, 3, 1, 0] rfl) hP hS
      · skip
        refine lv_iconst (v := nI 1) hx hb d_m_isRight_21 (by decide) ?_
        refine lv_goto hx hb d_m_isRight_22 (tgt := 26) rfl ?_
        refine n_topn (show 1 = irL tr (k + 1) from (by first | exact (irL_t g10 g18).symm | exact (irL_f g10).symm | exact (irL_g g18).symm)) ?_
        refine lv_istore_n hx hb d_m_isRight_26 rfl hl (Nat.le_of_ble_eq_true rfl) rfl (fun ls hl => ?_)
        have hl : lv_has ls 4 [(2, .int (nI (irL tr (k + 1)))), (0, .ref h), (1, .int (nI n)), (3, .int (nI k))] := hl
        refine lv_iinc (k := 3) (v := nI (k + 1)) hx hb d_m_isRight_27 hl rfl (nx_inc k 1) (Nat.le_of_ble_eq_true rfl) rfl (fun ls hl => ?_)
        have hl : lv_has ls 4 [(3, .int (nI (k + 1))), (2, .int (nI (irL tr (k + 1)))), (0, .ref h), (1, .int (nI n))] := hl
        refine lv_goto hx hb d_m_isRight_30 (tgt := 4) rfl ?_
        exact ih (by omega) ls H locs (lv_sub hl [2, 3, 1, 0] rfl) hP hS
set_option maxHeartbeats 1000000 in
set_option maxRecDepth 100000 in
theorem bd_m_isRight (cI cC : ClassId) (h i0 i1 a2 a3 a4 a5 a6 a7 a8 i9 a10 a11 a12 a13 a14 a15 i16 i17 a18 i19 a20 a21 i22 a23 : Nat) (tr : Nat → Nat) (n : Nat) (hn : n < 18) (htr : ∀ j, j < 26 → tr j < 256) (S : CallFix p m c b_m_isRight 4 s args (cd_m_isRight :: WS) R_Model) (hRf : 3 ≤ R.frames) (hRl : 70 ≤ R.locals) (hRc : cells ≤ R.cells ∧ slots ≤ R.slots) (hK : va_K D classes [(cI, .int), (cC, .char)] s) (kr : ∀ (pc : Nat) (ls : Array Slot) (H : Heap) (locs : List Loc), decode b_m_isRight pc = .ok (.ireturn, 1) → va_P D classes [(h, .inr (8, [.int (nI i0), .int (nI i1), .ref a2, .ref a3, .ref a4, .ref a5, .ref a6, .ref a7, .ref a8, .int (nI i9), .ref a10, .ref a11, .ref a12, .ref a13, .ref a14, .ref a15, .int (nI i16), .int (nI i17), .ref a18, .int (nI i19), .ref a20, .ref a21, .int (nI i22), .ref a23])), (a11, .inl (cI, 26, .inl (fun j => nI (tr j))))] H → va_S A H0 H locs → W p l e R s m args below meth c H locs cells slots Q (F0 m pc ls [.int (nI (irL tr n))])) : ∀ (ls : Array Slot) (H : Heap) (locs : List Loc), lv_has ls 4 [(0, .ref h), (1, .int (nI n))] → va_P D classes [(h, .inr (8, [.int (nI i0), .int (nI i1), .ref a2, .ref a3, .ref a4, .ref a5, .ref a6, .ref a7, .ref a8, .int (nI i9), .ref a10, .ref a11, .ref a12, .ref a13, .ref a14, .ref a15, .int (nI i16), .int (nI i17), .ref a18, .int (nI i19), .ref a20, .ref a21, .int (nI i22), .ref a23])), (a11, .inl (cI, 26, .inl (fun j => nI (tr j))))] H → va_S A H0 H locs → W p l e R s m args below meth c H locs cells slots Q (F0 m 0 ls []) := by
  obtain ⟨hx, hb, hml, hown, hts⟩ := id S
  intro ls H locs hl hP hS
  refine lv_iconst (v := nI 1) hx hb d_m_isRight_0 (by decide) ?_
  refine lv_istore_n hx hb d_m_isRight_1 rfl hl (Nat.le_of_ble_eq_true rfl) rfl (fun ls hl => ?_)
  have hl : lv_has ls 4 [(2, .int (nI 1)), (0, .ref h), (1, .int (nI n))] := hl
  refine lv_iconst (v := nI 0) hx hb d_m_isRight_2 (by decide) ?_
  refine lv_istore_n hx hb d_m_isRight_3 rfl hl (Nat.le_of_ble_eq_true rfl) rfl (fun ls hl => ?_)
  have hl : lv_has ls 4 [(3, .int (nI 0)), (2, .int (nI 1)), (0, .ref h), (1, .int (nI n))] := hl
  refine lp_m_isRight_4 cI cC h i0 i1 a2 a3 a4 a5 a6 a7 a8 i9 a10 a11 a12 a13 a14 a15 i16 i17 a18 i19 a20 a21 i22 a23 tr n hn htr S hRf hRl hRc hK  (fun ls H locs hl hP hS => ?_) 0 (by omega) ls H locs (lv_sub hl [2, 3, 1, 0] rfl) hP hS
  refine lv_iload_n hx hb d_m_isRight_33 rfl (lv_at hl 2 rfl) ?_
  exact kr _ ls H locs d_m_isRight_34 hP hS
set_option maxHeartbeats 1000000 in
set_option maxRecDepth 100000 in
theorem c_m_isRight (l : Launch) (D : va_G) (cI cC : ClassId) (h i0 i1 a2 a3 a4 a5 a6 a7 a8 i9 a10 a11 a12 a13 a14 a15 i16 i17 a18 i19 a20 a21 i22 a23 : Nat) (tr : Nat → Nat) (n : Nat) (hn : n < 18) (htr : ∀ j, j < 26 → tr j < 256) : Met l y_m_isRight (cd_m_isRight :: WS) { frames := 3, cells := 0, slots := 0, locals := 70 } (va_Pc [.ref h, .int (nI n)] (rP D [(h, .inr (8, [.int (nI i0), .int (nI i1), .ref a2, .ref a3, .ref a4, .ref a5, .ref a6, .ref a7, .ref a8, .int (nI i9), .ref a10, .ref a11, .ref a12, .ref a13, .ref a14, .ref a15, .int (nI i16), .int (nI i17), .ref a18, .int (nI i19), .ref a20, .ref a21, .int (nI i22), .ref a23])), (a11, .inl (cI, 26, .inl (fun j => nI (tr j))))] [(cI, .int), (cC, .char)])) (pQ (nI (irL tr n))) 0 0 noA := by
  refine Met.ofW (cc := b_m_isRight) (maxL := 4) (ret := (some .boolean)) (by decide) rfl ?_
  intro p e s m args below meth c s₁ B hml hv0
  obtain ⟨rfl, hP, hK⟩ := hv0
  have hts := atoms_spec (ws := cd_m_isRight :: WS) B.pre
  have hown : s.vm.findClass R_Model = some m.cls := findClass_of_methodNamed B.named
  have hlocks := B.notSynchronized
  have hl := lv_entry ([.ref h, .int (nI n)]) (n := 4) (Nat.le_of_ble_eq_true rfl)
  rw [lg_entry_eq]
  generalize (lg_sl ([.ref h, .int (nI n)]) ++ List.replicate (4 - (lg_sl ([.ref h, .int (nI n)])).length) Slot.unset).toArray = ls at hl ⊢
  refine bd_m_isRight cI cC h i0 i1 a2 a3 a4 a5 a6 a7 a8 i9 a10 a11 a12 a13 a14 a15 i16 i17 a18 i19 a20 a21 i22 a23 tr n hn htr ⟨B.exec, B.bytes, hml, hown, hts⟩ (Nat.le_refl _) (Nat.le_refl _) ⟨Nat.le_refl _, Nat.le_refl _⟩ hK (fun pc ls H locs hd hP hS => ?_) ls _ _ hl hP (va_S.rf (A := noA))
  exact W.zret B.exec B.bytes B.returns (irL_fit _ _) (fun t ht _ => ⟨⟨_, (), rfl, rfl, trivial⟩, hS.F ht⟩) hS.2.2 hd
end
section
theorem d_m_inLine_0 : decode b_m_inLine 0 = .ok (.iload_n 1, 1) := by decide +kernel
theorem d_m_inLine_1 : decode b_m_inLine 1 = .ok (.bipush 21, 2) := by decide +kernel
theorem d_m_inLine_3 : decode b_m_inLine 3 = .ok (.if_icmp .ge 17, 3) := by decide +kernel
theorem d_m_inLine_6 : decode b_m_inLine 6 = .ok (.aload_n 0, 1) := by decide +kernel
theorem d_m_inLine_7 : decode b_m_inLine 7 = .ok (.getfield 16, 3) := by decide +kernel
theorem d_m_inLine_10 : decode b_m_inLine 10 = .ok (.bipush 21, 2) := by decide +kernel
theorem d_m_inLine_12 : decode b_m_inLine 12 = .ok (.iload_n 1, 1) := by decide +kernel
theorem d_m_inLine_13 : decode b_m_inLine 13 = .ok (.imul, 1) := by decide +kernel
theorem d_m_inLine_14 : decode b_m_inLine 14 = .ok (.iload_n 2, 1) := by decide +kernel
theorem d_m_inLine_15 : decode b_m_inLine 15 = .ok (.iadd, 1) := by decide +kernel
theorem d_m_inLine_16 : decode b_m_inLine 16 = .ok (.iaload, 1) := by decide +kernel
theorem d_m_inLine_17 : decode b_m_inLine 17 = .ok (.goto 17, 3) := by decide +kernel
theorem d_m_inLine_20 : decode b_m_inLine 20 = .ok (.aload_n 0, 1) := by decide +kernel
theorem d_m_inLine_21 : decode b_m_inLine 21 = .ok (.getfield 16, 3) := by decide +kernel
theorem d_m_inLine_24 : decode b_m_inLine 24 = .ok (.bipush 21, 2) := by decide +kernel
theorem d_m_inLine_26 : decode b_m_inLine 26 = .ok (.iload_n 2, 1) := by decide +kernel
theorem d_m_inLine_27 : decode b_m_inLine 27 = .ok (.imul, 1) := by decide +kernel
theorem d_m_inLine_28 : decode b_m_inLine 28 = .ok (.iload_n 1, 1) := by decide +kernel
theorem d_m_inLine_29 : decode b_m_inLine 29 = .ok (.iadd, 1) := by decide +kernel
theorem d_m_inLine_30 : decode b_m_inLine 30 = .ok (.bipush 21, 2) := by decide +kernel
theorem d_m_inLine_32 : decode b_m_inLine 32 = .ok (.isub, 1) := by decide +kernel
theorem d_m_inLine_33 : decode b_m_inLine 33 = .ok (.iaload, 1) := by decide +kernel
theorem d_m_inLine_34 : decode b_m_inLine 34 = .ok (.ireturn, 1) := by decide +kernel
end
section
variable {p : Program} {l : Launch} {e : Env} {R : Room} {s : State} {m : MethodId} {args : Array Value} {below : List Frame} {meth : Method} {c : Code} {cells slots : Nat} {Q : State → Prop} {A : Nat → Prop} {H0 : Heap} {D : va_G}
set_option maxHeartbeats 1000000 in
set_option maxRecDepth 100000 in
theorem bd_m_inLine (cI cC : ClassId) (h i0 i1 a2 a3 a4 a5 a6 a7 a8 i9 a10 a11 a12 a13 a14 a15 i16 i17 a18 i19 a20 a21 i22 a23 : Nat) (dr : Nat → Nat) (u k : Nat) (hu : u < 42) (hk : k < 21) (S : CallFix p m c b_m_inLine 3 s args (cd_m_inLine :: WS) R_Model) (hRf : 0 ≤ R.frames) (hRl : 0 ≤ R.locals) (hRc : cells ≤ R.cells ∧ slots ≤ R.slots) (hK : va_K D classes [(cI, .int), (cC, .char)] s) (kr : ∀ (pc : Nat) (ls : Array Slot) (H : Heap) (locs : List Loc), decode b_m_inLine pc = .ok (.ireturn, 1) → va_P D classes [(h, .inr (8, [.int (nI i0), .int (nI i1), .ref a2, .ref a3, .ref a4, .ref a5, .ref a6, .ref a7, .ref a8, .int (nI i9), .ref a10, .ref a11, .ref a12, .ref a13, .ref a14, .ref a15, .int (nI i16), .int (nI i17), .ref a18, .int (nI i19), .ref a20, .ref a21, .int (nI i22), .ref a23])), (a4, .inl (cI, 441, .inl (fun j => nI (dr j))))] H → va_S A H0 H locs → W p l e R s m args below meth c H locs cells slots Q (F0 m pc ls [.int (nI (ilN dr u k))])) : ∀ (ls : Array Slot) (H : Heap) (locs : List Loc), lv_has ls 3 [(0, .ref h), (1, .int (nI u)), (2, .int (nI k))] → va_P D classes [(h, .inr (8, [.int (nI i0), .int (nI i1), .ref a2, .ref a3, .ref a4, .ref a5, .ref a6, .ref a7, .ref a8, .int (nI i9), .ref a10, .ref a11, .ref a12, .ref a13, .ref a14, .ref a15, .int (nI i16), .int (nI i17), .ref a18, .int (nI i19), .ref a20, .ref a21, .int (nI i22), .ref a23])), (a4, .inl (cI, 441, .inl (fun j => nI (dr j))))] H → va_S A H0 H locs → W p l e R s m args below meth c H locs cells slots Q (F0 m 0 ls []) := by
  obtain ⟨hx, hb, hml, hown, hts⟩ := id S
  intro ls H locs hl hP hS
  refine lv_iload_n hx hb d_m_inLine_0 rfl (lv_at hl 1 rfl) ?_
  refine lv_bipush (v := nI 21) hx hb d_m_inLine_1 (by decide) ?_
  refine n_icmp_ge hx hb d_m_inLine_3 (tgt := 20) rfl (by omega) (by omega) (fun g3 => ?_) (fun g3 => ?_)
  · skip
    refine lv_aload_n hx hb d_m_inLine_20 rfl (lv_at hl 0 rfl) ?_
    refine n_get (C := R_Model) (T := F_Model) (N := 24) (v := .ref a4) hx hb hts u_Model_in hown hK hP 0 rfl rfl 4 (by decide) kw_780 rfl d_m_inLine_21 ?_
    refine lv_bipush (v := nI 21) hx hb d_m_inLine_24 (by decide) ?_
    refine lv_iload_n hx hb d_m_inLine_26 rfl (lv_at hl 2 rfl) ?_
    refine n_imul hx hb d_m_inLine_27 ?_
    refine lv_iload_n hx hb d_m_inLine_28 rfl (lv_at hl 1 rfl) ?_
    refine n_iadd hx hb d_m_inLine_29 ?_
    refine lv_bipush (v := nI 21) hx hb d_m_inLine_30 (by decide) ?_
    refine n_isub hx hb d_m_inLine_32 (by omega) ?_
    refine n_iald hx hb hK hP 1 0 rfl rfl (by omega) (by decide) d_m_inLine_33 ?_
    refine n_topn (show dr (((21 * k) + u) - 21) = ilN dr u k from (by first | exact (ilN_t g3).symm | exact (ilN_f g3).symm)) ?_
    exact kr _ ls H locs d_m_inLine_34 hP hS
  · skip
    refine lv_aload_n hx hb d_m_inLine_6 rfl (lv_at hl 0 rfl) ?_
    refine n_get (C := R_Model) (T := F_Model) (N := 24) (v := .ref a4) hx hb hts u_Model_in hown hK hP 0 rfl rfl 4 (by decide) kw_780 rfl d_m_inLine_7 ?_
    refine lv_bipush (v := nI 21) hx hb d_m_inLine_10 (by decide) ?_
    refine lv_iload_n hx hb d_m_inLine_12 rfl (lv_at hl 1 rfl) ?_
    refine n_imul hx hb d_m_inLine_13 ?_
    refine lv_iload_n hx hb d_m_inLine_14 rfl (lv_at hl 2 rfl) ?_
    refine n_iadd hx hb d_m_inLine_15 ?_
    refine n_iald hx hb hK hP 1 0 rfl rfl (by omega) (by decide) d_m_inLine_16 ?_
    refine lv_goto hx hb d_m_inLine_17 (tgt := 34) rfl ?_
    refine n_topn (show dr ((21 * u) + k) = ilN dr u k from (by first | exact (ilN_t g3).symm | exact (ilN_f g3).symm)) ?_
    exact kr _ ls H locs d_m_inLine_34 hP hS
set_option maxHeartbeats 1000000 in
set_option maxRecDepth 100000 in
theorem c_m_inLine (l : Launch) (D : va_G) (cI cC : ClassId) (h i0 i1 a2 a3 a4 a5 a6 a7 a8 i9 a10 a11 a12 a13 a14 a15 i16 i17 a18 i19 a20 a21 i22 a23 : Nat) (dr : Nat → Nat) (u k : Nat) (hu : u < 42) (hk : k < 21) : Met l y_m_inLine (cd_m_inLine :: WS) { frames := 0, cells := 0, slots := 0, locals := 0 } (va_Pc [.ref h, .int (nI u), .int (nI k)] (rP D [(h, .inr (8, [.int (nI i0), .int (nI i1), .ref a2, .ref a3, .ref a4, .ref a5, .ref a6, .ref a7, .ref a8, .int (nI i9), .ref a10, .ref a11, .ref a12, .ref a13, .ref a14, .ref a15, .int (nI i16), .int (nI i17), .ref a18, .int (nI i19), .ref a20, .ref a21, .int (nI i22), .ref a23])), (a4, .inl (cI, 441, .inl (fun j => nI (dr j))))] [(cI, .int), (cC, .char)])) (pQ (nI (ilN dr u k))) 0 0 noA := by
  refine Met.ofW (cc := b_m_inLine) (maxL := 3) (ret := (some .int)) (by decide) rfl ?_
  intro p e s m args below meth c s₁ B hml hv0
  obtain ⟨rfl, hP, hK⟩ := hv0
  have hts := atoms_spec (ws := cd_m_inLine :: WS) B.pre
  have hown : s.vm.findClass R_Model = some m.cls := findClass_of_methodNamed B.named
  have hlocks := B.notSynchronized
  have hl := lv_entry ([.ref h, .int (nI u), .int (nI k)]) (n := 3) (Nat.le_of_ble_eq_true rfl)
  rw [lg_entry_eq]
  generalize (lg_sl ([.ref h, .int (nI u), .int (nI k)]) ++ List.replicate (3 - (lg_sl ([.ref h, .int (nI u), .int (nI k)])).length) Slot.unset).toArray = ls at hl ⊢
  refine bd_m_inLine cI cC h i0 i1 a2 a3 a4 a5 a6 a7 a8 i9 a10 a11 a12 a13 a14 a15 i16 i17 a18 i19 a20 a21 i22 a23 dr u k hu hk ⟨B.exec, B.bytes, hml, hown, hts⟩ (Nat.le_refl _) (Nat.le_refl _) ⟨Nat.le_refl _, Nat.le_refl _⟩ hK (fun pc ls H locs hd hP hS => ?_) ls _ _ hl hP (va_S.rf (A := noA))
  exact W.iret B.exec B.bytes B.returns (fun t ht _ => ⟨⟨_, (), rfl, rfl, trivial⟩, hS.F ht⟩) hS.2.2 hd
end
section
theorem d_m_runs_0 : decode b_m_runs 0 = .ok (.iconst 0, 1) := by decide +kernel
theorem d_m_runs_1 : decode b_m_runs 1 = .ok (.istore_n 2, 1) := by decide +kernel
theorem d_m_runs_2 : decode b_m_runs 2 = .ok (.iconst 1, 1) := by decide +kernel
theorem d_m_runs_3 : decode b_m_runs 3 = .ok (.istore_n 3, 1) := by decide +kernel
theorem d_m_runs_4 : decode b_m_runs 4 = .ok (.iconst 1, 1) := by decide +kernel
theorem d_m_runs_5 : decode b_m_runs 5 = .ok (.istore 4, 2) := by decide +kernel
theorem d_m_runs_7 : decode b_m_runs 7 = .ok (.iload 4, 2) := by decide +kernel
theorem d_m_runs_9 : decode b_m_runs 9 = .ok (.bipush 21, 2) := by decide +kernel
theorem d_m_runs_11 : decode b_m_runs 11 = .ok (.if_icmp .gt 58, 3) := by decide +kernel
theorem d_m_runs_14 : decode b_m_runs 14 = .ok (.iload 4, 2) := by decide +kernel
theorem d_m_runs_16 : decode b_m_runs 16 = .ok (.bipush 21, 2) := by decide +kernel
theorem d_m_runs_18 : decode b_m_runs 18 = .ok (.if_icmp .ge 28, 3) := by decide +kernel
theorem d_m_runs_21 : decode b_m_runs 21 = .ok (.aload_n 0, 1) := by decide +kernel
theorem d_m_runs_22 : decode b_m_runs 22 = .ok (.iload_n 1, 1) := by decide +kernel
theorem d_m_runs_23 : decode b_m_runs 23 = .ok (.iload 4, 2) := by decide +kernel
theorem d_m_runs_25 : decode b_m_runs 25 = .ok (.invokevirtual 127, 3) := by decide +kernel
theorem d_m_runs_28 : decode b_m_runs 28 = .ok (.aload_n 0, 1) := by decide +kernel
theorem d_m_runs_29 : decode b_m_runs 29 = .ok (.iload_n 1, 1) := by decide +kernel
theorem d_m_runs_30 : decode b_m_runs 30 = .ok (.iload 4, 2) := by decide +kernel
theorem d_m_runs_32 : decode b_m_runs 32 = .ok (.iconst 1, 1) := by decide +kernel
theorem d_m_runs_33 : decode b_m_runs 33 = .ok (.isub, 1) := by decide +kernel
theorem d_m_runs_34 : decode b_m_runs 34 = .ok (.invokevirtual 127, 3) := by decide +kernel
theorem d_m_runs_37 : decode b_m_runs 37 = .ok (.if_icmp .ne 9, 3) := by decide +kernel
theorem d_m_runs_40 : decode b_m_runs 40 = .ok (.iinc 3 1, 3) := by decide +kernel
theorem d_m_runs_43 : decode b_m_runs 43 = .ok (.goto 20, 3) := by decide +kernel
theorem d_m_runs_46 : decode b_m_runs 46 = .ok (.iload_n 2, 1) := by decide +kernel
theorem d_m_runs_47 : decode b_m_runs 47 = .ok (.iload_n 3, 1) := by decide +kernel
theorem d_m_runs_48 : decode b_m_runs 48 = .ok (.iconst 5, 1) := by decide +kernel
theorem d_m_runs_49 : decode b_m_runs 49 = .ok (.if_icmp .lt 9, 3) := by decide +kernel
theorem d_m_runs_52 : decode b_m_runs 52 = .ok (.iload_n 3, 1) := by decide +kernel
theorem d_m_runs_53 : decode b_m_runs 53 = .ok (.iconst 2, 1) := by decide +kernel
theorem d_m_runs_54 : decode b_m_runs 54 = .ok (.isub, 1) := by decide +kernel
theorem d_m_runs_55 : decode b_m_runs 55 = .ok (.goto 4, 3) := by decide +kernel
theorem d_m_runs_58 : decode b_m_runs 58 = .ok (.iconst 0, 1) := by decide +kernel
theorem d_m_runs_59 : decode b_m_runs 59 = .ok (.iadd, 1) := by decide +kernel
theorem d_m_runs_60 : decode b_m_runs 60 = .ok (.istore_n 2, 1) := by decide +kernel
theorem d_m_runs_61 : decode b_m_runs 61 = .ok (.iconst 1, 1) := by decide +kernel
theorem d_m_runs_62 : decode b_m_runs 62 = .ok (.istore_n 3, 1) := by decide +kernel
theorem d_m_runs_63 : decode b_m_runs 63 = .ok (.iinc 4 1, 3) := by decide +kernel
theorem d_m_runs_66 : decode b_m_runs 66 = .ok (.goto (-59), 3) := by decide +kernel
theorem d_m_runs_69 : decode b_m_runs 69 = .ok (.iload_n 2, 1) := by decide +kernel
theorem d_m_runs_70 : decode b_m_runs 70 = .ok (.ireturn, 1) := by decide +kernel
end
section
variable {p : Program} {l : Launch} {e : Env} {R : Room} {s : State} {m : MethodId} {args : Array Value} {below : List Frame} {meth : Method} {c : Code} {cells slots : Nat} {Q : State → Prop} {A : Nat → Prop} {H0 : Heap} {D : va_G}
set_option maxHeartbeats 1000000 in
set_option maxRecDepth 100000 in
theorem lp_m_runs_7 (cI cC : ClassId) (h i0 i1 a2 a3 a4 a5 a6 a7 a8 i9 a10 a11 a12 a13 a14 a15 i16 i17 a18 i19 a20 a21 i22 a23 : Nat) (dr : Nat → Nat) (u : Nat) (hu : u < 42) (hdr : ∀ j, j < 441 → dr j ≤ 1) (S : CallFix p m c b_m_runs 5 s args (cd_m_runs :: WS) R_Model) (hRf : 1 ≤ R.frames) (hRl : 22 ≤ R.locals) (hRc : cells ≤ R.cells ∧ slots ≤ R.slots) (hK : va_K D classes [(cI, .int), (cC, .char)] s) (kx : ∀ (ls : Array Slot) (H : Heap) (locs : List Loc), lv_has ls 5 [(0, .ref h), (1, .int (nI u)), (2, .int (nI ((rnL (ilN dr u) 21).1))), (3, .int (nI ((rnL (ilN dr u) 21).2))), (4, .int (nI (21 + 1)))] → va_P D classes [(h, .inr (8, [.int (nI i0), .int (nI i1), .ref a2, .ref a3, .ref a4, .ref a5, .ref a6, .ref a7, .ref a8, .int (nI i9), .ref a10, .ref a11, .ref a12, .ref a13, .ref a14, .ref a15, .int (nI i16), .int (nI i17), .ref a18, .int (nI i19), .ref a20, .ref a21, .int (nI i22), .ref a23])), (a4, .inl (cI, 441, .inl (fun j => nI (dr j))))] H → va_S A H0 H locs → W p l e R s m args below meth c H locs cells slots Q (F0 m 69 ls [])) :
    ∀ k, k ≤ 21 → ∀ (ls : Array Slot) (H : Heap) (locs : List Loc), lv_has ls 5 [(0, .ref h), (1, .int (nI u)), (2, .int (nI ((rnL (ilN dr u) k).1))), (3, .int (nI ((rnL (ilN dr u) k).2))), (4, .int (nI (k + 1)))] → va_P D classes [(h, .inr (8, [.int (nI i0), .int (nI i1), .ref a2, .ref a3, .ref a4, .ref a5, .ref a6, .ref a7, .ref a8, .int (nI i9), .ref a10, .ref a11, .ref a12, .ref a13, .ref a14, .ref a15, .int (nI i16), .int (nI i17), .ref a18, .int (nI i19), .ref a20, .ref a21, .int (nI i22), .ref a23])), (a4, .inl (cI, 441, .inl (fun j => nI (dr j))))] H → va_S A H0 H locs → W p l e R s m args below meth c H locs cells slots Q (F0 m 7 ls []) := by
  obtain ⟨hx, hb, hml, hown, hts⟩ := id S
  refine up_loop (fun k hkk ih => ?_)
  intro ls H locs hl hP hS
  have hq := rnL_le (ilN dr u) k
  refine lv_iload hx hb d_m_runs_7 (lv_at hl 4 rfl) ?_
  refine lv_bipush (v := nI 21) hx hb d_m_runs_9 (by decide) ?_
  refine n_icmp_gt hx hb d_m_runs_11 (tgt := 69) rfl (by omega) (by omega) (fun g11 => ?_) (fun g11 => ?_)
  · skip
    obtain rfl : k = 21 := by omega
    exact kx ls H locs (lv_sub hl [0, 1, 2, 3, 4] rfl) hP hS
  · skip
    refine lv_iload hx hb d_m_runs_14 (lv_at hl 4 rfl) ?_
    refine lv_bipush (v := nI 21) hx hb d_m_runs_16 (by decide) ?_
    refine n_icmp_ge hx hb d_m_runs_18 (tgt := 46) rfl (by omega) (by omega) (fun g18 => ?_) (fun g18 => ?_)
    · skip
      refine lv_iload_n hx hb d_m_runs_46 rfl (lv_at hl 2 rfl) ?_
      refine lv_iload_n hx hb d_m_runs_47 rfl (lv_at hl 3 rfl) ?_
      refine lv_iconst (v := nI 5) hx hb d_m_runs_48 (by decide) ?_
      refine n_icmp_lt hx hb d_m_runs_49 (tgt := 58) rfl (by omega) (by omega) (fun g49 => ?_) (fun g49 => ?_)
      · skip
        refine lv_iconst (v := nI 0) hx hb d_m_runs_58 (by decide) ?_
        refine n_iadd hx hb d_m_runs_59 ?_
        refine n_topn (show ((rnL (ilN dr u) k).1) + 0 = (rnL (ilN dr u) (k + 1)).1 from (by first | exact (rnL_1f (by omega) g49).symm | exact (rnL_1g (by omega) g49).symm | exact (rnL_1h g37 g49).symm | exact (rnL_1i g37 g49).symm)) ?_
        refine lv_istore_n hx hb d_m_runs_60 rfl hl (Nat.le_of_ble_eq_true rfl) rfl (fun ls hl => ?_)
        have hl : lv_has ls 5 [(2, .int (nI ((rnL (ilN dr u) (k + 1)).1))), (0, .ref h), (1, .int (nI u)), (3, .int (nI ((rnL (ilN dr u) k).2))), (4, .int (nI (k + 1)))] := hl
        refine lv_iconst (v := nI 1) hx hb d_m_runs_61 (by decide) ?_
        refine n_topn (show 1 = (rnL (ilN dr u) (k + 1)).2 from (by first | exact (rnL_2f (by omega)).symm | exact (rnL_2g g37).symm)) ?_
        refine lv_istore_n hx hb d_m_runs_62 rfl hl (Nat.le_of_ble_eq_true rfl) rfl (fun ls hl => ?_)
        have hl : lv_has ls 5 [(3, .int (nI ((rnL (ilN dr u) (k + 1)).2))), (2, .int (nI ((rnL (ilN dr u) (k + 1)).1))), (0, .ref h), (1, .int (nI u)), (4, .int (nI (k + 1)))] := hl
        refine lv_iinc (k := 4) (v := nI (k + 1 + 1)) hx hb d_m_runs_63 hl rfl ((nx_inc (k + 1) 1).trans (congrArg nI rfl)) (Nat.le_of_ble_eq_true rfl) rfl (fun ls hl => ?_)
        have hl : lv_has ls 5 [(4, .int (nI (k + 1 + 1))), (3, .int (nI ((rnL (ilN dr u) (k + 1)).2))), (2, .int (nI ((rnL (ilN dr u) (k + 1)).1))), (0, .ref h), (1, .int (nI u))] := hl
        refine lv_goto hx hb d_m_runs_66 (tgt := 7) rfl ?_
        exact ih (by omega) ls H locs (lv_sub hl [3, 4, 2, 1, 0] rfl) hP hS
      · skip
        refine lv_iload_n hx hb d_m_runs_52 rfl (lv_at hl 3 rfl) ?_
        refine lv_iconst (v := nI 2) hx hb d_m_runs_53 (by decide) ?_
        refine n_isub hx hb d_m_runs_54 (by omega) ?_
        refine lv_goto hx hb d_m_runs_55 (tgt := 59) rfl ?_
        refine n_iadd hx hb d_m_runs_59 ?_
        refine n_topn (show ((rnL (ilN dr u) k).1) + (((rnL (ilN dr u) k).2) - 2) = (rnL (ilN dr u) (k + 1)).1 from (by first | exact (rnL_1f (by omega) g49).symm | exact (rnL_1g (by omega) g49).symm | exact (rnL_1h g37 g49).symm | exact (rnL_1i g37 g49).symm)) ?_
        refine lv_istore_n hx hb d_m_runs_60 rfl hl (Nat.le_of_ble_eq_true rfl) rfl (fun ls hl => ?_)
        have hl : lv_has ls 5 [(2, .int (nI ((rnL (ilN dr u) (k + 1)).1))), (0, .ref h), (1, .int (nI u)), (3, .int (nI ((rnL (ilN dr u) k).2))), (4, .int (nI (k + 1)))] := hl
        refine lv_iconst (v := nI 1) hx hb d_m_runs_61 (by decide) ?_
        refine n_topn (show 1 = (rnL (ilN dr u) (k + 1)).2 from (by first | exact (rnL_2f (by omega)).symm | exact (rnL_2g g37).symm)) ?_
        refine lv_istore_n hx hb d_m_runs_62 rfl hl (Nat.le_of_ble_eq_true rfl) rfl (fun ls hl => ?_)
        have hl : lv_has ls 5 [(3, .int (nI ((rnL (ilN dr u) (k + 1)).2))), (2, .int (nI ((rnL (ilN dr u) (k + 1)).1))), (0, .ref h), (1, .int (nI u)), (4, .int (nI (k + 1)))] := hl
        refine lv_iinc (k := 4) (v := nI (k + 1 + 1)) hx hb d_m_runs_63 hl rfl ((nx_inc (k + 1) 1).trans (congrArg nI rfl)) (Nat.le_of_ble_eq_true rfl) rfl (fun ls hl => ?_)
        have hl : lv_has ls 5 [(4, .int (nI (k + 1 + 1))), (3, .int (nI ((rnL (ilN dr u) (k + 1)).2))), (2, .int (nI ((rnL (ilN dr u) (k + 1)).1))), (0, .ref h), (1, .int (nI u))] := hl
        refine lv_goto hx hb d_m_runs_66 (tgt := 7) rfl ?_
        exact ih (by omega) ls H locs (lv_sub hl [3, 4, 2, 1, 0] rfl) hP hS
    · skip
      have hb1 := ilN_le hdr hu (show k + 1 < 21 by omega)
      have hb2 := ilN_le hdr hu (show k < 21 by omega)
      refine lv_aload_n hx hb d_m_runs_21 rfl (lv_at hl 0 rfl) ?_
      refine lv_iload_n hx hb d_m_runs_22 rfl (lv_at hl 1 rfl) ?_
      refine lv_iload hx hb d_m_runs_23 (lv_at hl 4 rfl) ?_
      refine q_readV (n := 2) (As := [.int (nI u), .int (nI (k + 1))]) (rest := []) (wc := [(h, .inr (8, [.int (nI i0), .int (nI i1), .ref a2, .ref a3, .ref a4, .ref a5, .ref a6, .ref a7, .ref a8, .int (nI i9), .ref a10, .ref a11, .ref a12, .ref a13, .ref a14, .ref a15, .int (nI i16), .int (nI i17), .ref a18, .int (nI i19), .ref a20, .ref a21, .int (nI i22), .ref a23])), (a4, .inl (cI, 441, .inl (fun j => nI (dr j))))]) S (c_m_inLine l D cI cC h i0 i1 a2 a3 a4 a5 a6 a7 a8 i9 a10 a11 a12 a13 a14 a15 i16 i17 a18 i19 a20 a21 i22 a23 dr u (k + 1) (by omega) (by omega)) hK hP (q0 := 0) rfl rfl [0, 1] rfl (q_goodV kw_914 kw_916 ks_28 kw_10 kw_917) (by decide +kernel) rfl rfl rfl ⟨Nat.le_trans (Nat.le_of_ble_eq_true rfl) hRf, Nat.le_trans (Nat.le_of_ble_eq_true rfl) hRl⟩ rfl hl.1 rfl (Nat.le_of_ble_eq_true rfl) d_m_runs_25 hRc hS (fun H locs hP hS => ?_)
      refine lv_aload_n hx hb d_m_runs_28 rfl (lv_at hl 0 rfl) ?_
      refine lv_iload_n hx hb d_m_runs_29 rfl (lv_at hl 1 rfl) ?_
      refine lv_iload hx hb d_m_runs_30 (lv_at hl 4 rfl) ?_
      refine lv_iconst (v := nI 1) hx hb d_m_runs_32 (by decide) ?_
      refine n_isub hx hb d_m_runs_33 (by omega) ?_
      refine n_topn (show (k + 1) - 1 = k from (by omega)) ?_
      refine q_readV (n := 2) (As := [.int (nI u), .int (nI k)]) (rest := [.int (nI (ilN dr u (k + 1)))]) (wc := [(h, .inr (8, [.int (nI i0), .int (nI i1), .ref a2, .ref a3, .ref a4, .ref a5, .ref a6, .ref a7, .ref a8, .int (nI i9), .ref a10, .ref a11, .ref a12, .ref a13, .ref a14, .ref a15, .int (nI i16), .int (nI i17), .ref a18, .int (nI i19), .ref a20, .ref a21, .int (nI i22), .ref a23])), (a4, .inl (cI, 441, .inl (fun j => nI (dr j))))]) S (c_m_inLine l D cI cC h i0 i1 a2 a3 a4 a5 a6 a7 a8 i9 a10 a11 a12 a13 a14 a15 i16 i17 a18 i19 a20 a21 i22 a23 dr u k (by omega) (by omega)) hK hP (q0 := 0) rfl rfl [0, 1] rfl (q_goodV kw_914 kw_916 ks_28 kw_10 kw_917) (by decide +kernel) rfl rfl rfl ⟨Nat.le_trans (Nat.le_of_ble_eq_true rfl) hRf, Nat.le_trans (Nat.le_of_ble_eq_true rfl) hRl⟩ rfl hl.1 rfl (Nat.le_of_ble_eq_true rfl) d_m_runs_34 hRc hS (fun H locs hP hS => ?_)
      refine n_icmp_ne hx hb d_m_runs_37 (tgt := 46) rfl (by omega) (by omega) (fun g37 => ?_) (fun g37 => ?_)
      · skip
        refine lv_iload_n hx hb d_m_runs_46 rfl (lv_at hl 2 rfl) ?_
        refine lv_iload_n hx hb d_m_runs_47 rfl (lv_at hl 3 rfl) ?_
        refine lv_iconst (v := nI 5) hx hb d_m_runs_48 (by decide) ?_
        refine n_icmp_lt hx hb d_m_runs_49 (tgt := 58) rfl (by omega) (by omega) (fun g49 => ?_) (fun g49 => ?_)
        · skip
          refine lv_iconst (v := nI 0) hx hb d_m_runs_58 (by decide) ?_
          refine n_iadd hx hb d_m_runs_59 ?_
          refine n_topn (show ((rnL (ilN dr u) k).1) + 0 = (rnL (ilN dr u) (k + 1)).1 from (by first | exact (rnL_1f (by omega) g49).symm | exact (rnL_1g (by omega) g49).symm | exact (rnL_1h g37 g49).symm | exact (rnL_1i g37 g49).symm)) ?_
          refine lv_istore_n hx hb d_m_runs_60 rfl hl (Nat.le_of_ble_eq_true rfl) rfl (fun ls hl => ?_)
          have hl : lv_has ls 5 [(2, .int (nI ((rnL (ilN dr u) (k + 1)).1))), (0, .ref h), (1, .int (nI u)), (3, .int (nI ((rnL (ilN dr u) k).2))), (4, .int (nI (k + 1)))] := hl
          refine lv_iconst (v := nI 1) hx hb d_m_runs_61 (by decide) ?_
          refine n_topn (show 1 = (rnL (ilN dr u) (k + 1)).2 from (by first | exact (rnL_2f (by omega)).symm | exact (rnL_2g g37).symm)) ?_
          refine lv_istore_n hx hb d_m_runs_62 rfl hl (Nat.le_of_ble_eq_true rfl) rfl (fun ls hl => ?_)
          have hl : lv_has ls 5 [(3, .int (nI ((rnL (ilN dr u) (k + 1)).2))), (2, .int (nI ((rnL (ilN dr u) (k + 1)).1))), (0, .ref h), (1, .int (nI u)), (4, .int (nI (k + 1)))] := hl
          refine lv_iinc (k := 4) (v := nI (k + 1 + 1)) hx hb d_m_runs_63 hl rfl ((nx_inc (k + 1) 1).trans (congrArg nI rfl)) (Nat.le_of_ble_eq_true rfl) rfl (fun ls hl => ?_)
          have hl : lv_has ls 5 [(4, .int (nI (k + 1 + 1))), (3, .int (nI ((rnL (ilN dr u) (k + 1)).2))), (2, .int (nI ((rnL (ilN dr u) (k + 1)).1))), (0, .ref h), (1, .int (nI u))] := hl
          refine lv_goto hx hb d_m_runs_66 (tgt := 7) rfl ?_
          exact ih (by omega) ls H locs (lv_sub hl [3, 4, 2, 1, 0] rfl) hP hS
        · skip
          refine lv_iload_n hx hb d_m_runs_52 rfl (lv_at hl 3 rfl) ?_
          refine lv_iconst (v := nI 2) hx hb d_m_runs_53 (by decide) ?_
          refine n_isub hx hb d_m_runs_54 (by omega) ?_
          refine lv_goto hx hb d_m_runs_55 (tgt := 59) rfl ?_
          refine n_iadd hx hb d_m_runs_59 ?_
          refine n_topn (show ((rnL (ilN dr u) k).1) + (((rnL (ilN dr u) k).2) - 2) = (rnL (ilN dr u) (k + 1)).1 from (by first | exact (rnL_1f (by omega) g49).symm | exact (rnL_1g (by omega) g49).symm | exact (rnL_1h g37 g49).symm | exact (rnL_1i g37 g49).symm)) ?_
          refine lv_istore_n hx hb d_m_runs_60 rfl hl (Nat.le_of_ble_eq_true rfl) rfl (fun ls hl => ?_)
          have hl : lv_has ls 5 [(2, .int (nI ((rnL (ilN dr u) (k + 1)).1))), (0, .ref h), (1, .int (nI u)), (3, .int (nI ((rnL (ilN dr u) k).2))), (4, .int (nI (k + 1)))] := hl
          refine lv_iconst (v := nI 1) hx hb d_m_runs_61 (by decide) ?_
          refine n_topn (show 1 = (rnL (ilN dr u) (k + 1)).2 from (by first | exact (rnL_2f (by omega)).symm | exact (rnL_2g g37).symm)) ?_
          refine lv_istore_n hx hb d_m_runs_62 rfl hl (Nat.le_of_ble_eq_true rfl) rfl (fun ls hl => ?_)
          have hl : lv_has ls 5 [(3, .int (nI ((rnL (ilN dr u) (k + 1)).2))), (2, .int (nI ((rnL (ilN dr u) (k + 1)).1))), (0, .ref h), (1, .int (nI u)), (4, .int (nI (k + 1)))] := hl
          refine lv_iinc (k := 4) (v := nI (k + 1 + 1)) hx hb d_m_runs_63 hl rfl ((nx_inc (k + 1) 1).trans (congrArg nI rfl)) (Nat.le_of_ble_eq_true rfl) rfl (fun ls hl => ?_)
          have hl : lv_has ls 5 [(4, .int (nI (k + 1 + 1))), (3, .int (nI ((rnL (ilN dr u) (k + 1)).2))), (2, .int (nI ((rnL (ilN dr u) (k + 1)).1))), (0, .ref h), (1, .int (nI u))] := hl
          refine lv_goto hx hb d_m_runs_66 (tgt := 7) rfl ?_
          exact ih (by omega) ls H locs (lv_sub hl [3, 4, 2, 1, 0] rfl) hP hS
      · skip
        refine lv_iinc (k := 3) (v := nI ((rnL (ilN dr u) (k + 1)).2)) hx hb d_m_runs_40 hl rfl ((nx_inc ((rnL (ilN dr u) k).2) 1).trans (congrArg nI (rnL_2t (by omega) g37).symm)) (Nat.le_of_ble_eq_true rfl) rfl (fun ls hl => ?_)
        have hl : lv_has ls 5 [(3, .int (nI ((rnL (ilN dr u) (k + 1)).2))), (0, .ref h), (1, .int (nI u)), (2, .int (nI ((rnL (ilN dr u) k).1))), (4, .int (nI (k + 1)))] := hl
        refine lv_goto hx hb d_m_runs_43 (tgt := 63) rfl ?_
        refine lv_iinc (k := 4) (v := nI (k + 1 + 1)) hx hb d_m_runs_63 hl rfl ((nx_inc (k + 1) 1).trans (congrArg nI rfl)) (Nat.le_of_ble_eq_true rfl) rfl (fun ls hl => ?_)
        have hl : lv_has ls 5 [(4, .int (nI (k + 1 + 1))), (3, .int (nI ((rnL (ilN dr u) (k + 1)).2))), (0, .ref h), (1, .int (nI u)), (2, .int (nI ((rnL (ilN dr u) k).1)))] := hl
        refine lv_goto hx hb d_m_runs_66 (tgt := 7) rfl ?_
        have qb2 : (rnL (ilN dr u) k).1 = (rnL (ilN dr u) (k + 1)).1 := (rnL_1t (by omega) g37).symm
        exact ih (by omega) ls H locs (lv_re (l := [(0, .ref h), (1, .int (nI u)), (2, .int (nI ((rnL (ilN dr u) k).1))), (3, .int (nI ((rnL (ilN dr u) (k + 1)).2))), (4, .int (nI (k + 1 + 1)))]) (lv_sub hl [2, 3, 4, 1, 0] rfl) (by rw [qb2])) hP hS
set_option maxHeartbeats 1000000 in
set_option maxRecDepth 100000 in
theorem bd_m_runs (cI cC : ClassId) (h i0 i1 a2 a3 a4 a5 a6 a7 a8 i9 a10 a11 a12 a13 a14 a15 i16 i17 a18 i19 a20 a21 i22 a23 : Nat) (dr : Nat → Nat) (u : Nat) (hu : u < 42) (hdr : ∀ j, j < 441 → dr j ≤ 1) (S : CallFix p m c b_m_runs 5 s args (cd_m_runs :: WS) R_Model) (hRf : 1 ≤ R.frames) (hRl : 22 ≤ R.locals) (hRc : cells ≤ R.cells ∧ slots ≤ R.slots) (hK : va_K D classes [(cI, .int), (cC, .char)] s) (kr : ∀ (pc : Nat) (ls : Array Slot) (H : Heap) (locs : List Loc), decode b_m_runs pc = .ok (.ireturn, 1) → va_P D classes [(h, .inr (8, [.int (nI i0), .int (nI i1), .ref a2, .ref a3, .ref a4, .ref a5, .ref a6, .ref a7, .ref a8, .int (nI i9), .ref a10, .ref a11, .ref a12, .ref a13, .ref a14, .ref a15, .int (nI i16), .int (nI i17), .ref a18, .int (nI i19), .ref a20, .ref a21, .int (nI i22), .ref a23])), (a4, .inl (cI, 441, .inl (fun j => nI (dr j))))] H → va_S A H0 H locs → W p l e R s m args below meth c H locs cells slots Q (F0 m pc ls [.int (nI ((rnL (ilN dr u) 21).1))])) : ∀ (ls : Array Slot) (H : Heap) (locs : List Loc), lv_has ls 5 [(0, .ref h), (1, .int (nI u))] → va_P D classes [(h, .inr (8, [.int (nI i0), .int (nI i1), .ref a2, .ref a3, .ref a4, .ref a5, .ref a6, .ref a7, .ref a8, .int (nI i9), .ref a10, .ref a11, .ref a12, .ref a13, .ref a14, .ref a15, .int (nI i16), .int (nI i17), .ref a18, .int (nI i19), .ref a20, .ref a21, .int (nI i22), .ref a23])), (a4, .inl (cI, 441, .inl (fun j => nI (dr j))))] H → va_S A H0 H locs → W p l e R s m args below meth c H locs cells slots Q (F0 m 0 ls []) := by
  obtain ⟨hx, hb, hml, hown, hts⟩ := id S
  intro ls H locs hl hP hS
  refine lv_iconst (v := nI 0) hx hb d_m_runs_0 (by decide) ?_
  refine lv_istore_n hx hb d_m_runs_1 rfl hl (Nat.le_of_ble_eq_true rfl) rfl (fun ls hl => ?_)
  have hl : lv_has ls 5 [(2, .int (nI 0)), (0, .ref h), (1, .int (nI u))] := hl
  refine lv_iconst (v := nI 1) hx hb d_m_runs_2 (by decide) ?_
  refine lv_istore_n hx hb d_m_runs_3 rfl hl (Nat.le_of_ble_eq_true rfl) rfl (fun ls hl => ?_)
  have hl : lv_has ls 5 [(3, .int (nI 1)), (2, .int (nI 0)), (0, .ref h), (1, .int (nI u))] := hl
  refine lv_iconst (v := nI 1) hx hb d_m_runs_4 (by decide) ?_
  refine lv_istore hx hb d_m_runs_5 hl (Nat.le_of_ble_eq_true rfl) rfl (fun ls hl => ?_)
  have hl : lv_has ls 5 [(4, .int (nI 1)), (3, .int (nI 1)), (2, .int (nI 0)), (0, .ref h), (1, .int (nI u))] := hl
  refine lp_m_runs_7 cI cC h i0 i1 a2 a3 a4 a5 a6 a7 a8 i9 a10 a11 a12 a13 a14 a15 i16 i17 a18 i19 a20 a21 i22 a23 dr u hu hdr S hRf hRl hRc hK  (fun ls H locs hl hP hS => ?_) 0 (by omega) ls H locs (lv_sub hl [3, 4, 2, 1, 0] rfl) hP hS
  refine lv_iload_n hx hb d_m_runs_69 rfl (lv_at hl 2 rfl) ?_
  exact kr _ ls H locs d_m_runs_70 hP hS
set_option maxHeartbeats 1000000 in
set_option maxRecDepth 100000 in
theorem c_m_runs (l : Launch) (D : va_G) (cI cC : ClassId) (h i0 i1 a2 a3 a4 a5 a6 a7 a8 i9 a10 a11 a12 a13 a14 a15 i16 i17 a18 i19 a20 a21 i22 a23 : Nat) (dr : Nat → Nat) (u : Nat) (hu : u < 42) (hdr : ∀ j, j < 441 → dr j ≤ 1) : Met l y_m_runs (cd_m_runs :: WS) { frames := 1, cells := 0, slots := 0, locals := 22 } (va_Pc [.ref h, .int (nI u)] (rP D [(h, .inr (8, [.int (nI i0), .int (nI i1), .ref a2, .ref a3, .ref a4, .ref a5, .ref a6, .ref a7, .ref a8, .int (nI i9), .ref a10, .ref a11, .ref a12, .ref a13, .ref a14, .ref a15, .int (nI i16), .int (nI i17), .ref a18, .int (nI i19), .ref a20, .ref a21, .int (nI i22), .ref a23])), (a4, .inl (cI, 441, .inl (fun j => nI (dr j))))] [(cI, .int), (cC, .char)])) (pQ (nI ((rnL (ilN dr u) 21).1))) 0 0 noA := by
  refine Met.ofW (cc := b_m_runs) (maxL := 5) (ret := (some .int)) (by decide) rfl ?_
  intro p e s m args below meth c s₁ B hml hv0
  obtain ⟨rfl, hP, hK⟩ := hv0
  have hts := atoms_spec (ws := cd_m_runs :: WS) B.pre
  have hown : s.vm.findClass R_Model = some m.cls := findClass_of_methodNamed B.named
  have hlocks := B.notSynchronized
  have hl := lv_entry ([.ref h, .int (nI u)]) (n := 5) (Nat.le_of_ble_eq_true rfl)
  rw [lg_entry_eq]
  generalize (lg_sl ([.ref h, .int (nI u)]) ++ List.replicate (5 - (lg_sl ([.ref h, .int (nI u)])).length) Slot.unset).toArray = ls at hl ⊢
  refine bd_m_runs cI cC h i0 i1 a2 a3 a4 a5 a6 a7 a8 i9 a10 a11 a12 a13 a14 a15 i16 i17 a18 i19 a20 a21 i22 a23 dr u hu hdr ⟨B.exec, B.bytes, hml, hown, hts⟩ (Nat.le_refl _) (Nat.le_refl _) ⟨Nat.le_refl _, Nat.le_refl _⟩ hK (fun pc ls H locs hd hP hS => ?_) ls _ _ hl hP (va_S.rf (A := noA))
  exact W.iret B.exec B.bytes B.returns (fun t ht _ => ⟨⟨_, (), rfl, rfl, trivial⟩, hS.F ht⟩) hS.2.2 hd
end
section
theorem d_m_marks_0 : decode b_m_marks 0 = .ok (.iconst 0, 1) := by decide +kernel
theorem d_m_marks_1 : decode b_m_marks 1 = .ok (.istore_n 2, 1) := by decide +kernel
theorem d_m_marks_2 : decode b_m_marks 2 = .ok (.iconst 0, 1) := by decide +kernel
theorem d_m_marks_3 : decode b_m_marks 3 = .ok (.istore_n 3, 1) := by decide +kernel
theorem d_m_marks_4 : decode b_m_marks 4 = .ok (.iload_n 3, 1) := by decide +kernel
theorem d_m_marks_5 : decode b_m_marks 5 = .ok (.bipush 11, 2) := by decide +kernel
theorem d_m_marks_7 : decode b_m_marks 7 = .ok (.iadd, 1) := by decide +kernel
theorem d_m_marks_8 : decode b_m_marks 8 = .ok (.bipush 21, 2) := by decide +kernel
theorem d_m_marks_10 : decode b_m_marks 10 = .ok (.if_icmp .gt 68, 3) := by decide +kernel
theorem d_m_marks_13 : decode b_m_marks 13 = .ok (.iconst 0, 1) := by decide +kernel
theorem d_m_marks_14 : decode b_m_marks 14 = .ok (.istore 4, 2) := by decide +kernel
theorem d_m_marks_16 : decode b_m_marks 16 = .ok (.iconst 0, 1) := by decide +kernel
theorem d_m_marks_17 : decode b_m_marks 17 = .ok (.istore 5, 2) := by decide +kernel
theorem d_m_marks_19 : decode b_m_marks 19 = .ok (.iload 5, 2) := by decide +kernel
theorem d_m_marks_21 : decode b_m_marks 21 = .ok (.bipush 11, 2) := by decide +kernel
theorem d_m_marks_23 : decode b_m_marks 23 = .ok (.if_icmp .ge 25, 3) := by decide +kernel
theorem d_m_marks_26 : decode b_m_marks 26 = .ok (.iconst 2, 1) := by decide +kernel
theorem d_m_marks_27 : decode b_m_marks 27 = .ok (.iload 4, 2) := by decide +kernel
theorem d_m_marks_29 : decode b_m_marks 29 = .ok (.imul, 1) := by decide +kernel
theorem d_m_marks_30 : decode b_m_marks 30 = .ok (.aload_n 0, 1) := by decide +kernel
theorem d_m_marks_31 : decode b_m_marks 31 = .ok (.iload_n 1, 1) := by decide +kernel
theorem d_m_marks_32 : decode b_m_marks 32 = .ok (.iload_n 3, 1) := by decide +kernel
theorem d_m_marks_33 : decode b_m_marks 33 = .ok (.iload 5, 2) := by decide +kernel
theorem d_m_marks_35 : decode b_m_marks 35 = .ok (.iadd, 1) := by decide +kernel
theorem d_m_marks_36 : decode b_m_marks 36 = .ok (.invokevirtual 127, 3) := by decide +kernel
theorem d_m_marks_39 : decode b_m_marks 39 = .ok (.iadd, 1) := by decide +kernel
theorem d_m_marks_40 : decode b_m_marks 40 = .ok (.istore 4, 2) := by decide +kernel
theorem d_m_marks_42 : decode b_m_marks 42 = .ok (.iinc 5 1, 3) := by decide +kernel
theorem d_m_marks_45 : decode b_m_marks 45 = .ok (.goto (-26), 3) := by decide +kernel
theorem d_m_marks_48 : decode b_m_marks 48 = .ok (.iload_n 2, 1) := by decide +kernel
theorem d_m_marks_49 : decode b_m_marks 49 = .ok (.iload 4, 2) := by decide +kernel
theorem d_m_marks_51 : decode b_m_marks 51 = .ok (.sipush 1488, 3) := by decide +kernel
theorem d_m_marks_54 : decode b_m_marks 54 = .ok (.if_icmp .eq 10, 3) := by decide +kernel
theorem d_m_marks_57 : decode b_m_marks 57 = .ok (.iload 4, 2) := by decide +kernel
theorem d_m_marks_59 : decode b_m_marks 59 = .ok (.bipush 93, 2) := by decide +kernel
theorem d_m_marks_61 : decode b_m_marks 61 = .ok (.if_icmp .ne 8, 3) := by decide +kernel
theorem d_m_marks_64 : decode b_m_marks 64 = .ok (.bipush 40, 2) := by decide +kernel
theorem d_m_marks_66 : decode b_m_marks 66 = .ok (.goto 4, 3) := by decide +kernel
theorem d_m_marks_69 : decode b_m_marks 69 = .ok (.iconst 0, 1) := by decide +kernel
theorem d_m_marks_70 : decode b_m_marks 70 = .ok (.iadd, 1) := by decide +kernel
theorem d_m_marks_71 : decode b_m_marks 71 = .ok (.istore_n 2, 1) := by decide +kernel
theorem d_m_marks_72 : decode b_m_marks 72 = .ok (.iinc 3 1, 3) := by decide +kernel
theorem d_m_marks_75 : decode b_m_marks 75 = .ok (.goto (-71), 3) := by decide +kernel
theorem d_m_marks_78 : decode b_m_marks 78 = .ok (.iload_n 2, 1) := by decide +kernel
theorem d_m_marks_79 : decode b_m_marks 79 = .ok (.ireturn, 1) := by decide +kernel
end
section
variable {p : Program} {l : Launch} {e : Env} {R : Room} {s : State} {m : MethodId} {args : Array Value} {below : List Frame} {meth : Method} {c : Code} {cells slots : Nat} {Q : State → Prop} {A : Nat → Prop} {H0 : Heap} {D : va_G}
set_option maxHeartbeats 1000000 in
set_option maxRecDepth 100000 in
theorem lp_m_marks_19 (cI cC : ClassId) (h i0 i1 a2 a3 a4 a5 a6 a7 a8 i9 a10 a11 a12 a13 a14 a15 i16 i17 a18 i19 a20 a21 i22 a23 : Nat) (dr : Nat → Nat) (u : Nat) (hu : u < 42) (hdr : ∀ j, j < 441 → dr j ≤ 1) (S : CallFix p m c b_m_marks 6 s args (cd_m_marks :: WS) R_Model) (hRf : 1 ≤ R.frames) (hRl : 22 ≤ R.locals) (hRc : cells ≤ R.cells ∧ slots ≤ R.slots) (hK : va_K D classes [(cI, .int), (cC, .char)] s) (k : Nat) (hk : k < 11) (kx : ∀ (ls : Array Slot) (H : Heap) (locs : List Loc), lv_has ls 6 [(0, .ref h), (1, .int (nI u)), (2, .int (nI (mkL (ilN dr u) k))), (3, .int (nI k)), (4, .int (nI (mvL (ilN dr u) k 11))), (5, .int (nI 11))] → va_P D classes [(h, .inr (8, [.int (nI i0), .int (nI i1), .ref a2, .ref a3, .ref a4, .ref a5, .ref a6, .ref a7, .ref a8, .int (nI i9), .ref a10, .ref a11, .ref a12, .ref a13, .ref a14, .ref a15, .int (nI i16), .int (nI i17), .ref a18, .int (nI i19), .ref a20, .ref a21, .int (nI i22), .ref a23])), (a4, .inl (cI, 441, .inl (fun j => nI (dr j))))] H → va_S A H0 H locs → W p l e R s m args below meth c H locs cells slots Q (F0 m 48 ls [])) :
    ∀ j, j ≤ 11 → ∀ (ls : Array Slot) (H : Heap) (locs : List Loc), lv_has ls 6 [(0, .ref h), (1, .int (nI u)), (2, .int (nI (mkL (ilN dr u) k))), (3, .int (nI k)), (4, .int (nI (mvL (ilN dr u) k j))), (5, .int (nI j))] → va_P D classes [(h, .inr (8, [.int (nI i0), .int (nI i1), .ref a2, .ref a3, .ref a4, .ref a5, .ref a6, .ref a7, .ref a8, .int (nI i9), .ref a10, .ref a11, .ref a12, .ref a13, .ref a14, .ref a15, .int (nI i16), .int (nI i17), .ref a18, .int (nI i19), .ref a20, .ref a21, .int (nI i22), .ref a23])), (a4, .inl (cI, 441, .inl (fun j => nI (dr j))))] H → va_S A H0 H locs → W p l e R s m args below meth c H locs cells slots Q (F0 m 19 ls []) := by
  obtain ⟨hx, hb, hml, hown, hts⟩ := id S
  refine up_loop (fun j hkj ih => ?_)
  intro ls H locs hl hP hS
  refine lv_iload hx hb d_m_marks_19 (lv_at hl 5 rfl) ?_
  refine lv_bipush (v := nI 11) hx hb d_m_marks_21 (by decide) ?_
  refine n_icmp_ge hx hb d_m_marks_23 (tgt := 48) rfl (by omega) (by omega) (fun g23 => ?_) (fun g23 => ?_)
  · skip
    obtain rfl : j = 11 := by omega
    exact kx ls H locs (lv_sub hl [0, 1, 2, 3, 4, 5] rfl) hP hS
  · skip
    refine lv_iconst (v := nI 2) hx hb d_m_marks_26 (by decide) ?_
    refine lv_iload hx hb d_m_marks_27 (lv_at hl 4 rfl) ?_
    refine n_imul hx hb d_m_marks_29 ?_
    refine lv_aload_n hx hb d_m_marks_30 rfl (lv_at hl 0 rfl) ?_
    refine lv_iload_n hx hb d_m_marks_31 rfl (lv_at hl 1 rfl) ?_
    refine lv_iload_n hx hb d_m_marks_32 rfl (lv_at hl 3 rfl) ?_
    refine lv_iload hx hb d_m_marks_33 (lv_at hl 5 rfl) ?_
    refine n_iadd hx hb d_m_marks_35 ?_
    refine q_readV (n := 2) (As := [.int (nI u), .int (nI (k + j))]) (rest := [.int (nI (2 * (mvL (ilN dr u) k j)))]) (wc := [(h, .inr (8, [.int (nI i0), .int (nI i1), .ref a2, .ref a3, .ref a4, .ref a5, .ref a6, .ref a7, .ref a8, .int (nI i9), .ref a10, .ref a11, .ref a12, .ref a13, .ref a14, .ref a15, .int (nI i16), .int (nI i17), .ref a18, .int (nI i19), .ref a20, .ref a21, .int (nI i22), .ref a23])), (a4, .inl (cI, 441, .inl (fun j => nI (dr j))))]) S (c_m_inLine l D cI cC h i0 i1 a2 a3 a4 a5 a6 a7 a8 i9 a10 a11 a12 a13 a14 a15 i16 i17 a18 i19 a20 a21 i22 a23 dr u (k + j) (by omega) (by omega)) hK hP (q0 := 0) rfl rfl [0, 1] rfl (q_goodV kw_914 kw_916 ks_28 kw_10 kw_917) (by decide +kernel) rfl rfl rfl ⟨Nat.le_trans (Nat.le_of_ble_eq_true rfl) hRf, Nat.le_trans (Nat.le_of_ble_eq_true rfl) hRl⟩ rfl hl.1 rfl (Nat.le_of_ble_eq_true rfl) d_m_marks_36 hRc hS (fun H locs hP hS => ?_)
    refine n_iadd hx hb d_m_marks_39 ?_
    refine n_topn (show (2 * (mvL (ilN dr u) k j)) + (ilN dr u (k + j)) = mvL (ilN dr u) k (j + 1) from rfl) ?_
    refine lv_istore hx hb d_m_marks_40 hl (Nat.le_of_ble_eq_true rfl) rfl (fun ls hl => ?_)
    have hl : lv_has ls 6 [(4, .int (nI (mvL (ilN dr u) k (j + 1)))), (0, .ref h), (1, .int (nI u)), (2, .int (nI (mkL (ilN dr u) k))), (3, .int (nI k)), (5, .int (nI j))] := hl
    refine lv_iinc (k := 5) (v := nI (j + 1)) hx hb d_m_marks_42 hl rfl (nx_inc j 1) (Nat.le_of_ble_eq_true rfl) rfl (fun ls hl => ?_)
    have hl : lv_has ls 6 [(5, .int (nI (j + 1))), (4, .int (nI (mvL (ilN dr u) k (j + 1)))), (0, .ref h), (1, .int (nI u)), (2, .int (nI (mkL (ilN dr u) k))), (3, .int (nI k))] := hl
    refine lv_goto hx hb d_m_marks_45 (tgt := 19) rfl ?_
    exact ih (by omega) ls H locs (lv_sub hl [2, 3, 4, 5, 1, 0] rfl) hP hS
set_option maxHeartbeats 1000000 in
set_option maxRecDepth 100000 in
theorem lp_m_marks_4 (cI cC : ClassId) (h i0 i1 a2 a3 a4 a5 a6 a7 a8 i9 a10 a11 a12 a13 a14 a15 i16 i17 a18 i19 a20 a21 i22 a23 : Nat) (dr : Nat → Nat) (u : Nat) (hu : u < 42) (hdr : ∀ j, j < 441 → dr j ≤ 1) (S : CallFix p m c b_m_marks 6 s args (cd_m_marks :: WS) R_Model) (hRf : 1 ≤ R.frames) (hRl : 22 ≤ R.locals) (hRc : cells ≤ R.cells ∧ slots ≤ R.slots) (hK : va_K D classes [(cI, .int), (cC, .char)] s) (kx : ∀ (ls : Array Slot) (H : Heap) (locs : List Loc), lv_has ls 6 [(0, .ref h), (1, .int (nI u)), (2, .int (nI (mkL (ilN dr u) 11))), (3, .int (nI 11))] → va_P D classes [(h, .inr (8, [.int (nI i0), .int (nI i1), .ref a2, .ref a3, .ref a4, .ref a5, .ref a6, .ref a7, .ref a8, .int (nI i9), .ref a10, .ref a11, .ref a12, .ref a13, .ref a14, .ref a15, .int (nI i16), .int (nI i17), .ref a18, .int (nI i19), .ref a20, .ref a21, .int (nI i22), .ref a23])), (a4, .inl (cI, 441, .inl (fun j => nI (dr j))))] H → va_S A H0 H locs → W p l e R s m args below meth c H locs cells slots Q (F0 m 78 ls [])) :
    ∀ k, k ≤ 11 → ∀ (ls : Array Slot) (H : Heap) (locs : List Loc), lv_has ls 6 [(0, .ref h), (1, .int (nI u)), (2, .int (nI (mkL (ilN dr u) k))), (3, .int (nI k))] → va_P D classes [(h, .inr (8, [.int (nI i0), .int (nI i1), .ref a2, .ref a3, .ref a4, .ref a5, .ref a6, .ref a7, .ref a8, .int (nI i9), .ref a10, .ref a11, .ref a12, .ref a13, .ref a14, .ref a15, .int (nI i16), .int (nI i17), .ref a18, .int (nI i19), .ref a20, .ref a21, .int (nI i22), .ref a23])), (a4, .inl (cI, 441, .inl (fun j => nI (dr j))))] H → va_S A H0 H locs → W p l e R s m args below meth c H locs cells slots Q (F0 m 4 ls []) := by
  obtain ⟨hx, hb, hml, hown, hts⟩ := id S
  refine up_loop (fun k hkk ih => ?_)
  intro ls H locs hl hP hS
  refine lv_iload_n hx hb d_m_marks_4 rfl (lv_at hl 3 rfl) ?_
  refine lv_bipush (v := nI 11) hx hb d_m_marks_5 (by decide) ?_
  refine n_iadd hx hb d_m_marks_7 ?_
  refine lv_bipush (v := nI 21) hx hb d_m_marks_8 (by decide) ?_
  refine n_icmp_gt hx hb d_m_marks_10 (tgt := 78) rfl (by omega) (by omega) (fun g10 => ?_) (fun g10 => ?_)
  · skip
    obtain rfl : k = 11 := by omega
    exact kx ls H locs (lv_sub hl [0, 1, 2, 3] rfl) hP hS
  · skip
    refine lv_iconst (v := nI 0) hx hb d_m_marks_13 (by decide) ?_
    refine lv_istore hx hb d_m_marks_14 hl (Nat.le_of_ble_eq_true rfl) rfl (fun ls hl => ?_)
    have hl : lv_has ls 6 [(4, .int (nI 0)), (0, .ref h), (1, .int (nI u)), (2, .int (nI (mkL (ilN dr u) k))), (3, .int (nI k))] := hl
    refine lv_iconst (v := nI 0) hx hb d_m_marks_16 (by decide) ?_
    refine lv_istore hx hb d_m_marks_17 hl (Nat.le_of_ble_eq_true rfl) rfl (fun ls hl => ?_)
    have hl : lv_has ls 6 [(5, .int (nI 0)), (4, .int (nI 0)), (0, .ref h), (1, .int (nI u)), (2, .int (nI (mkL (ilN dr u) k))), (3, .int (nI k))] := hl
    refine lp_m_marks_19 cI cC h i0 i1 a2 a3 a4 a5 a6 a7 a8 i9 a10 a11 a12 a13 a14 a15 i16 i17 a18 i19 a20 a21 i22 a23 dr u hu hdr S hRf hRl hRc hK k (by omega) (fun ls H locs hl hP hS => ?_) 0 (by omega) ls H locs (lv_sub hl [2, 3, 4, 5, 1, 0] rfl) hP hS
    have hmv := mvL_lt (f := ilN dr u) (k := k) (fun j hj => ilN_le hdr hu (show k + j < 21 by omega)) 11 (by omega)
    refine lv_iload_n hx hb d_m_marks_48 rfl (lv_at hl 2 rfl) ?_
    refine lv_iload hx hb d_m_marks_49 (lv_at hl 4 rfl) ?_
    refine lv_sipush (v := nI 1488) hx hb d_m_marks_51 (by decide) ?_
    refine n_icmp_eq hx hb d_m_marks_54 (tgt := 64) rfl (by omega) (by omega) (fun g54 => ?_) (fun g54 => ?_)
    · skip
      refine lv_bipush (v := nI 40) hx hb d_m_marks_64 (by decide) ?_
      refine lv_goto hx hb d_m_marks_66 (tgt := 70) rfl ?_
      refine n_iadd hx hb d_m_marks_70 ?_
      refine n_topn (show (mkL (ilN dr u) k) + 40 = mkL (ilN dr u) (k + 1) from (by first | exact (mkL_t g54).symm | exact (mkL_u g61).symm | exact (mkL_f g54 g61).symm)) ?_
      refine lv_istore_n hx hb d_m_marks_71 rfl hl (Nat.le_of_ble_eq_true rfl) rfl (fun ls hl => ?_)
      have hl : lv_has ls 6 [(2, .int (nI (mkL (ilN dr u) (k + 1)))), (0, .ref h), (1, .int (nI u)), (3, .int (nI k)), (4, .int (nI (mvL (ilN dr u) k 11))), (5, .int (nI 11))] := hl
      refine lv_iinc (k := 3) (v := nI (k + 1)) hx hb d_m_marks_72 hl rfl (nx_inc k 1) (Nat.le_of_ble_eq_true rfl) rfl (fun ls hl => ?_)
      have hl : lv_has ls 6 [(3, .int (nI (k + 1))), (2, .int (nI (mkL (ilN dr u) (k + 1)))), (0, .ref h), (1, .int (nI u)), (4, .int (nI (mvL (ilN dr u) k 11))), (5, .int (nI 11))] := hl
      refine lv_goto hx hb d_m_marks_75 (tgt := 4) rfl ?_
      exact ih (by omega) ls H locs (lv_sub hl [2, 3, 1, 0] rfl) hP hS
    · skip
      refine lv_iload hx hb d_m_marks_57 (lv_at hl 4 rfl) ?_
      refine lv_bipush (v := nI 93) hx hb d_m_marks_59 (by decide) ?_
      refine n_icmp_ne hx hb d_m_marks_61 (tgt := 69) rfl (by omega) (by omega) (fun g61 => ?_) (fun g61 => ?_)
      · skip
        refine lv_iconst (v := nI 0) hx hb d_m_marks_69 (by decide) ?_
        refine n_iadd hx hb d_m_marks_70 ?_
        refine n_topn (show (mkL (ilN dr u) k) + 0 = mkL (ilN dr u) (k + 1) from (by first | exact (mkL_t g54).symm | exact (mkL_u g61).symm | exact (mkL_f g54 g61).symm)) ?_
        refine lv_istore_n hx hb d_m_marks_71 rfl hl (Nat.le_of_ble_eq_true rfl) rfl (fun ls hl => ?_)
        have hl : lv_has ls 6 [(2, .int (nI (mkL (ilN dr u) (k + 1)))), (0, .ref h), (1, .int (nI u)), (3, .int (nI k)), (4, .int (nI (mvL (ilN dr u) k 11))), (5, .int (nI 11))] := hl
        refine lv_iinc (k := 3) (v := nI (k + 1)) hx hb d_m_marks_72 hl rfl (nx_inc k 1) (Nat.le_of_ble_eq_true rfl) rfl (fun ls hl => ?_)
        have hl : lv_has ls 6 [(3, .int (nI (k + 1))), (2, .int (nI (mkL (ilN dr u) (k + 1)))), (0, .ref h), (1, .int (nI u)), (4, .int (nI (mvL (ilN dr u) k 11))), (5, .int (nI 11))] := hl
        refine lv_goto hx hb d_m_marks_75 (tgt := 4) rfl ?_
        exact ih (by omega) ls H locs (lv_sub hl [2, 3, 1, 0] rfl) hP hS
      · skip
        refine lv_bipush (v := nI 40) hx hb d_m_marks_64 (by decide) ?_
        refine lv_goto hx hb d_m_marks_66 (tgt := 70) rfl ?_
        refine n_iadd hx hb d_m_marks_70 ?_
        refine n_topn (show (mkL (ilN dr u) k) + 40 = mkL (ilN dr u) (k + 1) from (by first | exact (mkL_t g54).symm | exact (mkL_u g61).symm | exact (mkL_f g54 g61).symm)) ?_
        refine lv_istore_n hx hb d_m_marks_71 rfl hl (Nat.le_of_ble_eq_true rfl) rfl (fun ls hl => ?_)
        have hl : lv_has ls 6 [(2, .int (nI (mkL (ilN dr u) (k + 1)))), (0, .ref h), (1, .int (nI u)), (3, .int (nI k)), (4, .int (nI (mvL (ilN dr u) k 11))), (5, .int (nI 11))] := hl
        refine lv_iinc (k := 3) (v := nI (k + 1)) hx hb d_m_marks_72 hl rfl (nx_inc k 1) (Nat.le_of_ble_eq_true rfl) rfl (fun ls hl => ?_)
        have hl : lv_has ls 6 [(3, .int (nI (k + 1))), (2, .int (nI (mkL (ilN dr u) (k + 1)))), (0, .ref h), (1, .int (nI u)), (4, .int (nI (mvL (ilN dr u) k 11))), (5, .int (nI 11))] := hl
        refine lv_goto hx hb d_m_marks_75 (tgt := 4) rfl ?_
        exact ih (by omega) ls H locs (lv_sub hl [2, 3, 1, 0] rfl) hP hS
set_option maxHeartbeats 1000000 in
set_option maxRecDepth 100000 in
theorem bd_m_marks (cI cC : ClassId) (h i0 i1 a2 a3 a4 a5 a6 a7 a8 i9 a10 a11 a12 a13 a14 a15 i16 i17 a18 i19 a20 a21 i22 a23 : Nat) (dr : Nat → Nat) (u : Nat) (hu : u < 42) (hdr : ∀ j, j < 441 → dr j ≤ 1) (S : CallFix p m c b_m_marks 6 s args (cd_m_marks :: WS) R_Model) (hRf : 1 ≤ R.frames) (hRl : 22 ≤ R.locals) (hRc : cells ≤ R.cells ∧ slots ≤ R.slots) (hK : va_K D classes [(cI, .int), (cC, .char)] s) (kr : ∀ (pc : Nat) (ls : Array Slot) (H : Heap) (locs : List Loc), decode b_m_marks pc = .ok (.ireturn, 1) → va_P D classes [(h, .inr (8, [.int (nI i0), .int (nI i1), .ref a2, .ref a3, .ref a4, .ref a5, .ref a6, .ref a7, .ref a8, .int (nI i9), .ref a10, .ref a11, .ref a12, .ref a13, .ref a14, .ref a15, .int (nI i16), .int (nI i17), .ref a18, .int (nI i19), .ref a20, .ref a21, .int (nI i22), .ref a23])), (a4, .inl (cI, 441, .inl (fun j => nI (dr j))))] H → va_S A H0 H locs → W p l e R s m args below meth c H locs cells slots Q (F0 m pc ls [.int (nI (mkL (ilN dr u) 11))])) : ∀ (ls : Array Slot) (H : Heap) (locs : List Loc), lv_has ls 6 [(0, .ref h), (1, .int (nI u))] → va_P D classes [(h, .inr (8, [.int (nI i0), .int (nI i1), .ref a2, .ref a3, .ref a4, .ref a5, .ref a6, .ref a7, .ref a8, .int (nI i9), .ref a10, .ref a11, .ref a12, .ref a13, .ref a14, .ref a15, .int (nI i16), .int (nI i17), .ref a18, .int (nI i19), .ref a20, .ref a21, .int (nI i22), .ref a23])), (a4, .inl (cI, 441, .inl (fun j => nI (dr j))))] H → va_S A H0 H locs → W p l e R s m args below meth c H locs cells slots Q (F0 m 0 ls []) := by
  obtain ⟨hx, hb, hml, hown, hts⟩ := id S
  intro ls H locs hl hP hS
  refine lv_iconst (v := nI 0) hx hb d_m_marks_0 (by decide) ?_
  refine lv_istore_n hx hb d_m_marks_1 rfl hl (Nat.le_of_ble_eq_true rfl) rfl (fun ls hl => ?_)
  have hl : lv_has ls 6 [(2, .int (nI 0)), (0, .ref h), (1, .int (nI u))] := hl
  refine lv_iconst (v := nI 0) hx hb d_m_marks_2 (by decide) ?_
  refine lv_istore_n hx hb d_m_marks_3 rfl hl (Nat.le_of_ble_eq_true rfl) rfl (fun ls hl => ?_)
  have hl : lv_has ls 6 [(3, .int (nI 0)), (2, .int (nI 0)), (0, .ref h), (1, .int (nI u))] := hl
  refine lp_m_marks_4 cI cC h i0 i1 a2 a3 a4 a5 a6 a7 a8 i9 a10 a11 a12 a13 a14 a15 i16 i17 a18 i19 a20 a21 i22 a23 dr u hu hdr S hRf hRl hRc hK  (fun ls H locs hl hP hS => ?_) 0 (by omega) ls H locs (lv_sub hl [2, 3, 1, 0] rfl) hP hS
  refine lv_iload_n hx hb d_m_marks_78 rfl (lv_at hl 2 rfl) ?_
  exact kr _ ls H locs d_m_marks_79 hP hS
set_option maxHeartbeats 1000000 in
set_option maxRecDepth 100000 in
theorem c_m_marks (l : Launch) (D : va_G) (cI cC : ClassId) (h i0 i1 a2 a3 a4 a5 a6 a7 a8 i9 a10 a11 a12 a13 a14 a15 i16 i17 a18 i19 a20 a21 i22 a23 : Nat) (dr : Nat → Nat) (u : Nat) (hu : u < 42) (hdr : ∀ j, j < 441 → dr j ≤ 1) : Met l y_m_marks (cd_m_marks :: WS) { frames := 1, cells := 0, slots := 0, locals := 22 } (va_Pc [.ref h, .int (nI u)] (rP D [(h, .inr (8, [.int (nI i0), .int (nI i1), .ref a2, .ref a3, .ref a4, .ref a5, .ref a6, .ref a7, .ref a8, .int (nI i9), .ref a10, .ref a11, .ref a12, .ref a13, .ref a14, .ref a15, .int (nI i16), .int (nI i17), .ref a18, .int (nI i19), .ref a20, .ref a21, .int (nI i22), .ref a23])), (a4, .inl (cI, 441, .inl (fun j => nI (dr j))))] [(cI, .int), (cC, .char)])) (pQ (nI (mkL (ilN dr u) 11))) 0 0 noA := by
  refine Met.ofW (cc := b_m_marks) (maxL := 6) (ret := (some .int)) (by decide) rfl ?_
  intro p e s m args below meth c s₁ B hml hv0
  obtain ⟨rfl, hP, hK⟩ := hv0
  have hts := atoms_spec (ws := cd_m_marks :: WS) B.pre
  have hown : s.vm.findClass R_Model = some m.cls := findClass_of_methodNamed B.named
  have hlocks := B.notSynchronized
  have hl := lv_entry ([.ref h, .int (nI u)]) (n := 6) (Nat.le_of_ble_eq_true rfl)
  rw [lg_entry_eq]
  generalize (lg_sl ([.ref h, .int (nI u)]) ++ List.replicate (6 - (lg_sl ([.ref h, .int (nI u)])).length) Slot.unset).toArray = ls at hl ⊢
  refine bd_m_marks cI cC h i0 i1 a2 a3 a4 a5 a6 a7 a8 i9 a10 a11 a12 a13 a14 a15 i16 i17 a18 i19 a20 a21 i22 a23 dr u hu hdr ⟨B.exec, B.bytes, hml, hown, hts⟩ (Nat.le_refl _) (Nat.le_refl _) ⟨Nat.le_refl _, Nat.le_refl _⟩ hK (fun pc ls H locs hd hP hS => ?_) ls _ _ hl hP (va_S.rf (A := noA))
  exact W.iret B.exec B.bytes B.returns (fun t ht _ => ⟨⟨_, (), rfl, rfl, trivial⟩, hS.F ht⟩) hS.2.2 hd
end
