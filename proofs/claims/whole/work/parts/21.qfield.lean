theorem kw_101 : (Jvm.Cond.fieldLink "SquareCodes$Field" (9 : Nat) "SquareCodes$Field" "powers" "[I") ∈ WS := WS_tbl 101 (by decide +kernel) rfl
theorem kw_102 : (Jvm.Cond.fieldLink "SquareCodes$Field" (13 : Nat) "SquareCodes$Field" "logs" "[I") ∈ WS := WS_tbl 102 (by decide +kernel) rfl
theorem kw_537 : (Jvm.Cond.methodLink "SquareCodes$Field" (16 : Nat) ({ cls := "java/lang/Math", name := "floorMod", desc := "(II)I" } : Jvm.MethodName)) ∈ WS := WS_tbl 537 (by decide +kernel) rfl
theorem kw_538 : (Jvm.Cond.static ({ cls := "java/lang/Math", name := "floorMod", desc := "(II)I" } : Jvm.MethodName)) ∈ WS := WS_tbl 538 (by decide +kernel) rfl
theorem kw_19 : (Jvm.Cond.initialized "java/lang/Math") ∈ WS := WS_tbl 19 (by decide +kernel) rfl
set_option maxRecDepth 1000000 in
theorem kw_539 : cd_j_Math_floorMod ∈ WS := WS_tbl 539 rfl rfl
theorem kw_42 : (Jvm.Cond.fieldLink "SquareCodes$Grid" (9 : Nat) "SquareCodes$Grid" "rows" "[I") ∈ WS := WS_tbl 42 (by decide +kernel) rfl
theorem kw_274 : (Jvm.Cond.methodLink "SquareCodes$Grid" (35 : Nat) ({ cls := "SquareCodes$Grid", name := "at", desc := "(II)I" } : Jvm.MethodName)) ∈ WS := WS_tbl 274 (by decide +kernel) rfl
theorem kw_227 : (Jvm.Cond.instanceMethod ({ cls := "SquareCodes$Grid", name := "at", desc := "(II)I" } : Jvm.MethodName)) ∈ WS := WS_tbl 227 (by decide +kernel) rfl
theorem kw_228 : (Jvm.Cond.selects "SquareCodes$Grid" ({ cls := "SquareCodes$Grid", name := "at", desc := "(II)I" } : Jvm.MethodName) ({ cls := "SquareCodes$Grid", name := "at", desc := "(II)I" } : Jvm.MethodName)) ∈ WS := WS_tbl 228 (by decide +kernel) rfl
set_option maxRecDepth 1000000 in
theorem kw_229 : cd_q_Grid_at ∈ WS := WS_tbl 229 rfl rfl
section
theorem d_j_Math_floorMod_0 : decode b_j_Math_floorMod 0 = .ok (.iload_n 0, 1) := by decide +kernel
theorem d_j_Math_floorMod_1 : decode b_j_Math_floorMod 1 = .ok (.iload_n 1, 1) := by decide +kernel
theorem d_j_Math_floorMod_2 : decode b_j_Math_floorMod 2 = .ok (.irem, 1) := by decide +kernel
theorem d_j_Math_floorMod_3 : decode b_j_Math_floorMod 3 = .ok (.istore_n 2, 1) := by decide +kernel
theorem d_j_Math_floorMod_4 : decode b_j_Math_floorMod 4 = .ok (.iload_n 0, 1) := by decide +kernel
theorem d_j_Math_floorMod_5 : decode b_j_Math_floorMod 5 = .ok (.iload_n 1, 1) := by decide +kernel
theorem d_j_Math_floorMod_6 : decode b_j_Math_floorMod 6 = .ok (.ixor, 1) := by decide +kernel
theorem d_j_Math_floorMod_7 : decode b_j_Math_floorMod 7 = .ok (.ifCond .ge 11, 3) := by decide +kernel
theorem d_j_Math_floorMod_10 : decode b_j_Math_floorMod 10 = .ok (.iload_n 2, 1) := by decide +kernel
theorem d_j_Math_floorMod_11 : decode b_j_Math_floorMod 11 = .ok (.ifCond .eq 7, 3) := by decide +kernel
theorem d_j_Math_floorMod_14 : decode b_j_Math_floorMod 14 = .ok (.iload_n 2, 1) := by decide +kernel
theorem d_j_Math_floorMod_15 : decode b_j_Math_floorMod 15 = .ok (.iload_n 1, 1) := by decide +kernel
theorem d_j_Math_floorMod_16 : decode b_j_Math_floorMod 16 = .ok (.iadd, 1) := by decide +kernel
theorem d_j_Math_floorMod_17 : decode b_j_Math_floorMod 17 = .ok (.ireturn, 1) := by decide +kernel
theorem d_j_Math_floorMod_18 : decode b_j_Math_floorMod 18 = .ok (.iload_n 2, 1) := by decide +kernel
theorem d_j_Math_floorMod_19 : decode b_j_Math_floorMod 19 = .ok (.ireturn, 1) := by decide +kernel
end
section
variable {p : Program} {l : Launch} {e : Env} {R : Room} {s : State} {m : MethodId} {args : Array Value} {below : List Frame} {meth : Method} {c : Code} {cells slots : Nat} {Q : State → Prop} {A : Nat → Prop} {H0 : Heap} {D : va_G}
set_option maxHeartbeats 1000000 in
set_option maxRecDepth 100000 in
theorem bd_j_Math_floorMod_pos (a : Nat) (ha : a < 100000) (S : CallFix p m c b_j_Math_floorMod 3 s args (cd_j_Math_floorMod :: WS) R_java_lang_Math) (hRf : 0 ≤ R.frames) (hRl : 0 ≤ R.locals) (hRc : cells ≤ R.cells ∧ slots ≤ R.slots) (kr : ∀ (pc : Nat) (ls : Array Slot) (H : Heap) (locs : List Loc), decode b_j_Math_floorMod pc = .ok (.ireturn, 1) → va_S A H0 H locs → W p l e R s m args below meth c H locs cells slots Q (F0 m pc ls [.int (nI (a % 255))])) : ∀ (ls : Array Slot) (H : Heap) (locs : List Loc), lv_has ls 3 [(0, .int (nI a)), (1, .int (nI 255))] → va_S A H0 H locs → W p l e R s m args below meth c H locs cells slots Q (F0 m 0 ls []) := by
  obtain ⟨hx, hb, hml, hown, hts⟩ := id S
  intro ls H locs hl hS
  refine lv_iload_n hx hb d_j_Math_floorMod_0 rfl (lv_at hl 0 rfl) ?_
  refine lv_iload_n hx hb d_j_Math_floorMod_1 rfl (lv_at hl 1 rfl) ?_
  refine n_irem hx hb d_j_Math_floorMod_2 (by omega) (by omega) (by omega) ?_
  refine lv_istore_n hx hb d_j_Math_floorMod_3 rfl hl (Nat.le_of_ble_eq_true rfl) rfl (fun ls hl => ?_)
  have hl : lv_has ls 3 [(2, .int (nI (a % 255))), (0, .int (nI a)), (1, .int (nI 255))] := hl
  refine lv_iload_n hx hb d_j_Math_floorMod_4 rfl (lv_at hl 1 rfl) ?_
  refine lv_iload_n hx hb d_j_Math_floorMod_5 rfl (lv_at hl 2 rfl) ?_
  refine n_ixor hx hb d_j_Math_floorMod_6 ?_
  refine n_if_ge hx hb d_j_Math_floorMod_7 (tgt := 18) rfl (Nat.lt_trans (Nat.xor_lt_two_pow (n := 17) (Nat.lt_trans ha (by decide)) (by decide)) (by decide)) ?_
  refine lv_iload_n hx hb d_j_Math_floorMod_18 rfl (lv_at hl 0 rfl) ?_
  exact kr _ ls H locs d_j_Math_floorMod_19 hS
set_option maxHeartbeats 1000000 in
set_option maxRecDepth 100000 in
theorem c_j_Math_floorMod_pos (l : Launch) (a : Nat) (ha : a < 100000) : Met l y_j_Math_floorMod (cd_j_Math_floorMod :: WS) { frames := 0, cells := 0, slots := 0, locals := 0 } (va_Pc [.int (nI a), .int (nI 255)] (fun _ => True)) (pQ ((nI (a % 255)))) 0 0 noA := by
  refine va_MetF (cc := b_j_Math_floorMod) (maxL := 3) (ret := (some .int)) (by decide +kernel) rfl ?_
  intro p e s m args below meth c s₁ B hml hv0
  obtain ⟨rfl, -⟩ := hv0
  have hts := atoms_spec (ws := cd_j_Math_floorMod :: WS) B.pre
  have hown : s.vm.findClass R_java_lang_Math = some m.cls := findClass_of_methodNamed B.named
  have hlocks := B.notSynchronized
  have hl := lv_entry ([.int (nI a), .int (nI 255)]) (n := 3) (Nat.le_of_ble_eq_true rfl)
  rw [lg_entry_eq]
  generalize (lg_sl ([.int (nI a), .int (nI 255)]) ++ List.replicate (3 - (lg_sl ([.int (nI a), .int (nI 255)])).length) Slot.unset).toArray = ls at hl ⊢
  refine bd_j_Math_floorMod_pos a ha ⟨B.exec, B.bytes, hml, hown, hts⟩ (Nat.le_refl _) (Nat.le_refl _) ⟨Nat.le_refl _, Nat.le_refl _⟩ (fun pc ls H locs hd hS => ?_) ls _ _ hl (va_S.rf (A := noA))
  exact W.iret B.exec B.bytes B.returns (fun t ht _ => ⟨⟨_, (), rfl, rfl, trivial⟩, hS.F ht⟩) hS.2.2 hd
end
section
variable {p : Program} {l : Launch} {e : Env} {R : Room} {s : State} {m : MethodId} {args : Array Value} {below : List Frame} {meth : Method} {c : Code} {cells slots : Nat} {Q : State → Prop} {A : Nat → Prop} {H0 : Heap} {D : va_G}
set_option maxHeartbeats 1000000 in
set_option maxRecDepth 100000 in
theorem bd_j_Math_floorMod_neg (a : Nat) (ha : a < 1000) (S : CallFix p m c b_j_Math_floorMod 3 s args (cd_j_Math_floorMod :: WS) R_java_lang_Math) (hRf : 0 ≤ R.frames) (hRl : 0 ≤ R.locals) (hRc : cells ≤ R.cells ∧ slots ≤ R.slots) (kr : ∀ (pc : Nat) (ls : Array Slot) (H : Heap) (locs : List Loc), decode b_j_Math_floorMod pc = .ok (.ireturn, 1) → va_S A H0 H locs → W p l e R s m args below meth c H locs cells slots Q (F0 m pc ls [.int (nI ((255 - a % 255) % 255))])) : ∀ (ls : Array Slot) (H : Heap) (locs : List Loc), lv_has ls 3 [(0, .int (-(nI a))), (1, .int (nI 255))] → va_S A H0 H locs → W p l e R s m args below meth c H locs cells slots Q (F0 m 0 ls []) := by
  obtain ⟨hx, hb, hml, hown, hts⟩ := id S
  intro ls H locs hl hS
  have hm : a % 255 < 255 := Nat.mod_lt a (by decide)
  refine lv_iload_n hx hb d_j_Math_floorMod_0 rfl (lv_at hl 0 rfl) ?_
  refine lv_iload_n hx hb d_j_Math_floorMod_1 rfl (lv_at hl 1 rfl) ?_
  refine lv_irem hx hb d_j_Math_floorMod_2 (by decide) ?_
  refine n_top (show -(nI a) - -(nI a) / nI 255 * nI 255 = -(nI (a % 255)) from fm_neg a ha) ?_
  refine lv_istore_n hx hb d_j_Math_floorMod_3 rfl hl (Nat.le_of_ble_eq_true rfl) rfl (fun ls hl => ?_)
  have hl : lv_has ls 3 [(2, .int (-(nI (a % 255)))), (0, .int (-(nI a))), (1, .int (nI 255))] := hl
  refine lv_iload_n hx hb d_j_Math_floorMod_4 rfl (lv_at hl 1 rfl) ?_
  refine lv_iload_n hx hb d_j_Math_floorMod_5 rfl (lv_at hl 2 rfl) ?_
  refine lv_ixor hx hb d_j_Math_floorMod_6 ?_
  refine lv_if_ge hx hb d_j_Math_floorMod_7 (tgt := 18) rfl (fun g7 => ?_) (fun g7 => ?_)
  · skip
    refine lv_iload_n hx hb d_j_Math_floorMod_18 rfl (lv_at hl 0 rfl) ?_
    refine n_top (show (-(nI (a % 255))) = (nI ((255 - a % 255) % 255)) from (by first | exact fm_ge2 _ ha g7 | exact fm_e _ hm g11)) ?_
    exact kr _ ls H locs d_j_Math_floorMod_19 hS
  · skip
    refine lv_iload_n hx hb d_j_Math_floorMod_10 rfl (lv_at hl 0 rfl) ?_
    refine lv_if_eq hx hb d_j_Math_floorMod_11 (tgt := 18) rfl (fun g11 => ?_) (fun g11 => ?_)
    · skip
      refine lv_iload_n hx hb d_j_Math_floorMod_18 rfl (lv_at hl 0 rfl) ?_
      refine n_top (show (-(nI (a % 255))) = (nI ((255 - a % 255) % 255)) from (by first | exact fm_ge2 _ ha g7 | exact fm_e _ hm g11)) ?_
      exact kr _ ls H locs d_j_Math_floorMod_19 hS
    · skip
      refine lv_iload_n hx hb d_j_Math_floorMod_14 rfl (lv_at hl 0 rfl) ?_
      refine lv_iload_n hx hb d_j_Math_floorMod_15 rfl (lv_at hl 2 rfl) ?_
      refine lv_iadd hx hb d_j_Math_floorMod_16 ?_
      refine n_top (show -(nI (a % 255)) + nI 255 = nI ((255 - a % 255) % 255) from fm_add _ hm g11) ?_
      exact kr _ ls H locs d_j_Math_floorMod_17 hS
set_option maxHeartbeats 1000000 in
set_option maxRecDepth 100000 in
theorem c_j_Math_floorMod_neg (l : Launch) (a : Nat) (ha : a < 1000) : Met l y_j_Math_floorMod (cd_j_Math_floorMod :: WS) { frames := 0, cells := 0, slots := 0, locals := 0 } (va_Pc [.int (-(nI a)), .int (nI 255)] (fun _ => True)) (pQ ((nI ((255 - a % 255) % 255)))) 0 0 noA := by
  refine va_MetF (cc := b_j_Math_floorMod) (maxL := 3) (ret := (some .int)) (by decide +kernel) rfl ?_
  intro p e s m args below meth c s₁ B hml hv0
  obtain ⟨rfl, -⟩ := hv0
  have hts := atoms_spec (ws := cd_j_Math_floorMod :: WS) B.pre
  have hown : s.vm.findClass R_java_lang_Math = some m.cls := findClass_of_methodNamed B.named
  have hlocks := B.notSynchronized
  have hl := lv_entry ([.int (-(nI a)), .int (nI 255)]) (n := 3) (Nat.le_of_ble_eq_true rfl)
  rw [lg_entry_eq]
  generalize (lg_sl ([.int (-(nI a)), .int (nI 255)]) ++ List.replicate (3 - (lg_sl ([.int (-(nI a)), .int (nI 255)])).length) Slot.unset).toArray = ls at hl ⊢
  refine bd_j_Math_floorMod_neg a ha ⟨B.exec, B.bytes, hml, hown, hts⟩ (Nat.le_refl _) (Nat.le_refl _) ⟨Nat.le_refl _, Nat.le_refl _⟩ (fun pc ls H locs hd hS => ?_) ls _ _ hl (va_S.rf (A := noA))
  exact W.iret B.exec B.bytes B.returns (fun t ht _ => ⟨⟨_, (), rfl, rfl, trivial⟩, hS.F ht⟩) hS.2.2 hd
end
section
theorem d_j_Arrays_fill_0 : decode b_j_Arrays_fill 0 = .ok (.iconst 0, 1) := by decide +kernel
theorem d_j_Arrays_fill_1 : decode b_j_Arrays_fill 1 = .ok (.istore_n 2, 1) := by decide +kernel
theorem d_j_Arrays_fill_2 : decode b_j_Arrays_fill 2 = .ok (.aload_n 0, 1) := by decide +kernel
theorem d_j_Arrays_fill_3 : decode b_j_Arrays_fill 3 = .ok (.arraylength, 1) := by decide +kernel
theorem d_j_Arrays_fill_4 : decode b_j_Arrays_fill 4 = .ok (.istore_n 3, 1) := by decide +kernel
theorem d_j_Arrays_fill_5 : decode b_j_Arrays_fill 5 = .ok (.iload_n 2, 1) := by decide +kernel
theorem d_j_Arrays_fill_6 : decode b_j_Arrays_fill 6 = .ok (.iload_n 3, 1) := by decide +kernel
theorem d_j_Arrays_fill_7 : decode b_j_Arrays_fill 7 = .ok (.if_icmp .ge 13, 3) := by decide +kernel
theorem d_j_Arrays_fill_10 : decode b_j_Arrays_fill 10 = .ok (.aload_n 0, 1) := by decide +kernel
theorem d_j_Arrays_fill_11 : decode b_j_Arrays_fill 11 = .ok (.iload_n 2, 1) := by decide +kernel
theorem d_j_Arrays_fill_12 : decode b_j_Arrays_fill 12 = .ok (.iload_n 1, 1) := by decide +kernel
theorem d_j_Arrays_fill_13 : decode b_j_Arrays_fill 13 = .ok (.iastore, 1) := by decide +kernel
theorem d_j_Arrays_fill_14 : decode b_j_Arrays_fill 14 = .ok (.iinc 2 1, 3) := by decide +kernel
theorem d_j_Arrays_fill_17 : decode b_j_Arrays_fill 17 = .ok (.goto (-12), 3) := by decide +kernel
theorem d_j_Arrays_fill_20 : decode b_j_Arrays_fill 20 = .ok (.return_, 1) := by decide +kernel
end
section
variable {p : Program} {l : Launch} {e : Env} {R : Room} {s : State} {m : MethodId} {args : Array Value} {below : List Frame} {meth : Method} {c : Code} {cells slots : Nat} {Q : State → Prop} {A : Nat → Prop} {H0 : Heap} {D : va_G}
set_option maxHeartbeats 1000000 in
set_option maxRecDepth 100000 in
theorem lp_j_Arrays_fill_5 (cI cC : ClassId) (fa fn : Nat) (fc : Nat → Nat) (v : Nat) (hfn : fn < 1000) (S : CallFix p m c b_j_Arrays_fill 4 s args (cd_j_Arrays_fill :: WS) R_java_util_Arrays) (hRf : 0 ≤ R.frames) (hRl : 0 ≤ R.locals) (hRc : cells ≤ R.cells ∧ slots ≤ R.slots) (hK : va_K D classes [(cI, .int), (cC, .char)] s) (hA : ∀ q, H0.size ≤ q → A q) (kx : ∀ (ls : Array Slot) (H : Heap) (locs : List Loc), lv_has ls 4 [(0, .ref fa), (1, .int (nI v)), (2, .int (nI fn)), (3, .int (nI fn))] → va_P D classes [(fa, .inl (cI, fn, .inl (fun j => nI ((flL fc v fn) j))))] H → va_D A [(fa, .inl (cI, fn, .inl (fun j => nI ((flL fc v fn) j))))] → va_S A H0 H locs → W p l e R s m args below meth c H locs cells slots Q (F0 m 20 ls [])) :
    ∀ k, k ≤ fn → ∀ (ls : Array Slot) (H : Heap) (locs : List Loc), lv_has ls 4 [(0, .ref fa), (1, .int (nI v)), (2, .int (nI k)), (3, .int (nI fn))] → va_P D classes [(fa, .inl (cI, fn, .inl (fun j => nI ((flL fc v k) j))))] H → va_D A [(fa, .inl (cI, fn, .inl (fun j => nI ((flL fc v k) j))))] → va_S A H0 H locs → W p l e R s m args below meth c H locs cells slots Q (F0 m 5 ls []) := by
  obtain ⟨hx, hb, hml, hown, hts⟩ := id S
  refine up_loop (fun k hkk ih => ?_)
  intro ls H locs hl hP hD hS
  refine lv_iload_n hx hb d_j_Arrays_fill_5 rfl (lv_at hl 2 rfl) ?_
  refine lv_iload_n hx hb d_j_Arrays_fill_6 rfl (lv_at hl 3 rfl) ?_
  refine n_icmp_ge hx hb d_j_Arrays_fill_7 (tgt := 20) rfl (by omega) (by omega) (fun g7 => ?_) (fun g7 => ?_)
  · skip
    obtain rfl : k = fn := by omega
    exact kx ls H locs (lv_sub hl [0, 1, 2, 3] rfl) hP hD hS
  · skip
    refine lv_aload_n hx hb d_j_Arrays_fill_10 rfl (lv_at hl 0 rfl) ?_
    refine lv_iload_n hx hb d_j_Arrays_fill_11 rfl (lv_at hl 2 rfl) ?_
    refine lv_iload_n hx hb d_j_Arrays_fill_12 rfl (lv_at hl 1 rfl) ?_
    refine n_iast hx hb hK hP hD hS 0 0 rfl rfl (by omega) (by omega) d_j_Arrays_fill_13 (fun H locs hP hD hS => ?_)
    have hP : va_P D classes [(fa, .inl (cI, fn, .inl (fun j => nI ((va_up (flL fc v k) k v) j))))] H := hP
    have hD : va_D A [(fa, .inl (cI, fn, .inl (fun j => nI ((va_up (flL fc v k) k v) j))))] := hD
    rw [show va_up (flL fc v k) k v = flL fc v (k + 1) from rfl] at hP hD
    refine lv_iinc (k := 2) (v := nI (k + 1)) hx hb d_j_Arrays_fill_14 hl rfl (nx_inc k 1) (Nat.le_of_ble_eq_true rfl) rfl (fun ls hl => ?_)
    have hl : lv_has ls 4 [(2, .int (nI (k + 1))), (0, .ref fa), (1, .int (nI v)), (3, .int (nI fn))] := hl
    refine lv_goto hx hb d_j_Arrays_fill_17 (tgt := 5) rfl ?_
    exact ih (by omega) ls H locs (lv_sub hl [1, 2, 0, 3] rfl) hP hD hS
set_option maxHeartbeats 1000000 in
set_option maxRecDepth 100000 in
theorem bd_j_Arrays_fill (cI cC : ClassId) (fa fn : Nat) (fc : Nat → Nat) (v : Nat) (hfn : fn < 1000) (S : CallFix p m c b_j_Arrays_fill 4 s args (cd_j_Arrays_fill :: WS) R_java_util_Arrays) (hRf : 0 ≤ R.frames) (hRl : 0 ≤ R.locals) (hRc : cells ≤ R.cells ∧ slots ≤ R.slots) (hK : va_K D classes [(cI, .int), (cC, .char)] s) (hA : ∀ q, H0.size ≤ q → A q) (kr : ∀ (pc : Nat) (ls : Array Slot) (H : Heap) (locs : List Loc), decode b_j_Arrays_fill pc = .ok (.return_, 1) → va_P D classes [(fa, .inl (cI, fn, .inl (fun j => nI ((flL fc v fn) j))))] H → va_D A [(fa, .inl (cI, fn, .inl (fun j => nI ((flL fc v fn) j))))] → va_S A H0 H locs → W p l e R s m args below meth c H locs cells slots Q (F0 m pc ls [])) : ∀ (ls : Array Slot) (H : Heap) (locs : List Loc), lv_has ls 4 [(0, .ref fa), (1, .int (nI v))] → va_P D classes [(fa, .inl (cI, fn, .inl (fun j => nI (fc j))))] H → va_D A [(fa, .inl (cI, fn, .inl (fun j => nI (fc j))))] → va_S A H0 H locs → W p l e R s m args below meth c H locs cells slots Q (F0 m 0 ls []) := by
  obtain ⟨hx, hb, hml, hown, hts⟩ := id S
  intro ls H locs hl hP hD hS
  refine lv_iconst (v := nI 0) hx hb d_j_Arrays_fill_0 (by decide) ?_
  refine lv_istore_n hx hb d_j_Arrays_fill_1 rfl hl (Nat.le_of_ble_eq_true rfl) rfl (fun ls hl => ?_)
  have hl : lv_has ls 4 [(2, .int (nI 0)), (0, .ref fa), (1, .int (nI v))] := hl
  refine lv_aload_n hx hb d_j_Arrays_fill_2 rfl (lv_at hl 1 rfl) ?_
  refine va_alen (v := nI fn) hx hb hK hP 0 0 rfl rfl rfl d_j_Arrays_fill_3 ?_
  refine lv_istore_n hx hb d_j_Arrays_fill_4 rfl hl (Nat.le_of_ble_eq_true rfl) rfl (fun ls hl => ?_)
  have hl : lv_has ls 4 [(3, .int (nI fn)), (2, .int (nI 0)), (0, .ref fa), (1, .int (nI v))] := hl
  refine lp_j_Arrays_fill_5 cI cC fa fn fc v hfn S hRf hRl hRc hK hA  (fun ls H locs hl hP hD hS => ?_) 0 (by omega) ls H locs (lv_sub hl [2, 3, 1, 0] rfl) hP hD hS
  exact kr _ ls H locs d_j_Arrays_fill_20 hP hD hS
set_option maxHeartbeats 1000000 in
set_option maxRecDepth 100000 in
theorem c_j_Arrays_fill (l : Launch) (D : va_G) (cI cC : ClassId) (fa fn : Nat) (fc : Nat → Nat) (v : Nat) (hfn : fn < 1000) (sz : Nat) : Met l y_j_Arrays_fill (cd_j_Arrays_fill :: WS) { frames := 0, cells := 0, slots := 0, locals := 0 } (va_Pc [.ref fa, .int (nI v)] (wP D [(fa, .inl (cI, fn, .inl (fun j => nI (fc j))))] [(cI, .int), (cC, .char)] sz)) (wQv D [(fa, .inl (cI, fn, .inl (fun j => nI (fc j))))] [(fa, .inl (cI, fn, .inl (fun j => nI ((flL fc v fn) j))))] sz) 0 0 (va_A [(fa, .inl (cI, fn, .inl (fun j => nI (fc j))))] sz) := by
  refine Met.ofW (cc := b_j_Arrays_fill) (maxL := 4) (ret := none) (by decide) rfl ?_
  intro p e s m args below meth c s₁ B hml hv0
  obtain ⟨rfl, hP, hK, hD0, hsz⟩ := hv0
  have hts := atoms_spec (ws := cd_j_Arrays_fill :: WS) B.pre
  have hown : s.vm.findClass R_java_util_Arrays = some m.cls := findClass_of_methodNamed B.named
  have hlocks := B.notSynchronized
  subst hsz
  have hD := hD0.self (sz := s.heap.size)
  have hl := lv_entry ([.ref fa, .int (nI v)]) (n := 4) (Nat.le_of_ble_eq_true rfl)
  rw [lg_entry_eq]
  generalize (lg_sl ([.ref fa, .int (nI v)]) ++ List.replicate (4 - (lg_sl ([.ref fa, .int (nI v)])).length) Slot.unset).toArray = ls at hl ⊢
  refine bd_j_Arrays_fill cI cC fa fn fc v hfn ⟨B.exec, B.bytes, hml, hown, hts⟩ (Nat.le_refl _) (Nat.le_refl _) ⟨Nat.le_refl _, Nat.le_refl _⟩ hK (fun q h => Or.inr h) (fun pc ls H locs hd hP hD hS => ?_) ls _ _ hl hP hD (va_S.rf)
  exact W.vret B.exec B.bytes B.returns (fun t ht _ => ⟨⟨(), rfl, trivial, (by have h9 := hP; rw [← ht] at h9; exact h9)⟩, hS.F ht⟩) hS.2.2 hd
end
section
theorem d_q_Field_product_0 : decode b_q_Field_product 0 = .ok (.iload_n 1, 1) := by decide +kernel
theorem d_q_Field_product_1 : decode b_q_Field_product 1 = .ok (.ifCond .eq 7, 3) := by decide +kernel
theorem d_q_Field_product_4 : decode b_q_Field_product 4 = .ok (.iload_n 2, 1) := by decide +kernel
theorem d_q_Field_product_5 : decode b_q_Field_product 5 = .ok (.ifCond .ne 7, 3) := by decide +kernel
theorem d_q_Field_product_8 : decode b_q_Field_product 8 = .ok (.iconst 0, 1) := by decide +kernel
theorem d_q_Field_product_9 : decode b_q_Field_product 9 = .ok (.goto 25, 3) := by decide +kernel
theorem d_q_Field_product_12 : decode b_q_Field_product 12 = .ok (.aload_n 0, 1) := by decide +kernel
theorem d_q_Field_product_13 : decode b_q_Field_product 13 = .ok (.getfield 9, 3) := by decide +kernel
theorem d_q_Field_product_16 : decode b_q_Field_product 16 = .ok (.aload_n 0, 1) := by decide +kernel
theorem d_q_Field_product_17 : decode b_q_Field_product 17 = .ok (.getfield 13, 3) := by decide +kernel
theorem d_q_Field_product_20 : decode b_q_Field_product 20 = .ok (.iload_n 1, 1) := by decide +kernel
theorem d_q_Field_product_21 : decode b_q_Field_product 21 = .ok (.iaload, 1) := by decide +kernel
theorem d_q_Field_product_22 : decode b_q_Field_product 22 = .ok (.aload_n 0, 1) := by decide +kernel
theorem d_q_Field_product_23 : decode b_q_Field_product 23 = .ok (.getfield 13, 3) := by decide +kernel
theorem d_q_Field_product_26 : decode b_q_Field_product 26 = .ok (.iload_n 2, 1) := by decide +kernel
theorem d_q_Field_product_27 : decode b_q_Field_product 27 = .ok (.iaload, 1) := by decide +kernel
theorem d_q_Field_product_28 : decode b_q_Field_product 28 = .ok (.iadd, 1) := by decide +kernel
theorem d_q_Field_product_29 : decode b_q_Field_product 29 = .ok (.sipush 255, 3) := by decide +kernel
theorem d_q_Field_product_32 : decode b_q_Field_product 32 = .ok (.irem, 1) := by decide +kernel
theorem d_q_Field_product_33 : decode b_q_Field_product 33 = .ok (.iaload, 1) := by decide +kernel
theorem d_q_Field_product_34 : decode b_q_Field_product 34 = .ok (.ireturn, 1) := by decide +kernel
end
section
variable {p : Program} {l : Launch} {e : Env} {R : Room} {s : State} {m : MethodId} {args : Array Value} {below : List Frame} {meth : Method} {c : Code} {cells slots : Nat} {Q : State → Prop} {A : Nat → Prop} {H0 : Heap} {D : va_G}
set_option maxHeartbeats 1000000 in
set_option maxRecDepth 100000 in
theorem bd_q_Field_product (cI cC : ClassId) (fo fp fl : Nat) (po lo : Nat → Nat) (a b : Nat) (ha : a < 256) (hb0 : b < 256) (hF : fldOK po lo) (S : CallFix p m c b_q_Field_product 3 s args (cd_q_Field_product :: WS) R_Field) (hRf : 0 ≤ R.frames) (hRl : 0 ≤ R.locals) (hRc : cells ≤ R.cells ∧ slots ≤ R.slots) (hK : va_K D classes [(cI, .int), (cC, .char)] s) (kr : ∀ (pc : Nat) (ls : Array Slot) (H : Heap) (locs : List Loc), decode b_q_Field_product pc = .ok (.ireturn, 1) → va_P D classes [(fo, .inr (1, [.ref fp, .ref fl])), (fp, .inl (cI, 255, .inl (fun j => nI (po j)))), (fl, .inl (cI, 256, .inl (fun j => nI (lo j))))] H → va_S A H0 H locs → W p l e R s m args below meth c H locs cells slots Q (F0 m pc ls [.int (nI (gm a b))])) : ∀ (ls : Array Slot) (H : Heap) (locs : List Loc), lv_has ls 3 [(0, .ref fo), (1, .int (nI a)), (2, .int (nI b))] → va_P D classes [(fo, .inr (1, [.ref fp, .ref fl])), (fp, .inl (cI, 255, .inl (fun j => nI (po j)))), (fl, .inl (cI, 256, .inl (fun j => nI (lo j))))] H → va_S A H0 H locs → W p l e R s m args below meth c H locs cells slots Q (F0 m 0 ls []) := by
  obtain ⟨hx, hb, hml, hown, hts⟩ := id S
  intro ls H locs hl hP hS
  refine lv_iload_n hx hb d_q_Field_product_0 rfl (lv_at hl 1 rfl) ?_
  refine n_if_eq hx hb d_q_Field_product_1 (tgt := 8) rfl (by omega) (fun g1 => ?_) (fun g1 => ?_)
  · skip
    refine lv_iconst (v := nI 0) hx hb d_q_Field_product_8 (by decide) ?_
    refine lv_goto hx hb d_q_Field_product_9 (tgt := 34) rfl ?_
    refine n_topn (show 0 = gm a b from (by first | exact (fld_pr hF ha hb0 g1 g5) | (rw [g1, gm_zeroL]) | (rw [g5, gm_zeroR ha]))) ?_
    exact kr _ ls H locs d_q_Field_product_34 hP hS
  · skip
    refine lv_iload_n hx hb d_q_Field_product_4 rfl (lv_at hl 2 rfl) ?_
    refine n_if_ne hx hb d_q_Field_product_5 (tgt := 12) rfl (by omega) (fun g5 => ?_) (fun g5 => ?_)
    · skip
      have hla := fld_lt hF ha g1
      have hlb := fld_lt hF hb0 g5
      refine lv_aload_n hx hb d_q_Field_product_12 rfl (lv_at hl 0 rfl) ?_
      refine n_get (C := R_Field) (T := F_Field) (N := 2) (v := .ref fp) hx hb hts u_Field_in hown hK hP 0 rfl rfl 0 (by decide) kw_101 rfl d_q_Field_product_13 ?_
      refine lv_aload_n hx hb d_q_Field_product_16 rfl (lv_at hl 0 rfl) ?_
      refine n_get (C := R_Field) (T := F_Field) (N := 2) (v := .ref fl) hx hb hts u_Field_in hown hK hP 0 rfl rfl 1 (by decide) kw_102 rfl d_q_Field_product_17 ?_
      refine lv_iload_n hx hb d_q_Field_product_20 rfl (lv_at hl 1 rfl) ?_
      refine n_iald hx hb hK hP 2 0 rfl rfl (by omega) (by decide) d_q_Field_product_21 ?_
      refine lv_aload_n hx hb d_q_Field_product_22 rfl (lv_at hl 0 rfl) ?_
      refine n_get (C := R_Field) (T := F_Field) (N := 2) (v := .ref fl) hx hb hts u_Field_in hown hK hP 0 rfl rfl 1 (by decide) kw_102 rfl d_q_Field_product_23 ?_
      refine lv_iload_n hx hb d_q_Field_product_26 rfl (lv_at hl 2 rfl) ?_
      refine n_iald hx hb hK hP 2 0 rfl rfl (by omega) (by decide) d_q_Field_product_27 ?_
      refine n_iadd hx hb d_q_Field_product_28 ?_
      refine lv_sipush (v := nI 255) hx hb d_q_Field_product_29 (by decide) ?_
      refine n_irem hx hb d_q_Field_product_32 (by omega) (by omega) (by omega) ?_
      refine n_iald hx hb hK hP 1 0 rfl rfl (by omega) (by decide) d_q_Field_product_33 ?_
      refine n_topn (show po (((lo a) + (lo b)) % 255) = gm a b from (by first | exact (fld_pr hF ha hb0 g1 g5) | (rw [g1, gm_zeroL]) | (rw [g5, gm_zeroR ha]))) ?_
      exact kr _ ls H locs d_q_Field_product_34 hP hS
    · skip
      refine lv_iconst (v := nI 0) hx hb d_q_Field_product_8 (by decide) ?_
      refine lv_goto hx hb d_q_Field_product_9 (tgt := 34) rfl ?_
      refine n_topn (show 0 = gm a b from (by first | exact (fld_pr hF ha hb0 g1 g5) | (rw [g1, gm_zeroL]) | (rw [g5, gm_zeroR ha]))) ?_
      exact kr _ ls H locs d_q_Field_product_34 hP hS
set_option maxHeartbeats 1000000 in
set_option maxRecDepth 100000 in
theorem c_q_Field_product (l : Launch) (D : va_G) (cI cC : ClassId) (fo fp fl : Nat) (po lo : Nat → Nat) (a b : Nat) (ha : a < 256) (hb0 : b < 256) (hF : fldOK po lo) : Met l y_q_Field_product (cd_q_Field_product :: WS) { frames := 0, cells := 0, slots := 0, locals := 0 } (va_Pc [.ref fo, .int (nI a), .int (nI b)] (rP D [(fo, .inr (1, [.ref fp, .ref fl])), (fp, .inl (cI, 255, .inl (fun j => nI (po j)))), (fl, .inl (cI, 256, .inl (fun j => nI (lo j))))] [(cI, .int), (cC, .char)])) (pQ (nI (gm a b))) 0 0 noA := by
  refine Met.ofW (cc := b_q_Field_product) (maxL := 3) (ret := (some .int)) (by decide) rfl ?_
  intro p e s m args below meth c s₁ B hml hv0
  obtain ⟨rfl, hP, hK⟩ := hv0
  have hts := atoms_spec (ws := cd_q_Field_product :: WS) B.pre
  have hown : s.vm.findClass R_Field = some m.cls := findClass_of_methodNamed B.named
  have hlocks := B.notSynchronized
  have hl := lv_entry ([.ref fo, .int (nI a), .int (nI b)]) (n := 3) (Nat.le_of_ble_eq_true rfl)
  rw [lg_entry_eq]
  generalize (lg_sl ([.ref fo, .int (nI a), .int (nI b)]) ++ List.replicate (3 - (lg_sl ([.ref fo, .int (nI a), .int (nI b)])).length) Slot.unset).toArray = ls at hl ⊢
  refine bd_q_Field_product cI cC fo fp fl po lo a b ha hb0 hF ⟨B.exec, B.bytes, hml, hown, hts⟩ (Nat.le_refl _) (Nat.le_refl _) ⟨Nat.le_refl _, Nat.le_refl _⟩ hK (fun pc ls H locs hd hP hS => ?_) ls _ _ hl hP (va_S.rf (A := noA))
  exact W.iret B.exec B.bytes B.returns (fun t ht _ => ⟨⟨_, (), rfl, rfl, trivial⟩, hS.F ht⟩) hS.2.2 hd
end
section
theorem d_q_Field_quotient_0 : decode b_q_Field_quotient 0 = .ok (.iload_n 1, 1) := by decide +kernel
theorem d_q_Field_quotient_1 : decode b_q_Field_quotient 1 = .ok (.ifCond .eq 7, 3) := by decide +kernel
theorem d_q_Field_quotient_4 : decode b_q_Field_quotient 4 = .ok (.iload_n 2, 1) := by decide +kernel
theorem d_q_Field_quotient_5 : decode b_q_Field_quotient 5 = .ok (.ifCond .ne 7, 3) := by decide +kernel
theorem d_q_Field_quotient_8 : decode b_q_Field_quotient 8 = .ok (.iconst 0, 1) := by decide +kernel
theorem d_q_Field_quotient_9 : decode b_q_Field_quotient 9 = .ok (.goto 29, 3) := by decide +kernel
theorem d_q_Field_quotient_12 : decode b_q_Field_quotient 12 = .ok (.aload_n 0, 1) := by decide +kernel
theorem d_q_Field_quotient_13 : decode b_q_Field_quotient 13 = .ok (.getfield 9, 3) := by decide +kernel
theorem d_q_Field_quotient_16 : decode b_q_Field_quotient 16 = .ok (.aload_n 0, 1) := by decide +kernel
theorem d_q_Field_quotient_17 : decode b_q_Field_quotient 17 = .ok (.getfield 13, 3) := by decide +kernel
theorem d_q_Field_quotient_20 : decode b_q_Field_quotient 20 = .ok (.iload_n 1, 1) := by decide +kernel
theorem d_q_Field_quotient_21 : decode b_q_Field_quotient 21 = .ok (.iaload, 1) := by decide +kernel
theorem d_q_Field_quotient_22 : decode b_q_Field_quotient 22 = .ok (.sipush 255, 3) := by decide +kernel
theorem d_q_Field_quotient_25 : decode b_q_Field_quotient 25 = .ok (.iadd, 1) := by decide +kernel
theorem d_q_Field_quotient_26 : decode b_q_Field_quotient 26 = .ok (.aload_n 0, 1) := by decide +kernel
theorem d_q_Field_quotient_27 : decode b_q_Field_quotient 27 = .ok (.getfield 13, 3) := by decide +kernel
theorem d_q_Field_quotient_30 : decode b_q_Field_quotient 30 = .ok (.iload_n 2, 1) := by decide +kernel
theorem d_q_Field_quotient_31 : decode b_q_Field_quotient 31 = .ok (.iaload, 1) := by decide +kernel
theorem d_q_Field_quotient_32 : decode b_q_Field_quotient 32 = .ok (.isub, 1) := by decide +kernel
theorem d_q_Field_quotient_33 : decode b_q_Field_quotient 33 = .ok (.sipush 255, 3) := by decide +kernel
theorem d_q_Field_quotient_36 : decode b_q_Field_quotient 36 = .ok (.irem, 1) := by decide +kernel
theorem d_q_Field_quotient_37 : decode b_q_Field_quotient 37 = .ok (.iaload, 1) := by decide +kernel
theorem d_q_Field_quotient_38 : decode b_q_Field_quotient 38 = .ok (.ireturn, 1) := by decide +kernel
end
section
variable {p : Program} {l : Launch} {e : Env} {R : Room} {s : State} {m : MethodId} {args : Array Value} {below : List Frame} {meth : Method} {c : Code} {cells slots : Nat} {Q : State → Prop} {A : Nat → Prop} {H0 : Heap} {D : va_G}
set_option maxHeartbeats 1000000 in
set_option maxRecDepth 100000 in
theorem bd_q_Field_quotient (cI cC : ClassId) (fo fp fl : Nat) (po lo : Nat → Nat) (a b : Nat) (ha : a < 256) (hb0 : b < 256) (hF : fldOK po lo) (S : CallFix p m c b_q_Field_quotient 3 s args (cd_q_Field_quotient :: WS) R_Field) (hRf : 0 ≤ R.frames) (hRl : 0 ≤ R.locals) (hRc : cells ≤ R.cells ∧ slots ≤ R.slots) (hK : va_K D classes [(cI, .int), (cC, .char)] s) (kr : ∀ (pc : Nat) (ls : Array Slot) (H : Heap) (locs : List Loc), decode b_q_Field_quotient pc = .ok (.ireturn, 1) → va_P D classes [(fo, .inr (1, [.ref fp, .ref fl])), (fp, .inl (cI, 255, .inl (fun j => nI (po j)))), (fl, .inl (cI, 256, .inl (fun j => nI (lo j))))] H → va_S A H0 H locs → W p l e R s m args below meth c H locs cells slots Q (F0 m pc ls [.int (nI (qtN a b))])) : ∀ (ls : Array Slot) (H : Heap) (locs : List Loc), lv_has ls 3 [(0, .ref fo), (1, .int (nI a)), (2, .int (nI b))] → va_P D classes [(fo, .inr (1, [.ref fp, .ref fl])), (fp, .inl (cI, 255, .inl (fun j => nI (po j)))), (fl, .inl (cI, 256, .inl (fun j => nI (lo j))))] H → va_S A H0 H locs → W p l e R s m args below meth c H locs cells slots Q (F0 m 0 ls []) := by
  obtain ⟨hx, hb, hml, hown, hts⟩ := id S
  intro ls H locs hl hP hS
  refine lv_iload_n hx hb d_q_Field_quotient_0 rfl (lv_at hl 1 rfl) ?_
  refine n_if_eq hx hb d_q_Field_quotient_1 (tgt := 8) rfl (by omega) (fun g1 => ?_) (fun g1 => ?_)
  · skip
    refine lv_iconst (v := nI 0) hx hb d_q_Field_quotient_8 (by decide) ?_
    refine lv_goto hx hb d_q_Field_quotient_9 (tgt := 38) rfl ?_
    refine n_topn (show 0 = qtN a b from (by first | exact (fld_qt hF ha hb0 g1 g5) | exact (qtN_a g1).symm | exact (qtN_b g5).symm)) ?_
    exact kr _ ls H locs d_q_Field_quotient_38 hP hS
  · skip
    refine lv_iload_n hx hb d_q_Field_quotient_4 rfl (lv_at hl 2 rfl) ?_
    refine n_if_ne hx hb d_q_Field_quotient_5 (tgt := 12) rfl (by omega) (fun g5 => ?_) (fun g5 => ?_)
    · skip
      have hla := fld_lt hF ha g1
      have hlb := fld_lt hF hb0 g5
      refine lv_aload_n hx hb d_q_Field_quotient_12 rfl (lv_at hl 0 rfl) ?_
      refine n_get (C := R_Field) (T := F_Field) (N := 2) (v := .ref fp) hx hb hts u_Field_in hown hK hP 0 rfl rfl 0 (by decide) kw_101 rfl d_q_Field_quotient_13 ?_
      refine lv_aload_n hx hb d_q_Field_quotient_16 rfl (lv_at hl 0 rfl) ?_
      refine n_get (C := R_Field) (T := F_Field) (N := 2) (v := .ref fl) hx hb hts u_Field_in hown hK hP 0 rfl rfl 1 (by decide) kw_102 rfl d_q_Field_quotient_17 ?_
      refine lv_iload_n hx hb d_q_Field_quotient_20 rfl (lv_at hl 1 rfl) ?_
      refine n_iald hx hb hK hP 2 0 rfl rfl (by omega) (by decide) d_q_Field_quotient_21 ?_
      refine lv_sipush (v := nI 255) hx hb d_q_Field_quotient_22 (by decide) ?_
      refine n_iadd hx hb d_q_Field_quotient_25 ?_
      refine lv_aload_n hx hb d_q_Field_quotient_26 rfl (lv_at hl 0 rfl) ?_
      refine n_get (C := R_Field) (T := F_Field) (N := 2) (v := .ref fl) hx hb hts u_Field_in hown hK hP 0 rfl rfl 1 (by decide) kw_102 rfl d_q_Field_quotient_27 ?_
      refine lv_iload_n hx hb d_q_Field_quotient_30 rfl (lv_at hl 2 rfl) ?_
      refine n_iald hx hb hK hP 2 0 rfl rfl (by omega) (by decide) d_q_Field_quotient_31 ?_
      refine n_isub hx hb d_q_Field_quotient_32 (by omega) ?_
      refine lv_sipush (v := nI 255) hx hb d_q_Field_quotient_33 (by decide) ?_
      refine n_irem hx hb d_q_Field_quotient_36 (by omega) (by omega) (by omega) ?_
      refine n_iald hx hb hK hP 1 0 rfl rfl (by omega) (by decide) d_q_Field_quotient_37 ?_
      refine n_topn (show po ((((lo a) + 255) - (lo b)) % 255) = qtN a b from (by first | exact (fld_qt hF ha hb0 g1 g5) | exact (qtN_a g1).symm | exact (qtN_b g5).symm)) ?_
      exact kr _ ls H locs d_q_Field_quotient_38 hP hS
    · skip
      refine lv_iconst (v := nI 0) hx hb d_q_Field_quotient_8 (by decide) ?_
      refine lv_goto hx hb d_q_Field_quotient_9 (tgt := 38) rfl ?_
      refine n_topn (show 0 = qtN a b from (by first | exact (fld_qt hF ha hb0 g1 g5) | exact (qtN_a g1).symm | exact (qtN_b g5).symm)) ?_
      exact kr _ ls H locs d_q_Field_quotient_38 hP hS
set_option maxHeartbeats 1000000 in
set_option maxRecDepth 100000 in
theorem c_q_Field_quotient (l : Launch) (D : va_G) (cI cC : ClassId) (fo fp fl : Nat) (po lo : Nat → Nat) (a b : Nat) (ha : a < 256) (hb0 : b < 256) (hF : fldOK po lo) : Met l y_q_Field_quotient (cd_q_Field_quotient :: WS) { frames := 0, cells := 0, slots := 0, locals := 0 } (va_Pc [.ref fo, .int (nI a), .int (nI b)] (rP D [(fo, .inr (1, [.ref fp, .ref fl])), (fp, .inl (cI, 255, .inl (fun j => nI (po j)))), (fl, .inl (cI, 256, .inl (fun j => nI (lo j))))] [(cI, .int), (cC, .char)])) (pQ (nI (qtN a b))) 0 0 noA := by
  refine Met.ofW (cc := b_q_Field_quotient) (maxL := 3) (ret := (some .int)) (by decide) rfl ?_
  intro p e s m args below meth c s₁ B hml hv0
  obtain ⟨rfl, hP, hK⟩ := hv0
  have hts := atoms_spec (ws := cd_q_Field_quotient :: WS) B.pre
  have hown : s.vm.findClass R_Field = some m.cls := findClass_of_methodNamed B.named
  have hlocks := B.notSynchronized
  have hl := lv_entry ([.ref fo, .int (nI a), .int (nI b)]) (n := 3) (Nat.le_of_ble_eq_true rfl)
  rw [lg_entry_eq]
  generalize (lg_sl ([.ref fo, .int (nI a), .int (nI b)]) ++ List.replicate (3 - (lg_sl ([.ref fo, .int (nI a), .int (nI b)])).length) Slot.unset).toArray = ls at hl ⊢
  refine bd_q_Field_quotient cI cC fo fp fl po lo a b ha hb0 hF ⟨B.exec, B.bytes, hml, hown, hts⟩ (Nat.le_refl _) (Nat.le_refl _) ⟨Nat.le_refl _, Nat.le_refl _⟩ hK (fun pc ls H locs hd hP hS => ?_) ls _ _ hl hP (va_S.rf (A := noA))
  exact W.iret B.exec B.bytes B.returns (fun t ht _ => ⟨⟨_, (), rfl, rfl, trivial⟩, hS.F ht⟩) hS.2.2 hd
end
section
theorem d_q_Field_power_0 : decode b_q_Field_power 0 = .ok (.aload_n 0, 1) := by decide +kernel
theorem d_q_Field_power_1 : decode b_q_Field_power 1 = .ok (.getfield 9, 3) := by decide +kernel
theorem d_q_Field_power_4 : decode b_q_Field_power 4 = .ok (.iload_n 1, 1) := by decide +kernel
theorem d_q_Field_power_5 : decode b_q_Field_power 5 = .ok (.sipush 255, 3) := by decide +kernel
theorem d_q_Field_power_8 : decode b_q_Field_power 8 = .ok (.invokestatic 16, 3) := by decide +kernel
theorem d_q_Field_power_11 : decode b_q_Field_power 11 = .ok (.iaload, 1) := by decide +kernel
theorem d_q_Field_power_12 : decode b_q_Field_power 12 = .ok (.ireturn, 1) := by decide +kernel
end
section
variable {p : Program} {l : Launch} {e : Env} {R : Room} {s : State} {m : MethodId} {args : Array Value} {below : List Frame} {meth : Method} {c : Code} {cells slots : Nat} {Q : State → Prop} {A : Nat → Prop} {H0 : Heap} {D : va_G}
set_option maxHeartbeats 1000000 in
set_option maxRecDepth 100000 in
theorem bd_q_Field_power_pos (cI cC : ClassId) (fo fp fl : Nat) (po lo : Nat → Nat) (x : Nat) (hx0 : x < 100000) (hF : fldOK po lo) (S : CallFix p m c b_q_Field_power 2 s args (cd_q_Field_power :: WS) R_Field) (hRf : 1 ≤ R.frames) (hRl : 22 ≤ R.locals) (hRc : cells ≤ R.cells ∧ slots ≤ R.slots) (hK : va_K D classes [(cI, .int), (cC, .char)] s) (kr : ∀ (pc : Nat) (ls : Array Slot) (H : Heap) (locs : List Loc), decode b_q_Field_power pc = .ok (.ireturn, 1) → va_P D classes [(fo, .inr (1, [.ref fp, .ref fl])), (fp, .inl (cI, 255, .inl (fun j => nI (po j)))), (fl, .inl (cI, 256, .inl (fun j => nI (lo j))))] H → va_S A H0 H locs → W p l e R s m args below meth c H locs cells slots Q (F0 m pc ls [.int (nI (pw x))])) : ∀ (ls : Array Slot) (H : Heap) (locs : List Loc), lv_has ls 2 [(0, .ref fo), (1, .int (nI x))] → va_P D classes [(fo, .inr (1, [.ref fp, .ref fl])), (fp, .inl (cI, 255, .inl (fun j => nI (po j)))), (fl, .inl (cI, 256, .inl (fun j => nI (lo j))))] H → va_S A H0 H locs → W p l e R s m args below meth c H locs cells slots Q (F0 m 0 ls []) := by
  obtain ⟨hx, hb, hml, hown, hts⟩ := id S
  intro ls H locs hl hP hS
  refine lv_aload_n hx hb d_q_Field_power_0 rfl (lv_at hl 0 rfl) ?_
  refine n_get (C := R_Field) (T := F_Field) (N := 2) (v := .ref fp) hx hb hts u_Field_in hown hK hP 0 rfl rfl 0 (by decide) kw_101 rfl d_q_Field_power_1 ?_
  refine lv_iload_n hx hb d_q_Field_power_4 rfl (lv_at hl 1 rfl) ?_
  refine lv_sipush (v := nI 255) hx hb d_q_Field_power_5 (by decide) ?_
  refine q_pureS (n := 2) (As := [.int (nI x), .int (nI 255)]) (rest := [.ref fp]) S (c_j_Math_floorMod_pos l x (by omega)) (q_goodS kw_537 kw_538 kw_19 kw_539) (by decide +kernel) rfl rfl ⟨Nat.le_trans (Nat.le_of_ble_eq_true rfl) hRf, Nat.le_trans (Nat.le_of_ble_eq_true rfl) hRl⟩ rfl hl.1 rfl (Nat.le_of_ble_eq_true rfl) d_q_Field_power_8 hRc hS (fun H locs hkp hS => ?_)
  replace hP := hP.kept (fun k q hq => hkp q.1 (hP k q hq).lt)
  refine n_iald hx hb hK hP 1 0 rfl rfl (by omega) (by decide) d_q_Field_power_11 ?_
  refine n_topn (show po (x % 255) = pw x from (fld_pw hF x)) ?_
  exact kr _ ls H locs d_q_Field_power_12 hP hS
set_option maxHeartbeats 1000000 in
set_option maxRecDepth 100000 in
theorem c_q_Field_power_pos (l : Launch) (D : va_G) (cI cC : ClassId) (fo fp fl : Nat) (po lo : Nat → Nat) (x : Nat) (hx0 : x < 100000) (hF : fldOK po lo) : Met l y_q_Field_power (cd_q_Field_power :: WS) { frames := 1, cells := 0, slots := 0, locals := 22 } (va_Pc [.ref fo, .int (nI x)] (rP D [(fo, .inr (1, [.ref fp, .ref fl])), (fp, .inl (cI, 255, .inl (fun j => nI (po j)))), (fl, .inl (cI, 256, .inl (fun j => nI (lo j))))] [(cI, .int), (cC, .char)])) (pQ (nI (pw x))) 0 0 noA := by
  refine Met.ofW (cc := b_q_Field_power) (maxL := 2) (ret := (some .int)) (by decide) rfl ?_
  intro p e s m args below meth c s₁ B hml hv0
  obtain ⟨rfl, hP, hK⟩ := hv0
  have hts := atoms_spec (ws := cd_q_Field_power :: WS) B.pre
  have hown : s.vm.findClass R_Field = some m.cls := findClass_of_methodNamed B.named
  have hlocks := B.notSynchronized
  have hl := lv_entry ([.ref fo, .int (nI x)]) (n := 2) (Nat.le_of_ble_eq_true rfl)
  rw [lg_entry_eq]
  generalize (lg_sl ([.ref fo, .int (nI x)]) ++ List.replicate (2 - (lg_sl ([.ref fo, .int (nI x)])).length) Slot.unset).toArray = ls at hl ⊢
  refine bd_q_Field_power_pos cI cC fo fp fl po lo x hx0 hF ⟨B.exec, B.bytes, hml, hown, hts⟩ (Nat.le_refl _) (Nat.le_refl _) ⟨Nat.le_refl _, Nat.le_refl _⟩ hK (fun pc ls H locs hd hP hS => ?_) ls _ _ hl hP (va_S.rf (A := noA))
  exact W.iret B.exec B.bytes B.returns (fun t ht _ => ⟨⟨_, (), rfl, rfl, trivial⟩, hS.F ht⟩) hS.2.2 hd
end
section
variable {p : Program} {l : Launch} {e : Env} {R : Room} {s : State} {m : MethodId} {args : Array Value} {below : List Frame} {meth : Method} {c : Code} {cells slots : Nat} {Q : State → Prop} {A : Nat → Prop} {H0 : Heap} {D : va_G}
set_option maxHeartbeats 1000000 in
set_option maxRecDepth 100000 in
theorem bd_q_Field_power_neg (cI cC : ClassId) (fo fp fl : Nat) (po lo : Nat → Nat) (x : Nat) (hx0 : x < 1000) (hF : fldOK po lo) (S : CallFix p m c b_q_Field_power 2 s args (cd_q_Field_power :: WS) R_Field) (hRf : 1 ≤ R.frames) (hRl : 22 ≤ R.locals) (hRc : cells ≤ R.cells ∧ slots ≤ R.slots) (hK : va_K D classes [(cI, .int), (cC, .char)] s) (kr : ∀ (pc : Nat) (ls : Array Slot) (H : Heap) (locs : List Loc), decode b_q_Field_power pc = .ok (.ireturn, 1) → va_P D classes [(fo, .inr (1, [.ref fp, .ref fl])), (fp, .inl (cI, 255, .inl (fun j => nI (po j)))), (fl, .inl (cI, 256, .inl (fun j => nI (lo j))))] H → va_S A H0 H locs → W p l e R s m args below meth c H locs cells slots Q (F0 m pc ls [.int (nI (pwm x))])) : ∀ (ls : Array Slot) (H : Heap) (locs : List Loc), lv_has ls 2 [(0, .ref fo), (1, .int (-(nI x)))] → va_P D classes [(fo, .inr (1, [.ref fp, .ref fl])), (fp, .inl (cI, 255, .inl (fun j => nI (po j)))), (fl, .inl (cI, 256, .inl (fun j => nI (lo j))))] H → va_S A H0 H locs → W p l e R s m args below meth c H locs cells slots Q (F0 m 0 ls []) := by
  obtain ⟨hx, hb, hml, hown, hts⟩ := id S
  intro ls H locs hl hP hS
  refine lv_aload_n hx hb d_q_Field_power_0 rfl (lv_at hl 0 rfl) ?_
  refine n_get (C := R_Field) (T := F_Field) (N := 2) (v := .ref fp) hx hb hts u_Field_in hown hK hP 0 rfl rfl 0 (by decide) kw_101 rfl d_q_Field_power_1 ?_
  refine lv_iload_n hx hb d_q_Field_power_4 rfl (lv_at hl 1 rfl) ?_
  refine lv_sipush (v := nI 255) hx hb d_q_Field_power_5 (by decide) ?_
  refine q_pureS (n := 2) (As := [.int (-(nI x)), .int (nI 255)]) (rest := [.ref fp]) S (c_j_Math_floorMod_neg l x (by omega)) (q_goodS kw_537 kw_538 kw_19 kw_539) (by decide +kernel) rfl rfl ⟨Nat.le_trans (Nat.le_of_ble_eq_true rfl) hRf, Nat.le_trans (Nat.le_of_ble_eq_true rfl) hRl⟩ rfl hl.1 rfl (Nat.le_of_ble_eq_true rfl) d_q_Field_power_8 hRc hS (fun H locs hkp hS => ?_)
  replace hP := hP.kept (fun k q hq => hkp q.1 (hP k q hq).lt)
  refine n_iald hx hb hK hP 1 0 rfl rfl (by omega) (by decide) d_q_Field_power_11 ?_
  refine n_topn (show po ((255 - x % 255) % 255) = pwm x from (fld_pwm hF x)) ?_
  exact kr _ ls H locs d_q_Field_power_12 hP hS
set_option maxHeartbeats 1000000 in
set_option maxRecDepth 100000 in
theorem c_q_Field_power_neg (l : Launch) (D : va_G) (cI cC : ClassId) (fo fp fl : Nat) (po lo : Nat → Nat) (x : Nat) (hx0 : x < 1000) (hF : fldOK po lo) : Met l y_q_Field_power (cd_q_Field_power :: WS) { frames := 1, cells := 0, slots := 0, locals := 22 } (va_Pc [.ref fo, .int (-(nI x))] (rP D [(fo, .inr (1, [.ref fp, .ref fl])), (fp, .inl (cI, 255, .inl (fun j => nI (po j)))), (fl, .inl (cI, 256, .inl (fun j => nI (lo j))))] [(cI, .int), (cC, .char)])) (pQ (nI (pwm x))) 0 0 noA := by
  refine Met.ofW (cc := b_q_Field_power) (maxL := 2) (ret := (some .int)) (by decide) rfl ?_
  intro p e s m args below meth c s₁ B hml hv0
  obtain ⟨rfl, hP, hK⟩ := hv0
  have hts := atoms_spec (ws := cd_q_Field_power :: WS) B.pre
  have hown : s.vm.findClass R_Field = some m.cls := findClass_of_methodNamed B.named
  have hlocks := B.notSynchronized
  have hl := lv_entry ([.ref fo, .int (-(nI x))]) (n := 2) (Nat.le_of_ble_eq_true rfl)
  rw [lg_entry_eq]
  generalize (lg_sl ([.ref fo, .int (-(nI x))]) ++ List.replicate (2 - (lg_sl ([.ref fo, .int (-(nI x))])).length) Slot.unset).toArray = ls at hl ⊢
  refine bd_q_Field_power_neg cI cC fo fp fl po lo x hx0 hF ⟨B.exec, B.bytes, hml, hown, hts⟩ (Nat.le_refl _) (Nat.le_refl _) ⟨Nat.le_refl _, Nat.le_refl _⟩ hK (fun pc ls H locs hd hP hS => ?_) ls _ _ hl hP (va_S.rf (A := noA))
  exact W.iret B.exec B.bytes B.returns (fun t ht _ => ⟨⟨_, (), rfl, rfl, trivial⟩, hS.F ht⟩) hS.2.2 hd
end
section
theorem d_q_Grid_at_0 : decode b_q_Grid_at 0 = .ok (.aload_n 0, 1) := by decide +kernel
theorem d_q_Grid_at_1 : decode b_q_Grid_at 1 = .ok (.getfield 9, 3) := by decide +kernel
theorem d_q_Grid_at_4 : decode b_q_Grid_at 4 = .ok (.iload_n 1, 1) := by decide +kernel
theorem d_q_Grid_at_5 : decode b_q_Grid_at 5 = .ok (.iaload, 1) := by decide +kernel
theorem d_q_Grid_at_6 : decode b_q_Grid_at 6 = .ok (.bipush 20, 2) := by decide +kernel
theorem d_q_Grid_at_8 : decode b_q_Grid_at 8 = .ok (.iload_n 2, 1) := by decide +kernel
theorem d_q_Grid_at_9 : decode b_q_Grid_at 9 = .ok (.isub, 1) := by decide +kernel
theorem d_q_Grid_at_10 : decode b_q_Grid_at 10 = .ok (.ishr, 1) := by decide +kernel
theorem d_q_Grid_at_11 : decode b_q_Grid_at 11 = .ok (.iconst 1, 1) := by decide +kernel
theorem d_q_Grid_at_12 : decode b_q_Grid_at 12 = .ok (.iand, 1) := by decide +kernel
theorem d_q_Grid_at_13 : decode b_q_Grid_at 13 = .ok (.ireturn, 1) := by decide +kernel
end
section
variable {p : Program} {l : Launch} {e : Env} {R : Room} {s : State} {m : MethodId} {args : Array Value} {below : List Frame} {meth : Method} {c : Code} {cells slots : Nat} {Q : State → Prop} {A : Nat → Prop} {H0 : Heap} {D : va_G}
set_option maxHeartbeats 1000000 in
set_option maxRecDepth 100000 in
theorem bd_q_Grid_at (cI cC : ClassId) (go ga : Nat) (ro : Nat → Nat) (r d : Nat) (hr : r < 21) (hd0 : d < 21) (hro : ∀ j, j < 21 → ro j < 2097152) (S : CallFix p m c b_q_Grid_at 3 s args (cd_q_Grid_at :: WS) R_Grid) (hRf : 0 ≤ R.frames) (hRl : 0 ≤ R.locals) (hRc : cells ≤ R.cells ∧ slots ≤ R.slots) (hK : va_K D classes [(cI, .int), (cC, .char)] s) (kr : ∀ (pc : Nat) (ls : Array Slot) (H : Heap) (locs : List Loc), decode b_q_Grid_at pc = .ok (.ireturn, 1) → va_P D classes [(go, .inr (2, [.ref ga])), (ga, .inl (cI, 21, .inl (fun j => nI (ro j))))] H → va_S A H0 H locs → W p l e R s m args below meth c H locs cells slots Q (F0 m pc ls [.int (nI (ro r / 2 ^ (20 - d) % 2))])) : ∀ (ls : Array Slot) (H : Heap) (locs : List Loc), lv_has ls 3 [(0, .ref go), (1, .int (nI r)), (2, .int (nI d))] → va_P D classes [(go, .inr (2, [.ref ga])), (ga, .inl (cI, 21, .inl (fun j => nI (ro j))))] H → va_S A H0 H locs → W p l e R s m args below meth c H locs cells slots Q (F0 m 0 ls []) := by
  obtain ⟨hx, hb, hml, hown, hts⟩ := id S
  intro ls H locs hl hP hS
  have hr1 := hro r hr
  refine lv_aload_n hx hb d_q_Grid_at_0 rfl (lv_at hl 0 rfl) ?_
  refine n_get (C := R_Grid) (T := F_Grid) (N := 1) (v := .ref ga) hx hb hts u_Grid_in hown hK hP 0 rfl rfl 0 (by decide) kw_42 rfl d_q_Grid_at_1 ?_
  refine lv_iload_n hx hb d_q_Grid_at_4 rfl (lv_at hl 1 rfl) ?_
  refine n_iald hx hb hK hP 1 0 rfl rfl (by omega) (by decide) d_q_Grid_at_5 ?_
  refine lv_bipush (v := nI 20) hx hb d_q_Grid_at_6 (by decide) ?_
  refine lv_iload_n hx hb d_q_Grid_at_8 rfl (lv_at hl 2 rfl) ?_
  refine n_isub hx hb d_q_Grid_at_9 (by omega) ?_
  refine n_ishr hx hb d_q_Grid_at_10 (by omega) (by omega) ?_
  refine lv_iconst (v := nI 1) hx hb d_q_Grid_at_11 (by decide) ?_
  refine n_and1 hx hb d_q_Grid_at_12 ?_
  refine n_topn (show ((ro r) / 2 ^ (20 - d)) % 2 = ro r / 2 ^ (20 - d) % 2 from rfl) ?_
  exact kr _ ls H locs d_q_Grid_at_13 hP hS
set_option maxHeartbeats 1000000 in
set_option maxRecDepth 100000 in
theorem c_q_Grid_at (l : Launch) (D : va_G) (cI cC : ClassId) (go ga : Nat) (ro : Nat → Nat) (r d : Nat) (hr : r < 21) (hd0 : d < 21) (hro : ∀ j, j < 21 → ro j < 2097152) : Met l y_q_Grid_at (cd_q_Grid_at :: WS) { frames := 0, cells := 0, slots := 0, locals := 0 } (va_Pc [.ref go, .int (nI r), .int (nI d)] (rP D [(go, .inr (2, [.ref ga])), (ga, .inl (cI, 21, .inl (fun j => nI (ro j))))] [(cI, .int), (cC, .char)])) (pQ (nI (ro r / 2 ^ (20 - d) % 2))) 0 0 noA := by
  refine Met.ofW (cc := b_q_Grid_at) (maxL := 3) (ret := (some .int)) (by decide) rfl ?_
  intro p e s m args below meth c s₁ B hml hv0
  obtain ⟨rfl, hP, hK⟩ := hv0
  have hts := atoms_spec (ws := cd_q_Grid_at :: WS) B.pre
  have hown : s.vm.findClass R_Grid = some m.cls := findClass_of_methodNamed B.named
  have hlocks := B.notSynchronized
  have hl := lv_entry ([.ref go, .int (nI r), .int (nI d)]) (n := 3) (Nat.le_of_ble_eq_true rfl)
  rw [lg_entry_eq]
  generalize (lg_sl ([.ref go, .int (nI r), .int (nI d)]) ++ List.replicate (3 - (lg_sl ([.ref go, .int (nI r), .int (nI d)])).length) Slot.unset).toArray = ls at hl ⊢
  refine bd_q_Grid_at cI cC go ga ro r d hr hd0 hro ⟨B.exec, B.bytes, hml, hown, hts⟩ (Nat.le_refl _) (Nat.le_refl _) ⟨Nat.le_refl _, Nat.le_refl _⟩ hK (fun pc ls H locs hd hP hS => ?_) ls _ _ hl hP (va_S.rf (A := noA))
  exact W.iret B.exec B.bytes B.returns (fun t ht _ => ⟨⟨_, (), rfl, rfl, trivial⟩, hS.F ht⟩) hS.2.2 hd
end
section
theorem d_q_Grid_rowBits_0 : decode b_q_Grid_rowBits 0 = .ok (.aload_n 0, 1) := by decide +kernel
theorem d_q_Grid_rowBits_1 : decode b_q_Grid_rowBits 1 = .ok (.getfield 9, 3) := by decide +kernel
theorem d_q_Grid_rowBits_4 : decode b_q_Grid_rowBits 4 = .ok (.iload_n 1, 1) := by decide +kernel
theorem d_q_Grid_rowBits_5 : decode b_q_Grid_rowBits 5 = .ok (.iaload, 1) := by decide +kernel
theorem d_q_Grid_rowBits_6 : decode b_q_Grid_rowBits 6 = .ok (.ireturn, 1) := by decide +kernel
end
section
variable {p : Program} {l : Launch} {e : Env} {R : Room} {s : State} {m : MethodId} {args : Array Value} {below : List Frame} {meth : Method} {c : Code} {cells slots : Nat} {Q : State → Prop} {A : Nat → Prop} {H0 : Heap} {D : va_G}
set_option maxHeartbeats 1000000 in
set_option maxRecDepth 100000 in
theorem bd_q_Grid_rowBits (cI cC : ClassId) (go ga : Nat) (ro : Nat → Nat) (r : Nat) (hr : r < 21) (S : CallFix p m c b_q_Grid_rowBits 2 s args (cd_q_Grid_rowBits :: WS) R_Grid) (hRf : 0 ≤ R.frames) (hRl : 0 ≤ R.locals) (hRc : cells ≤ R.cells ∧ slots ≤ R.slots) (hK : va_K D classes [(cI, .int), (cC, .char)] s) (kr : ∀ (pc : Nat) (ls : Array Slot) (H : Heap) (locs : List Loc), decode b_q_Grid_rowBits pc = .ok (.ireturn, 1) → va_P D classes [(go, .inr (2, [.ref ga])), (ga, .inl (cI, 21, .inl (fun j => nI (ro j))))] H → va_S A H0 H locs → W p l e R s m args below meth c H locs cells slots Q (F0 m pc ls [.int (nI (ro r))])) : ∀ (ls : Array Slot) (H : Heap) (locs : List Loc), lv_has ls 2 [(0, .ref go), (1, .int (nI r))] → va_P D classes [(go, .inr (2, [.ref ga])), (ga, .inl (cI, 21, .inl (fun j => nI (ro j))))] H → va_S A H0 H locs → W p l e R s m args below meth c H locs cells slots Q (F0 m 0 ls []) := by
  obtain ⟨hx, hb, hml, hown, hts⟩ := id S
  intro ls H locs hl hP hS
  refine lv_aload_n hx hb d_q_Grid_rowBits_0 rfl (lv_at hl 0 rfl) ?_
  refine n_get (C := R_Grid) (T := F_Grid) (N := 1) (v := .ref ga) hx hb hts u_Grid_in hown hK hP 0 rfl rfl 0 (by decide) kw_42 rfl d_q_Grid_rowBits_1 ?_
  refine lv_iload_n hx hb d_q_Grid_rowBits_4 rfl (lv_at hl 1 rfl) ?_
  refine n_iald hx hb hK hP 1 0 rfl rfl (by omega) (by decide) d_q_Grid_rowBits_5 ?_
  exact kr _ ls H locs d_q_Grid_rowBits_6 hP hS
set_option maxHeartbeats 1000000 in
set_option maxRecDepth 100000 in
theorem c_q_Grid_rowBits (l : Launch) (D : va_G) (cI cC : ClassId) (go ga : Nat) (ro : Nat → Nat) (r : Nat) (hr : r < 21) : Met l y_q_Grid_rowBits (cd_q_Grid_rowBits :: WS) { frames := 0, cells := 0, slots := 0, locals := 0 } (va_Pc [.ref go, .int (nI r)] (rP D [(go, .inr (2, [.ref ga])), (ga, .inl (cI, 21, .inl (fun j => nI (ro j))))] [(cI, .int), (cC, .char)])) (pQ (nI (ro r))) 0 0 noA := by
  refine Met.ofW (cc := b_q_Grid_rowBits) (maxL := 2) (ret := (some .int)) (by decide) rfl ?_
  intro p e s m args below meth c s₁ B hml hv0
  obtain ⟨rfl, hP, hK⟩ := hv0
  have hts := atoms_spec (ws := cd_q_Grid_rowBits :: WS) B.pre
  have hown : s.vm.findClass R_Grid = some m.cls := findClass_of_methodNamed B.named
  have hlocks := B.notSynchronized
  have hl := lv_entry ([.ref go, .int (nI r)]) (n := 2) (Nat.le_of_ble_eq_true rfl)
  rw [lg_entry_eq]
  generalize (lg_sl ([.ref go, .int (nI r)]) ++ List.replicate (2 - (lg_sl ([.ref go, .int (nI r)])).length) Slot.unset).toArray = ls at hl ⊢
  refine bd_q_Grid_rowBits cI cC go ga ro r hr ⟨B.exec, B.bytes, hml, hown, hts⟩ (Nat.le_refl _) (Nat.le_refl _) ⟨Nat.le_refl _, Nat.le_refl _⟩ hK (fun pc ls H locs hd hP hS => ?_) ls _ _ hl hP (va_S.rf (A := noA))
  exact W.iret B.exec B.bytes B.returns (fun t ht _ => ⟨⟨_, (), rfl, rfl, trivial⟩, hS.F ht⟩) hS.2.2 hd
end
section
theorem d_q_Grid_turnOver_0 : decode b_q_Grid_turnOver 0 = .ok (.aload_n 0, 1) := by decide +kernel
theorem d_q_Grid_turnOver_1 : decode b_q_Grid_turnOver 1 = .ok (.getfield 9, 3) := by decide +kernel
theorem d_q_Grid_turnOver_4 : decode b_q_Grid_turnOver 4 = .ok (.iload_n 1, 1) := by decide +kernel
theorem d_q_Grid_turnOver_5 : decode b_q_Grid_turnOver 5 = .ok (.dup2, 1) := by decide +kernel
theorem d_q_Grid_turnOver_6 : decode b_q_Grid_turnOver 6 = .ok (.iaload, 1) := by decide +kernel
theorem d_q_Grid_turnOver_7 : decode b_q_Grid_turnOver 7 = .ok (.iconst 1, 1) := by decide +kernel
theorem d_q_Grid_turnOver_8 : decode b_q_Grid_turnOver 8 = .ok (.bipush 20, 2) := by decide +kernel
theorem d_q_Grid_turnOver_10 : decode b_q_Grid_turnOver 10 = .ok (.iload_n 2, 1) := by decide +kernel
theorem d_q_Grid_turnOver_11 : decode b_q_Grid_turnOver 11 = .ok (.isub, 1) := by decide +kernel
theorem d_q_Grid_turnOver_12 : decode b_q_Grid_turnOver 12 = .ok (.ishl, 1) := by decide +kernel
theorem d_q_Grid_turnOver_13 : decode b_q_Grid_turnOver 13 = .ok (.ixor, 1) := by decide +kernel
theorem d_q_Grid_turnOver_14 : decode b_q_Grid_turnOver 14 = .ok (.iastore, 1) := by decide +kernel
theorem d_q_Grid_turnOver_15 : decode b_q_Grid_turnOver 15 = .ok (.return_, 1) := by decide +kernel
end
section
variable {p : Program} {l : Launch} {e : Env} {R : Room} {s : State} {m : MethodId} {args : Array Value} {below : List Frame} {meth : Method} {c : Code} {cells slots : Nat} {Q : State → Prop} {A : Nat → Prop} {H0 : Heap} {D : va_G}
set_option maxHeartbeats 1000000 in
set_option maxRecDepth 100000 in
theorem bd_q_Grid_turnOver (cI cC : ClassId) (go ga : Nat) (ro : Nat → Nat) (r d : Nat) (hr : r < 21) (hd0 : d < 21) (S : CallFix p m c b_q_Grid_turnOver 3 s args (cd_q_Grid_turnOver :: WS) R_Grid) (hRf : 0 ≤ R.frames) (hRl : 0 ≤ R.locals) (hRc : cells ≤ R.cells ∧ slots ≤ R.slots) (hK : va_K D classes [(cI, .int), (cC, .char)] s) (hA : ∀ q, H0.size ≤ q → A q) (kr : ∀ (pc : Nat) (ls : Array Slot) (H : Heap) (locs : List Loc), decode b_q_Grid_turnOver pc = .ok (.return_, 1) → va_P D classes [(go, .inr (2, [.ref ga])), (ga, .inl (cI, 21, .inl (fun j => nI ((va_up ro r (ro r ^^^ 2 ^ (20 - d))) j))))] H → va_D A [(go, .inr (2, [.ref ga])), (ga, .inl (cI, 21, .inl (fun j => nI ((va_up ro r (ro r ^^^ 2 ^ (20 - d))) j))))] → va_S A H0 H locs → W p l e R s m args below meth c H locs cells slots Q (F0 m pc ls [])) : ∀ (ls : Array Slot) (H : Heap) (locs : List Loc), lv_has ls 3 [(0, .ref go), (1, .int (nI r)), (2, .int (nI d))] → va_P D classes [(go, .inr (2, [.ref ga])), (ga, .inl (cI, 21, .inl (fun j => nI (ro j))))] H → va_D A [(go, .inr (2, [.ref ga])), (ga, .inl (cI, 21, .inl (fun j => nI (ro j))))] → va_S A H0 H locs → W p l e R s m args below meth c H locs cells slots Q (F0 m 0 ls []) := by
  obtain ⟨hx, hb, hml, hown, hts⟩ := id S
  intro ls H locs hl hP hD hS
  refine lv_aload_n hx hb d_q_Grid_turnOver_0 rfl (lv_at hl 0 rfl) ?_
  refine n_get (C := R_Grid) (T := F_Grid) (N := 1) (v := .ref ga) hx hb hts u_Grid_in hown hK hP 0 rfl rfl 0 (by decide) kw_42 rfl d_q_Grid_turnOver_1 ?_
  refine lv_iload_n hx hb d_q_Grid_turnOver_4 rfl (lv_at hl 1 rfl) ?_
  refine lv_dup2_11 hx hb d_q_Grid_turnOver_5 rfl rfl ?_
  refine n_iald hx hb hK hP 1 0 rfl rfl (by omega) (by decide) d_q_Grid_turnOver_6 ?_
  refine lv_iconst (v := nI 1) hx hb d_q_Grid_turnOver_7 (by decide) ?_
  refine lv_bipush (v := nI 20) hx hb d_q_Grid_turnOver_8 (by decide) ?_
  refine lv_iload_n hx hb d_q_Grid_turnOver_10 rfl (lv_at hl 2 rfl) ?_
  refine n_isub hx hb d_q_Grid_turnOver_11 (by omega) ?_
  refine n_ishl hx hb d_q_Grid_turnOver_12 (by omega) ?_
  refine n_topn (show 1 * 2 ^ (20 - d) = 2 ^ (20 - d) from (Nat.one_mul _)) ?_
  refine n_ixor hx hb d_q_Grid_turnOver_13 ?_
  refine n_iast hx hb hK hP hD hS 1 0 rfl rfl (by omega) (by decide) d_q_Grid_turnOver_14 (fun H locs hP hD hS => ?_)
  have hP : va_P D classes [(go, .inr (2, [.ref ga])), (ga, .inl (cI, 21, .inl (fun j => nI ((va_up ro r ((ro r) ^^^ (2 ^ (20 - d)))) j))))] H := hP
  have hD : va_D A [(go, .inr (2, [.ref ga])), (ga, .inl (cI, 21, .inl (fun j => nI ((va_up ro r ((ro r) ^^^ (2 ^ (20 - d)))) j))))] := hD
  exact kr _ ls H locs d_q_Grid_turnOver_15 hP hD hS
set_option maxHeartbeats 1000000 in
set_option maxRecDepth 100000 in
theorem c_q_Grid_turnOver (l : Launch) (D : va_G) (cI cC : ClassId) (go ga : Nat) (ro : Nat → Nat) (r d : Nat) (hr : r < 21) (hd0 : d < 21) (sz : Nat) : Met l y_q_Grid_turnOver (cd_q_Grid_turnOver :: WS) { frames := 0, cells := 0, slots := 0, locals := 0 } (va_Pc [.ref go, .int (nI r), .int (nI d)] (wP D [(go, .inr (2, [.ref ga])), (ga, .inl (cI, 21, .inl (fun j => nI (ro j))))] [(cI, .int), (cC, .char)] sz)) (wQv D [(go, .inr (2, [.ref ga])), (ga, .inl (cI, 21, .inl (fun j => nI (ro j))))] [(go, .inr (2, [.ref ga])), (ga, .inl (cI, 21, .inl (fun j => nI ((va_up ro r (ro r ^^^ 2 ^ (20 - d))) j))))] sz) 0 0 (va_A [(go, .inr (2, [.ref ga])), (ga, .inl (cI, 21, .inl (fun j => nI (ro j))))] sz) := by
  refine Met.ofW (cc := b_q_Grid_turnOver) (maxL := 3) (ret := none) (by decide) rfl ?_
  intro p e s m args below meth c s₁ B hml hv0
  obtain ⟨rfl, hP, hK, hD0, hsz⟩ := hv0
  have hts := atoms_spec (ws := cd_q_Grid_turnOver :: WS) B.pre
  have hown : s.vm.findClass R_Grid = some m.cls := findClass_of_methodNamed B.named
  have hlocks := B.notSynchronized
  subst hsz
  have hD := hD0.self (sz := s.heap.size)
  have hl := lv_entry ([.ref go, .int (nI r), .int (nI d)]) (n := 3) (Nat.le_of_ble_eq_true rfl)
  rw [lg_entry_eq]
  generalize (lg_sl ([.ref go, .int (nI r), .int (nI d)]) ++ List.replicate (3 - (lg_sl ([.ref go, .int (nI r), .int (nI d)])).length) Slot.unset).toArray = ls at hl ⊢
  refine bd_q_Grid_turnOver cI cC go ga ro r d hr hd0 ⟨B.exec, B.bytes, hml, hown, hts⟩ (Nat.le_refl _) (Nat.le_refl _) ⟨Nat.le_refl _, Nat.le_refl _⟩ hK (fun q h => Or.inr h) (fun pc ls H locs hd hP hD hS => ?_) ls _ _ hl hP hD (va_S.rf)
  exact W.vret B.exec B.bytes B.returns (fun t ht _ => ⟨⟨(), rfl, trivial, (by have h9 := hP; rw [← ht] at h9; exact h9)⟩, hS.F ht⟩) hS.2.2 hd
end
section
theorem d_q_Grid_columnBits_0 : decode b_q_Grid_columnBits 0 = .ok (.iconst 0, 1) := by decide +kernel
theorem d_q_Grid_columnBits_1 : decode b_q_Grid_columnBits 1 = .ok (.istore_n 2, 1) := by decide +kernel
theorem d_q_Grid_columnBits_2 : decode b_q_Grid_columnBits 2 = .ok (.iconst 0, 1) := by decide +kernel
theorem d_q_Grid_columnBits_3 : decode b_q_Grid_columnBits 3 = .ok (.istore_n 3, 1) := by decide +kernel
theorem d_q_Grid_columnBits_4 : decode b_q_Grid_columnBits 4 = .ok (.iload_n 3, 1) := by decide +kernel
theorem d_q_Grid_columnBits_5 : decode b_q_Grid_columnBits 5 = .ok (.bipush 21, 2) := by decide +kernel
theorem d_q_Grid_columnBits_7 : decode b_q_Grid_columnBits 7 = .ok (.if_icmp .ge 20, 3) := by decide +kernel
theorem d_q_Grid_columnBits_10 : decode b_q_Grid_columnBits 10 = .ok (.iload_n 2, 1) := by decide +kernel
theorem d_q_Grid_columnBits_11 : decode b_q_Grid_columnBits 11 = .ok (.iconst 1, 1) := by decide +kernel
theorem d_q_Grid_columnBits_12 : decode b_q_Grid_columnBits 12 = .ok (.ishl, 1) := by decide +kernel
theorem d_q_Grid_columnBits_13 : decode b_q_Grid_columnBits 13 = .ok (.aload_n 0, 1) := by decide +kernel
theorem d_q_Grid_columnBits_14 : decode b_q_Grid_columnBits 14 = .ok (.iload_n 3, 1) := by decide +kernel
theorem d_q_Grid_columnBits_15 : decode b_q_Grid_columnBits 15 = .ok (.iload_n 1, 1) := by decide +kernel
theorem d_q_Grid_columnBits_16 : decode b_q_Grid_columnBits 16 = .ok (.invokevirtual 35, 3) := by decide +kernel
theorem d_q_Grid_columnBits_19 : decode b_q_Grid_columnBits 19 = .ok (.ior, 1) := by decide +kernel
theorem d_q_Grid_columnBits_20 : decode b_q_Grid_columnBits 20 = .ok (.istore_n 2, 1) := by decide +kernel
theorem d_q_Grid_columnBits_21 : decode b_q_Grid_columnBits 21 = .ok (.iinc 3 1, 3) := by decide +kernel
theorem d_q_Grid_columnBits_24 : decode b_q_Grid_columnBits 24 = .ok (.goto (-20), 3) := by decide +kernel
theorem d_q_Grid_columnBits_27 : decode b_q_Grid_columnBits 27 = .ok (.iload_n 2, 1) := by decide +kernel
theorem d_q_Grid_columnBits_28 : decode b_q_Grid_columnBits 28 = .ok (.ireturn, 1) := by decide +kernel
end
section
variable {p : Program} {l : Launch} {e : Env} {R : Room} {s : State} {m : MethodId} {args : Array Value} {below : List Frame} {meth : Method} {c : Code} {cells slots : Nat} {Q : State → Prop} {A : Nat → Prop} {H0 : Heap} {D : va_G}
set_option maxHeartbeats 1000000 in
set_option maxRecDepth 100000 in
theorem lp_q_Grid_columnBits_4 (cI cC : ClassId) (go ga : Nat) (ro : Nat → Nat) (d : Nat) (hd0 : d < 21) (hro : ∀ j, j < 21 → ro j < 2097152) (S : CallFix p m c b_q_Grid_columnBits 4 s args (cd_q_Grid_columnBits :: WS) R_Grid) (hRf : 1 ≤ R.frames) (hRl : 22 ≤ R.locals) (hRc : cells ≤ R.cells ∧ slots ≤ R.slots) (hK : va_K D classes [(cI, .int), (cC, .char)] s) (kx : ∀ (ls : Array Slot) (H : Heap) (locs : List Loc), lv_has ls 4 [(0, .ref go), (1, .int (nI d)), (2, .int (nI (clN ro d 21))), (3, .int (nI 21))] → va_P D classes [(go, .inr (2, [.ref ga])), (ga, .inl (cI, 21, .inl (fun j => nI (ro j))))] H → va_S A H0 H locs → W p l e R s m args below meth c H locs cells slots Q (F0 m 27 ls [])) :
    ∀ k, k ≤ 21 → ∀ (ls : Array Slot) (H : Heap) (locs : List Loc), lv_has ls 4 [(0, .ref go), (1, .int (nI d)), (2, .int (nI (clN ro d k))), (3, .int (nI k))] → va_P D classes [(go, .inr (2, [.ref ga])), (ga, .inl (cI, 21, .inl (fun j => nI (ro j))))] H → va_S A H0 H locs → W p l e R s m args below meth c H locs cells slots Q (F0 m 4 ls []) := by
  obtain ⟨hx, hb, hml, hown, hts⟩ := id S
  refine up_loop (fun k hkk ih => ?_)
  intro ls H locs hl hP hS
  refine lv_iload_n hx hb d_q_Grid_columnBits_4 rfl (lv_at hl 3 rfl) ?_
  refine lv_bipush (v := nI 21) hx hb d_q_Grid_columnBits_5 (by decide) ?_
  refine n_icmp_ge hx hb d_q_Grid_columnBits_7 (tgt := 27) rfl (by omega) (by omega) (fun g7 => ?_) (fun g7 => ?_)
  · skip
    obtain rfl : k = 21 := by omega
    exact kx ls H locs (lv_sub hl [0, 1, 2, 3] rfl) hP hS
  · skip
    refine lv_iload_n hx hb d_q_Grid_columnBits_10 rfl (lv_at hl 2 rfl) ?_
    refine lv_iconst (v := nI 1) hx hb d_q_Grid_columnBits_11 (by decide) ?_
    refine n_ishl hx hb d_q_Grid_columnBits_12 (by omega) ?_
    refine lv_aload_n hx hb d_q_Grid_columnBits_13 rfl (lv_at hl 0 rfl) ?_
    refine lv_iload_n hx hb d_q_Grid_columnBits_14 rfl (lv_at hl 3 rfl) ?_
    refine lv_iload_n hx hb d_q_Grid_columnBits_15 rfl (lv_at hl 1 rfl) ?_
    refine q_readV (n := 2) (As := [.int (nI k), .int (nI d)]) (rest := [.int (nI ((clN ro d k) * 2 ^ 1))]) (wc := [(go, .inr (2, [.ref ga])), (ga, .inl (cI, 21, .inl (fun j => nI (ro j))))]) S (c_q_Grid_at l D cI cC go ga ro k d (by omega) (by omega) hro) hK hP (q0 := 0) rfl rfl [0, 1] rfl (q_goodV kw_274 kw_227 kw_228 kw_2 kw_229) (by decide +kernel) rfl rfl rfl ⟨Nat.le_trans (Nat.le_of_ble_eq_true rfl) hRf, Nat.le_trans (Nat.le_of_ble_eq_true rfl) hRl⟩ rfl hl.1 rfl (Nat.le_of_ble_eq_true rfl) d_q_Grid_columnBits_16 hRc hS (fun H locs hP hS => ?_)
    refine n_ior hx hb d_q_Grid_columnBits_19 ?_
    refine n_topn (show ((clN ro d k) * 2 ^ 1) ||| (ro k / 2 ^ (20 - d) % 2) = clN ro d (k + 1) from rfl) ?_
    refine lv_istore_n hx hb d_q_Grid_columnBits_20 rfl hl (Nat.le_of_ble_eq_true rfl) rfl (fun ls hl => ?_)
    have hl : lv_has ls 4 [(2, .int (nI (clN ro d (k + 1)))), (0, .ref go), (1, .int (nI d)), (3, .int (nI k))] := hl
    refine lv_iinc (k := 3) (v := nI (k + 1)) hx hb d_q_Grid_columnBits_21 hl rfl (nx_inc k 1) (Nat.le_of_ble_eq_true rfl) rfl (fun ls hl => ?_)
    have hl : lv_has ls 4 [(3, .int (nI (k + 1))), (2, .int (nI (clN ro d (k + 1)))), (0, .ref go), (1, .int (nI d))] := hl
    refine lv_goto hx hb d_q_Grid_columnBits_24 (tgt := 4) rfl ?_
    exact ih (by omega) ls H locs (lv_sub hl [2, 3, 1, 0] rfl) hP hS
set_option maxHeartbeats 1000000 in
set_option maxRecDepth 100000 in
theorem bd_q_Grid_columnBits (cI cC : ClassId) (go ga : Nat) (ro : Nat → Nat) (d : Nat) (hd0 : d < 21) (hro : ∀ j, j < 21 → ro j < 2097152) (S : CallFix p m c b_q_Grid_columnBits 4 s args (cd_q_Grid_columnBits :: WS) R_Grid) (hRf : 1 ≤ R.frames) (hRl : 22 ≤ R.locals) (hRc : cells ≤ R.cells ∧ slots ≤ R.slots) (hK : va_K D classes [(cI, .int), (cC, .char)] s) (kr : ∀ (pc : Nat) (ls : Array Slot) (H : Heap) (locs : List Loc), decode b_q_Grid_columnBits pc = .ok (.ireturn, 1) → va_P D classes [(go, .inr (2, [.ref ga])), (ga, .inl (cI, 21, .inl (fun j => nI (ro j))))] H → va_S A H0 H locs → W p l e R s m args below meth c H locs cells slots Q (F0 m pc ls [.int (nI (clN ro d 21))])) : ∀ (ls : Array Slot) (H : Heap) (locs : List Loc), lv_has ls 4 [(0, .ref go), (1, .int (nI d))] → va_P D classes [(go, .inr (2, [.ref ga])), (ga, .inl (cI, 21, .inl (fun j => nI (ro j))))] H → va_S A H0 H locs → W p l e R s m args below meth c H locs cells slots Q (F0 m 0 ls []) := by
  obtain ⟨hx, hb, hml, hown, hts⟩ := id S
  intro ls H locs hl hP hS
  refine lv_iconst (v := nI 0) hx hb d_q_Grid_columnBits_0 (by decide) ?_
  refine lv_istore_n hx hb d_q_Grid_columnBits_1 rfl hl (Nat.le_of_ble_eq_true rfl) rfl (fun ls hl => ?_)
  have hl : lv_has ls 4 [(2, .int (nI 0)), (0, .ref go), (1, .int (nI d))] := hl
  refine lv_iconst (v := nI 0) hx hb d_q_Grid_columnBits_2 (by decide) ?_
  refine lv_istore_n hx hb d_q_Grid_columnBits_3 rfl hl (Nat.le_of_ble_eq_true rfl) rfl (fun ls hl => ?_)
  have hl : lv_has ls 4 [(3, .int (nI 0)), (2, .int (nI 0)), (0, .ref go), (1, .int (nI d))] := hl
  refine lp_q_Grid_columnBits_4 cI cC go ga ro d hd0 hro S hRf hRl hRc hK  (fun ls H locs hl hP hS => ?_) 0 (by omega) ls H locs (lv_sub hl [2, 3, 1, 0] rfl) hP hS
  refine lv_iload_n hx hb d_q_Grid_columnBits_27 rfl (lv_at hl 2 rfl) ?_
  exact kr _ ls H locs d_q_Grid_columnBits_28 hP hS
set_option maxHeartbeats 1000000 in
set_option maxRecDepth 100000 in
theorem c_q_Grid_columnBits (l : Launch) (D : va_G) (cI cC : ClassId) (go ga : Nat) (ro : Nat → Nat) (d : Nat) (hd0 : d < 21) (hro : ∀ j, j < 21 → ro j < 2097152) : Met l y_q_Grid_columnBits (cd_q_Grid_columnBits :: WS) { frames := 1, cells := 0, slots := 0, locals := 22 } (va_Pc [.ref go, .int (nI d)] (rP D [(go, .inr (2, [.ref ga])), (ga, .inl (cI, 21, .inl (fun j => nI (ro j))))] [(cI, .int), (cC, .char)])) (pQ (nI (clN ro d 21))) 0 0 noA := by
  refine Met.ofW (cc := b_q_Grid_columnBits) (maxL := 4) (ret := (some .int)) (by decide) rfl ?_
  intro p e s m args below meth c s₁ B hml hv0
  obtain ⟨rfl, hP, hK⟩ := hv0
  have hts := atoms_spec (ws := cd_q_Grid_columnBits :: WS) B.pre
  have hown : s.vm.findClass R_Grid = some m.cls := findClass_of_methodNamed B.named
  have hlocks := B.notSynchronized
  have hl := lv_entry ([.ref go, .int (nI d)]) (n := 4) (Nat.le_of_ble_eq_true rfl)
  rw [lg_entry_eq]
  generalize (lg_sl ([.ref go, .int (nI d)]) ++ List.replicate (4 - (lg_sl ([.ref go, .int (nI d)])).length) Slot.unset).toArray = ls at hl ⊢
  refine bd_q_Grid_columnBits cI cC go ga ro d hd0 hro ⟨B.exec, B.bytes, hml, hown, hts⟩ (Nat.le_refl _) (Nat.le_refl _) ⟨Nat.le_refl _, Nat.le_refl _⟩ hK (fun pc ls H locs hd hP hS => ?_) ls _ _ hl hP (va_S.rf (A := noA))
  exact W.iret B.exec B.bytes B.returns (fun t ht _ => ⟨⟨_, (), rfl, rfl, trivial⟩, hS.F ht⟩) hS.2.2 hd
end
