theorem kw_906 : (Jvm.Cond.methodLink "SquareCodesModel" (124 : Nat) ({ cls := "SquareCodesModel", name := "ugly", desc := "()I" } : Jvm.MethodName)) ∈ WS := WS_tbl 906 (by decide +kernel) rfl
theorem kw_908 : (Jvm.Cond.instanceMethod ({ cls := "SquareCodesModel", name := "ugly", desc := "()I" } : Jvm.MethodName)) ∈ WS := WS_tbl 908 (by decide +kernel) rfl
theorem ks_26 : Cond.selects R_Model y_m_ugly y_m_ugly ∈ WS := WS_sel 26 (by decide +kernel) rfl
set_option maxRecDepth 1000000 in
theorem kw_909 : cd_m_ugly ∈ WS := WS_tbl 909 rfl rfl
theorem kw_782 : (Jvm.Cond.fieldLink "SquareCodesModel" (22 : Nat) "SquareCodesModel" "formAt" "[I") ∈ WS := WS_tbl 782 (by decide +kernel) rfl
theorem kw_900 : (Jvm.Cond.methodLink "SquareCodesModel" (96 : Nat) ({ cls := "SquareCodesModel", name := "form", desc := "(II)I" } : Jvm.MethodName)) ∈ WS := WS_tbl 900 (by decide +kernel) rfl
theorem kw_901 : (Jvm.Cond.static ({ cls := "SquareCodesModel", name := "form", desc := "(II)I" } : Jvm.MethodName)) ∈ WS := WS_tbl 901 (by decide +kernel) rfl
set_option maxRecDepth 1000000 in
theorem kw_902 : cd_m_form ∈ WS := WS_tbl 902 rfl rfl
theorem kw_783 : (Jvm.Cond.fieldLink "SquareCodesModel" (25 : Nat) "SquareCodesModel" "dataAt" "[I") ∈ WS := WS_tbl 783 (by decide +kernel) rfl
theorem kw_903 : (Jvm.Cond.methodLink "SquareCodesModel" (99 : Nat) ({ cls := "SquareCodesModel", name := "turns", desc := "(III)Z" } : Jvm.MethodName)) ∈ WS := WS_tbl 903 (by decide +kernel) rfl
theorem kw_904 : (Jvm.Cond.static ({ cls := "SquareCodesModel", name := "turns", desc := "(III)Z" } : Jvm.MethodName)) ∈ WS := WS_tbl 904 (by decide +kernel) rfl
set_option maxRecDepth 1000000 in
theorem kw_905 : cd_m_turns ∈ WS := WS_tbl 905 rfl rfl
theorem kw_786 : (Jvm.Cond.fieldLink "SquareCodesModel" (31 : Nat) "SquareCodesModel" "bytes" "[I") ∈ WS := WS_tbl 786 (by decide +kernel) rfl
theorem kw_781 : (Jvm.Cond.fieldLink "SquareCodesModel" (19 : Nat) "SquareCodesModel" "sort" "[I") ∈ WS := WS_tbl 781 (by decide +kernel) rfl
theorem kw_897 : (Jvm.Cond.methodLink "SquareCodesModel" (93 : Nat) ({ cls := "SquareCodesModel", name := "fixedAt", desc := "(II)I" } : Jvm.MethodName)) ∈ WS := WS_tbl 897 (by decide +kernel) rfl
theorem kw_898 : (Jvm.Cond.static ({ cls := "SquareCodesModel", name := "fixedAt", desc := "(II)I" } : Jvm.MethodName)) ∈ WS := WS_tbl 898 (by decide +kernel) rfl
set_option maxRecDepth 1000000 in
theorem kw_899 : cd_m_fixedAt ∈ WS := WS_tbl 899 rfl rfl
section
theorem d_m_ugliness_0 : decode b_m_ugliness 0 = .ok (.aload_n 0, 1) := by decide +kernel
theorem d_m_ugliness_1 : decode b_m_ugliness 1 = .ok (.iconst 0, 1) := by decide +kernel
theorem d_m_ugliness_2 : decode b_m_ugliness 2 = .ok (.putfield 65, 3) := by decide +kernel
theorem d_m_ugliness_5 : decode b_m_ugliness 5 = .ok (.iconst 0, 1) := by decide +kernel
theorem d_m_ugliness_6 : decode b_m_ugliness 6 = .ok (.istore_n 1, 1) := by decide +kernel
theorem d_m_ugliness_7 : decode b_m_ugliness 7 = .ok (.iload_n 1, 1) := by decide +kernel
theorem d_m_ugliness_8 : decode b_m_ugliness 8 = .ok (.sipush 441, 3) := by decide +kernel
theorem d_m_ugliness_11 : decode b_m_ugliness 11 = .ok (.if_icmp .ge 21, 3) := by decide +kernel
theorem d_m_ugliness_14 : decode b_m_ugliness 14 = .ok (.aload_n 0, 1) := by decide +kernel
theorem d_m_ugliness_15 : decode b_m_ugliness 15 = .ok (.getfield 16, 3) := by decide +kernel
theorem d_m_ugliness_18 : decode b_m_ugliness 18 = .ok (.iload_n 1, 1) := by decide +kernel
theorem d_m_ugliness_19 : decode b_m_ugliness 19 = .ok (.aload_n 0, 1) := by decide +kernel
theorem d_m_ugliness_20 : decode b_m_ugliness 20 = .ok (.getfield 13, 3) := by decide +kernel
theorem d_m_ugliness_23 : decode b_m_ugliness 23 = .ok (.iload_n 1, 1) := by decide +kernel
theorem d_m_ugliness_24 : decode b_m_ugliness 24 = .ok (.iaload, 1) := by decide +kernel
theorem d_m_ugliness_25 : decode b_m_ugliness 25 = .ok (.iastore, 1) := by decide +kernel
theorem d_m_ugliness_26 : decode b_m_ugliness 26 = .ok (.iinc 1 1, 3) := by decide +kernel
theorem d_m_ugliness_29 : decode b_m_ugliness 29 = .ok (.goto (-22), 3) := by decide +kernel
theorem d_m_ugliness_32 : decode b_m_ugliness 32 = .ok (.aload_n 0, 1) := by decide +kernel
theorem d_m_ugliness_33 : decode b_m_ugliness 33 = .ok (.invokevirtual 124, 3) := by decide +kernel
theorem d_m_ugliness_36 : decode b_m_ugliness 36 = .ok (.ireturn, 1) := by decide +kernel
end
section
variable {p : Program} {l : Launch} {e : Env} {R : Room} {s : State} {m : MethodId} {args : Array Value} {below : List Frame} {meth : Method} {c : Code} {cells slots : Nat} {Q : State → Prop} {A : Nat → Prop} {H0 : Heap} {D : va_G}
set_option maxHeartbeats 1000000 in
set_option maxRecDepth 100000 in
theorem lp_m_ugliness_7 (cI cC : ClassId) (h i0 i1 a2 a3 a4 a5 a6 a7 a8 i9 a10 a11 a12 a13 a14 a15 i16 i17 a18 i19 a20 a21 i22 a23 : Nat) (gr dr : Nat → Nat) (hgr : ∀ j, j < 441 → gr j ≤ 1) (S : CallFix p m c b_m_ugliness 2 s args (cd_m_ugliness :: WS) R_Model) (hRf : 3 ≤ R.frames) (hRl : 71 ≤ R.locals) (hRc : cells ≤ R.cells ∧ slots ≤ R.slots) (hK : va_K D classes [(cI, .int), (cC, .char)] s) (hA : ∀ q, H0.size ≤ q → A q) (kx : ∀ (ls : Array Slot) (H : Heap) (locs : List Loc), lv_has ls 2 [(0, .ref h), (1, .int (nI 441))] → va_P D classes [(h, .inr (8, [.int (nI 0), .int (nI i1), .ref a2, .ref a3, .ref a4, .ref a5, .ref a6, .ref a7, .ref a8, .int (nI i9), .ref a10, .ref a11, .ref a12, .ref a13, .ref a14, .ref a15, .int (nI i16), .int (nI i17), .ref a18, .int (nI i19), .ref a20, .ref a21, .int (nI i22), .ref a23])), (a3, .inl (cI, 441, .inl (fun j => nI (gr j)))), (a4, .inl (cI, 441, .inl (fun j => nI ((cpL dr gr 441) j))))] H → va_D A [(h, .inr (8, [.int (nI 0), .int (nI i1), .ref a2, .ref a3, .ref a4, .ref a5, .ref a6, .ref a7, .ref a8, .int (nI i9), .ref a10, .ref a11, .ref a12, .ref a13, .ref a14, .ref a15, .int (nI i16), .int (nI i17), .ref a18, .int (nI i19), .ref a20, .ref a21, .int (nI i22), .ref a23])), (a3, .inl (cI, 441, .inl (fun j => nI (gr j)))), (a4, .inl (cI, 441, .inl (fun j => nI ((cpL dr gr 441) j))))] → va_S A H0 H locs → W p l e R s m args below meth c H locs cells slots Q (F0 m 32 ls [])) :
    ∀ k, k ≤ 441 → ∀ (ls : Array Slot) (H : Heap) (locs : List Loc), lv_has ls 2 [(0, .ref h), (1, .int (nI k))] → va_P D classes [(h, .inr (8, [.int (nI 0), .int (nI i1), .ref a2, .ref a3, .ref a4, .ref a5, .ref a6, .ref a7, .ref a8, .int (nI i9), .ref a10, .ref a11, .ref a12, .ref a13, .ref a14, .ref a15, .int (nI i16), .int (nI i17), .ref a18, .int (nI i19), .ref a20, .ref a21, .int (nI i22), .ref a23])), (a3, .inl (cI, 441, .inl (fun j => nI (gr j)))), (a4, .inl (cI, 441, .inl (fun j => nI ((cpL dr gr k) j))))] H → va_D A [(h, .inr (8, [.int (nI 0), .int (nI i1), .ref a2, .ref a3, .ref a4, .ref a5, .ref a6, .ref a7, .ref a8, .int (nI i9), .ref a10, .ref a11, .ref a12, .ref a13, .ref a14, .ref a15, .int (nI i16), .int (nI i17), .ref a18, .int (nI i19), .ref a20, .ref a21, .int (nI i22), .ref a23])), (a3, .inl (cI, 441, .inl (fun j => nI (gr j)))), (a4, .inl (cI, 441, .inl (fun j => nI ((cpL dr gr k) j))))] → va_S A H0 H locs → W p l e R s m args below meth c H locs cells slots Q (F0 m 7 ls []) := by
  obtain ⟨hx, hb, hml, hown, hts⟩ := id S
  refine up_loop (fun k hkk ih => ?_)
  intro ls H locs hl hP hD hS
  refine lv_iload_n hx hb d_m_ugliness_7 rfl (lv_at hl 1 rfl) ?_
  refine lv_sipush (v := nI 441) hx hb d_m_ugliness_8 (by decide) ?_
  refine n_icmp_ge hx hb d_m_ugliness_11 (tgt := 32) rfl (by omega) (by omega) (fun g11 => ?_) (fun g11 => ?_)
  · skip
    obtain rfl : k = 441 := by omega
    exact kx ls H locs (lv_sub hl [0, 1] rfl) hP hD hS
  · skip
    refine lv_aload_n hx hb d_m_ugliness_14 rfl (lv_at hl 0 rfl) ?_
    refine n_get (C := R_Model) (T := F_Model) (N := 24) (v := .ref a4) hx hb hts u_Model_in hown hK hP 0 rfl rfl 4 (by decide) kw_780 rfl d_m_ugliness_15 ?_
    refine lv_iload_n hx hb d_m_ugliness_18 rfl (lv_at hl 1 rfl) ?_
    refine lv_aload_n hx hb d_m_ugliness_19 rfl (lv_at hl 0 rfl) ?_
    refine n_get (C := R_Model) (T := F_Model) (N := 24) (v := .ref a3) hx hb hts u_Model_in hown hK hP 0 rfl rfl 3 (by decide) kw_779 rfl d_m_ugliness_20 ?_
    refine lv_iload_n hx hb d_m_ugliness_23 rfl (lv_at hl 1 rfl) ?_
    refine n_iald hx hb hK hP 1 0 rfl rfl (by omega) (by decide) d_m_ugliness_24 ?_
    refine n_iast hx hb hK hP hD hS 2 0 rfl rfl (by omega) (by decide) d_m_ugliness_25 (fun H locs hP hD hS => ?_)
    have hP : va_P D classes [(h, .inr (8, [.int (nI 0), .int (nI i1), .ref a2, .ref a3, .ref a4, .ref a5, .ref a6, .ref a7, .ref a8, .int (nI i9), .ref a10, .ref a11, .ref a12, .ref a13, .ref a14, .ref a15, .int (nI i16), .int (nI i17), .ref a18, .int (nI i19), .ref a20, .ref a21, .int (nI i22), .ref a23])), (a3, .inl (cI, 441, .inl (fun j => nI (gr j)))), (a4, .inl (cI, 441, .inl (fun j => nI ((va_up (cpL dr gr k) k (gr k)) j))))] H := hP
    have hD : va_D A [(h, .inr (8, [.int (nI 0), .int (nI i1), .ref a2, .ref a3, .ref a4, .ref a5, .ref a6, .ref a7, .ref a8, .int (nI i9), .ref a10, .ref a11, .ref a12, .ref a13, .ref a14, .ref a15, .int (nI i16), .int (nI i17), .ref a18, .int (nI i19), .ref a20, .ref a21, .int (nI i22), .ref a23])), (a3, .inl (cI, 441, .inl (fun j => nI (gr j)))), (a4, .inl (cI, 441, .inl (fun j => nI ((va_up (cpL dr gr k) k (gr k)) j))))] := hD
    rw [show va_up (cpL dr gr k) k (gr k) = cpL dr gr (k + 1) from rfl] at hP hD
    refine lv_iinc (k := 1) (v := nI (k + 1)) hx hb d_m_ugliness_26 hl rfl (nx_inc k 1) (Nat.le_of_ble_eq_true rfl) rfl (fun ls hl => ?_)
    have hl : lv_has ls 2 [(1, .int (nI (k + 1))), (0, .ref h)] := hl
    refine lv_goto hx hb d_m_ugliness_29 (tgt := 7) rfl ?_
    exact ih (by omega) ls H locs (lv_sub hl [1, 0] rfl) hP hD hS
set_option maxHeartbeats 1000000 in
set_option maxRecDepth 100000 in
theorem bd_m_ugliness (cI cC : ClassId) (h i0 i1 a2 a3 a4 a5 a6 a7 a8 i9 a10 a11 a12 a13 a14 a15 i16 i17 a18 i19 a20 a21 i22 a23 : Nat) (gr dr : Nat → Nat) (hgr : ∀ j, j < 441 → gr j ≤ 1) (S : CallFix p m c b_m_ugliness 2 s args (cd_m_ugliness :: WS) R_Model) (hRf : 3 ≤ R.frames) (hRl : 71 ≤ R.locals) (hRc : cells ≤ R.cells ∧ slots ≤ R.slots) (hK : va_K D classes [(cI, .int), (cC, .char)] s) (hA : ∀ q, H0.size ≤ q → A q) (kr : ∀ (pc : Nat) (ls : Array Slot) (H : Heap) (locs : List Loc), decode b_m_ugliness pc = .ok (.ireturn, 1) → va_P D classes [(h, .inr (8, [.int (nI 0), .int (nI i1), .ref a2, .ref a3, .ref a4, .ref a5, .ref a6, .ref a7, .ref a8, .int (nI i9), .ref a10, .ref a11, .ref a12, .ref a13, .ref a14, .ref a15, .int (nI i16), .int (nI i17), .ref a18, .int (nI i19), .ref a20, .ref a21, .int (nI i22), .ref a23])), (a3, .inl (cI, 441, .inl (fun j => nI (gr j)))), (a4, .inl (cI, 441, .inl (fun j => nI ((cpL dr gr 441) j))))] H → va_D A [(h, .inr (8, [.int (nI 0), .int (nI i1), .ref a2, .ref a3, .ref a4, .ref a5, .ref a6, .ref a7, .ref a8, .int (nI i9), .ref a10, .ref a11, .ref a12, .ref a13, .ref a14, .ref a15, .int (nI i16), .int (nI i17), .ref a18, .int (nI i19), .ref a20, .ref a21, .int (nI i22), .ref a23])), (a3, .inl (cI, 441, .inl (fun j => nI (gr j)))), (a4, .inl (cI, 441, .inl (fun j => nI ((cpL dr gr 441) j))))] → va_S A H0 H locs → W p l e R s m args below meth c H locs cells slots Q (F0 m pc ls [.int (nI (ugN (cpL dr gr 441)))])) : ∀ (ls : Array Slot) (H : Heap) (locs : List Loc), lv_has ls 2 [(0, .ref h)] → va_P D classes [(h, .inr (8, [.int (nI i0), .int (nI i1), .ref a2, .ref a3, .ref a4, .ref a5, .ref a6, .ref a7, .ref a8, .int (nI i9), .ref a10, .ref a11, .ref a12, .ref a13, .ref a14, .ref a15, .int (nI i16), .int (nI i17), .ref a18, .int (nI i19), .ref a20, .ref a21, .int (nI i22), .ref a23])), (a3, .inl (cI, 441, .inl (fun j => nI (gr j)))), (a4, .inl (cI, 441, .inl (fun j => nI (dr j))))] H → va_D A [(h, .inr (8, [.int (nI i0), .int (nI i1), .ref a2, .ref a3, .ref a4, .ref a5, .ref a6, .ref a7, .ref a8, .int (nI i9), .ref a10, .ref a11, .ref a12, .ref a13, .ref a14, .ref a15, .int (nI i16), .int (nI i17), .ref a18, .int (nI i19), .ref a20, .ref a21, .int (nI i22), .ref a23])), (a3, .inl (cI, 441, .inl (fun j => nI (gr j)))), (a4, .inl (cI, 441, .inl (fun j => nI (dr j))))] → va_S A H0 H locs → W p l e R s m args below meth c H locs cells slots Q (F0 m 0 ls []) := by
  obtain ⟨hx, hb, hml, hown, hts⟩ := id S
  intro ls H locs hl hP hD hS
  refine lv_aload_n hx hb d_m_ugliness_0 rfl (lv_at hl 0 rfl) ?_
  refine lv_iconst (v := nI 0) hx hb d_m_ugliness_1 (by decide) ?_
  refine n_put (C := R_Model) (T := F_Model) (N := 24) (v := .int (nI 0)) hx hb hts u_Model_in t_Model t_Model_ok n_Model hown hK hP hD hS 0 rfl rfl 0 (by decide) kw_776 rfl rfl rfl (Nat.le_of_ble_eq_true rfl) d_m_ugliness_2 (fun H locs hP hD hS => ?_)
  have hP : va_P D classes [(h, .inr (8, [.int (nI 0), .int (nI i1), .ref a2, .ref a3, .ref a4, .ref a5, .ref a6, .ref a7, .ref a8, .int (nI i9), .ref a10, .ref a11, .ref a12, .ref a13, .ref a14, .ref a15, .int (nI i16), .int (nI i17), .ref a18, .int (nI i19), .ref a20, .ref a21, .int (nI i22), .ref a23])), (a3, .inl (cI, 441, .inl (fun j => nI (gr j)))), (a4, .inl (cI, 441, .inl (fun j => nI (dr j))))] H := hP
  have hD : va_D A [(h, .inr (8, [.int (nI 0), .int (nI i1), .ref a2, .ref a3, .ref a4, .ref a5, .ref a6, .ref a7, .ref a8, .int (nI i9), .ref a10, .ref a11, .ref a12, .ref a13, .ref a14, .ref a15, .int (nI i16), .int (nI i17), .ref a18, .int (nI i19), .ref a20, .ref a21, .int (nI i22), .ref a23])), (a3, .inl (cI, 441, .inl (fun j => nI (gr j)))), (a4, .inl (cI, 441, .inl (fun j => nI (dr j))))] := hD
  refine lv_iconst (v := nI 0) hx hb d_m_ugliness_5 (by decide) ?_
  refine lv_istore_n hx hb d_m_ugliness_6 rfl hl (Nat.le_of_ble_eq_true rfl) rfl (fun ls hl => ?_)
  have hl : lv_has ls 2 [(1, .int (nI 0)), (0, .ref h)] := hl
  refine lp_m_ugliness_7 cI cC h i0 i1 a2 a3 a4 a5 a6 a7 a8 i9 a10 a11 a12 a13 a14 a15 i16 i17 a18 i19 a20 a21 i22 a23 gr dr hgr S hRf hRl hRc hK hA  (fun ls H locs hl hP hD hS => ?_) 0 (by omega) ls H locs (lv_sub hl [1, 0] rfl) hP hD hS
  refine lv_aload_n hx hb d_m_ugliness_32 rfl (lv_at hl 0 rfl) ?_
  refine q_readV (n := 0) (As := []) (rest := []) (wc := [(h, .inr (8, [.int (nI 0), .int (nI i1), .ref a2, .ref a3, .ref a4, .ref a5, .ref a6, .ref a7, .ref a8, .int (nI i9), .ref a10, .ref a11, .ref a12, .ref a13, .ref a14, .ref a15, .int (nI i16), .int (nI i17), .ref a18, .int (nI i19), .ref a20, .ref a21, .int (nI i22), .ref a23])), (a4, .inl (cI, 441, .inl (fun j => nI ((cpL dr gr 441) j))))]) S (c_m_ugly l D cI cC h 0 i1 a2 a3 a4 a5 a6 a7 a8 i9 a10 a11 a12 a13 a14 a15 i16 i17 a18 i19 a20 a21 i22 a23 (cpL dr gr 441) (cpL_le hgr)) hK hP (q0 := 0) rfl rfl [0, 2] rfl (q_goodV kw_906 kw_908 ks_26 kw_10 kw_909) (by decide +kernel) rfl rfl rfl ⟨Nat.le_trans (Nat.le_of_ble_eq_true rfl) hRf, Nat.le_trans (Nat.le_of_ble_eq_true rfl) hRl⟩ rfl hl.1 rfl (Nat.le_of_ble_eq_true rfl) d_m_ugliness_33 hRc hS (fun H locs hP hS => ?_)
  exact kr _ ls H locs d_m_ugliness_36 hP hD hS
set_option maxHeartbeats 1000000 in
set_option maxRecDepth 100000 in
theorem c_m_ugliness (l : Launch) (D : va_G) (cI cC : ClassId) (h i0 i1 a2 a3 a4 a5 a6 a7 a8 i9 a10 a11 a12 a13 a14 a15 i16 i17 a18 i19 a20 a21 i22 a23 : Nat) (gr dr : Nat → Nat) (hgr : ∀ j, j < 441 → gr j ≤ 1) (sz : Nat) : Met l y_m_ugliness (cd_m_ugliness :: WS) { frames := 3, cells := 0, slots := 0, locals := 71 } (va_Pc [.ref h] (wP D [(h, .inr (8, [.int (nI i0), .int (nI i1), .ref a2, .ref a3, .ref a4, .ref a5, .ref a6, .ref a7, .ref a8, .int (nI i9), .ref a10, .ref a11, .ref a12, .ref a13, .ref a14, .ref a15, .int (nI i16), .int (nI i17), .ref a18, .int (nI i19), .ref a20, .ref a21, .int (nI i22), .ref a23])), (a3, .inl (cI, 441, .inl (fun j => nI (gr j)))), (a4, .inl (cI, 441, .inl (fun j => nI (dr j))))] [(cI, .int), (cC, .char)] sz)) (wQi D (nI (ugN (cpL dr gr 441))) [(h, .inr (8, [.int (nI i0), .int (nI i1), .ref a2, .ref a3, .ref a4, .ref a5, .ref a6, .ref a7, .ref a8, .int (nI i9), .ref a10, .ref a11, .ref a12, .ref a13, .ref a14, .ref a15, .int (nI i16), .int (nI i17), .ref a18, .int (nI i19), .ref a20, .ref a21, .int (nI i22), .ref a23])), (a3, .inl (cI, 441, .inl (fun j => nI (gr j)))), (a4, .inl (cI, 441, .inl (fun j => nI (dr j))))] [(h, .inr (8, [.int (nI 0), .int (nI i1), .ref a2, .ref a3, .ref a4, .ref a5, .ref a6, .ref a7, .ref a8, .int (nI i9), .ref a10, .ref a11, .ref a12, .ref a13, .ref a14, .ref a15, .int (nI i16), .int (nI i17), .ref a18, .int (nI i19), .ref a20, .ref a21, .int (nI i22), .ref a23])), (a3, .inl (cI, 441, .inl (fun j => nI (gr j)))), (a4, .inl (cI, 441, .inl (fun j => nI ((cpL dr gr 441) j))))] sz) 0 0 (va_A [(h, .inr (8, [.int (nI i0), .int (nI i1), .ref a2, .ref a3, .ref a4, .ref a5, .ref a6, .ref a7, .ref a8, .int (nI i9), .ref a10, .ref a11, .ref a12, .ref a13, .ref a14, .ref a15, .int (nI i16), .int (nI i17), .ref a18, .int (nI i19), .ref a20, .ref a21, .int (nI i22), .ref a23])), (a3, .inl (cI, 441, .inl (fun j => nI (gr j)))), (a4, .inl (cI, 441, .inl (fun j => nI (dr j))))] sz) := by
  refine Met.ofW (cc := b_m_ugliness) (maxL := 2) (ret := (some .int)) (by decide) rfl ?_
  intro p e s m args below meth c s₁ B hml hv0
  obtain ⟨rfl, hP, hK, hD0, hsz⟩ := hv0
  have hts := atoms_spec (ws := cd_m_ugliness :: WS) B.pre
  have hown : s.vm.findClass R_Model = some m.cls := findClass_of_methodNamed B.named
  have hlocks := B.notSynchronized
  subst hsz
  have hD := hD0.self (sz := s.heap.size)
  have hl := lv_entry ([.ref h]) (n := 2) (Nat.le_of_ble_eq_true rfl)
  rw [lg_entry_eq]
  generalize (lg_sl ([.ref h]) ++ List.replicate (2 - (lg_sl ([.ref h])).length) Slot.unset).toArray = ls at hl ⊢
  refine bd_m_ugliness cI cC h i0 i1 a2 a3 a4 a5 a6 a7 a8 i9 a10 a11 a12 a13 a14 a15 i16 i17 a18 i19 a20 a21 i22 a23 gr dr hgr ⟨B.exec, B.bytes, hml, hown, hts⟩ (Nat.le_refl _) (Nat.le_refl _) ⟨Nat.le_refl _, Nat.le_refl _⟩ hK (fun q h => Or.inr h) (fun pc ls H locs hd hP hD hS => ?_) ls _ _ hl hP hD (va_S.rf)
  exact W.iret B.exec B.bytes B.returns (fun t ht _ => ⟨⟨_, (), rfl, rfl, (by have h9 := hP; rw [← ht] at h9; exact h9)⟩, hS.F ht⟩) hS.2.2 hd
end
section
theorem d_m_formOf_0 : decode b_m_formOf 0 = .ok (.iconst (-1), 1) := by decide +kernel
theorem d_m_formOf_1 : decode b_m_formOf 1 = .ok (.istore_n 2, 1) := by decide +kernel
theorem d_m_formOf_2 : decode b_m_formOf 2 = .ok (.iconst 0, 1) := by decide +kernel
theorem d_m_formOf_3 : decode b_m_formOf 3 = .ok (.istore_n 3, 1) := by decide +kernel
theorem d_m_formOf_4 : decode b_m_formOf 4 = .ok (.iload_n 3, 1) := by decide +kernel
theorem d_m_formOf_5 : decode b_m_formOf 5 = .ok (.bipush 32, 2) := by decide +kernel
theorem d_m_formOf_7 : decode b_m_formOf 7 = .ok (.if_icmp .ge 93, 3) := by decide +kernel
theorem d_m_formOf_10 : decode b_m_formOf 10 = .ok (.iload_n 3, 1) := by decide +kernel
theorem d_m_formOf_11 : decode b_m_formOf 11 = .ok (.bipush 8, 2) := by decide +kernel
theorem d_m_formOf_13 : decode b_m_formOf 13 = .ok (.idiv, 1) := by decide +kernel
theorem d_m_formOf_14 : decode b_m_formOf 14 = .ok (.iload_n 3, 1) := by decide +kernel
theorem d_m_formOf_15 : decode b_m_formOf 15 = .ok (.bipush 8, 2) := by decide +kernel
theorem d_m_formOf_17 : decode b_m_formOf 17 = .ok (.irem, 1) := by decide +kernel
theorem d_m_formOf_18 : decode b_m_formOf 18 = .ok (.invokestatic 96, 3) := by decide +kernel
theorem d_m_formOf_21 : decode b_m_formOf 21 = .ok (.istore 4, 2) := by decide +kernel
theorem d_m_formOf_23 : decode b_m_formOf 23 = .ok (.iconst 0, 1) := by decide +kernel
theorem d_m_formOf_24 : decode b_m_formOf 24 = .ok (.istore 5, 2) := by decide +kernel
theorem d_m_formOf_26 : decode b_m_formOf 26 = .ok (.iconst 0, 1) := by decide +kernel
theorem d_m_formOf_27 : decode b_m_formOf 27 = .ok (.istore 6, 2) := by decide +kernel
theorem d_m_formOf_29 : decode b_m_formOf 29 = .ok (.iload 6, 2) := by decide +kernel
theorem d_m_formOf_31 : decode b_m_formOf 31 = .ok (.bipush 15, 2) := by decide +kernel
theorem d_m_formOf_33 : decode b_m_formOf 33 = .ok (.if_icmp .ge 49, 3) := by decide +kernel
theorem d_m_formOf_36 : decode b_m_formOf 36 = .ok (.iload 5, 2) := by decide +kernel
theorem d_m_formOf_38 : decode b_m_formOf 38 = .ok (.aload_n 0, 1) := by decide +kernel
theorem d_m_formOf_39 : decode b_m_formOf 39 = .ok (.getfield 13, 3) := by decide +kernel
theorem d_m_formOf_42 : decode b_m_formOf 42 = .ok (.aload_n 0, 1) := by decide +kernel
theorem d_m_formOf_43 : decode b_m_formOf 43 = .ok (.getfield 22, 3) := by decide +kernel
theorem d_m_formOf_46 : decode b_m_formOf 46 = .ok (.bipush 15, 2) := by decide +kernel
theorem d_m_formOf_48 : decode b_m_formOf 48 = .ok (.iload_n 1, 1) := by decide +kernel
theorem d_m_formOf_49 : decode b_m_formOf 49 = .ok (.imul, 1) := by decide +kernel
theorem d_m_formOf_50 : decode b_m_formOf 50 = .ok (.iload 6, 2) := by decide +kernel
theorem d_m_formOf_52 : decode b_m_formOf 52 = .ok (.iadd, 1) := by decide +kernel
theorem d_m_formOf_53 : decode b_m_formOf 53 = .ok (.iaload, 1) := by decide +kernel
theorem d_m_formOf_54 : decode b_m_formOf 54 = .ok (.iaload, 1) := by decide +kernel
theorem d_m_formOf_55 : decode b_m_formOf 55 = .ok (.iload 4, 2) := by decide +kernel
theorem d_m_formOf_57 : decode b_m_formOf 57 = .ok (.bipush 14, 2) := by decide +kernel
theorem d_m_formOf_59 : decode b_m_formOf 59 = .ok (.iload 6, 2) := by decide +kernel
theorem d_m_formOf_61 : decode b_m_formOf 61 = .ok (.isub, 1) := by decide +kernel
theorem d_m_formOf_62 : decode b_m_formOf 62 = .ok (.ishr, 1) := by decide +kernel
theorem d_m_formOf_63 : decode b_m_formOf 63 = .ok (.iconst 1, 1) := by decide +kernel
theorem d_m_formOf_64 : decode b_m_formOf 64 = .ok (.iand, 1) := by decide +kernel
theorem d_m_formOf_65 : decode b_m_formOf 65 = .ok (.if_icmp .eq 7, 3) := by decide +kernel
theorem d_m_formOf_68 : decode b_m_formOf 68 = .ok (.iconst 1, 1) := by decide +kernel
theorem d_m_formOf_69 : decode b_m_formOf 69 = .ok (.goto 4, 3) := by decide +kernel
theorem d_m_formOf_72 : decode b_m_formOf 72 = .ok (.iconst 0, 1) := by decide +kernel
theorem d_m_formOf_73 : decode b_m_formOf 73 = .ok (.iadd, 1) := by decide +kernel
theorem d_m_formOf_74 : decode b_m_formOf 74 = .ok (.istore 5, 2) := by decide +kernel
theorem d_m_formOf_76 : decode b_m_formOf 76 = .ok (.iinc 6 1, 3) := by decide +kernel
theorem d_m_formOf_79 : decode b_m_formOf 79 = .ok (.goto (-50), 3) := by decide +kernel
theorem d_m_formOf_82 : decode b_m_formOf 82 = .ok (.iload 5, 2) := by decide +kernel
theorem d_m_formOf_84 : decode b_m_formOf 84 = .ok (.iconst 3, 1) := by decide +kernel
theorem d_m_formOf_85 : decode b_m_formOf 85 = .ok (.if_icmp .gt 7, 3) := by decide +kernel
theorem d_m_formOf_88 : decode b_m_formOf 88 = .ok (.iload_n 3, 1) := by decide +kernel
theorem d_m_formOf_89 : decode b_m_formOf 89 = .ok (.goto 4, 3) := by decide +kernel
theorem d_m_formOf_92 : decode b_m_formOf 92 = .ok (.iload_n 2, 1) := by decide +kernel
theorem d_m_formOf_93 : decode b_m_formOf 93 = .ok (.istore_n 2, 1) := by decide +kernel
theorem d_m_formOf_94 : decode b_m_formOf 94 = .ok (.iinc 3 1, 3) := by decide +kernel
theorem d_m_formOf_97 : decode b_m_formOf 97 = .ok (.goto (-93), 3) := by decide +kernel
theorem d_m_formOf_100 : decode b_m_formOf 100 = .ok (.iload_n 2, 1) := by decide +kernel
theorem d_m_formOf_101 : decode b_m_formOf 101 = .ok (.ireturn, 1) := by decide +kernel
end
section
variable {p : Program} {l : Launch} {e : Env} {R : Room} {s : State} {m : MethodId} {args : Array Value} {below : List Frame} {meth : Method} {c : Code} {cells slots : Nat} {Q : State → Prop} {A : Nat → Prop} {H0 : Heap} {D : va_G}
set_option maxHeartbeats 1000000 in
set_option maxRecDepth 100000 in
theorem lp_m_formOf_29 (cI cC : ClassId) (h i0 i1 a2 a3 a4 a5 a6 a7 a8 i9 a10 a11 a12 a13 a14 a15 i16 i17 a18 i19 a20 a21 i22 a23 : Nat) (gr fo : Nat → Nat) (x : Nat) (hx0 : x ≤ 1) (hgr : ∀ j, j < 441 → gr j ≤ 1) (hfo : ∀ j, j < 30 → fo j < 441) (S : CallFix p m c b_m_formOf 7 s args (cd_m_formOf :: WS) R_Model) (hRf : 1 ≤ R.frames) (hRl : 24 ≤ R.locals) (hRc : cells ≤ R.cells ∧ slots ≤ R.slots) (hK : va_K D classes [(cI, .int), (cC, .char)] s) (k : Nat) (hk : k < 32) (kx : ∀ (ls : Array Slot) (H : Heap) (locs : List Loc), lv_has ls 7 [(0, .ref h), (1, .int (nI x)), (2, .int (nI (foL gr fo x k))), (3, .int (nI k)), (4, .int (nI (fmN (k / 8) (k % 8)))), (5, .int (nI (wgL gr fo x (fmN (k / 8) (k % 8)) 15))), (6, .int (nI 15))] → va_P D classes [(h, .inr (8, [.int (nI i0), .int (nI i1), .ref a2, .ref a3, .ref a4, .ref a5, .ref a6, .ref a7, .ref a8, .int (nI i9), .ref a10, .ref a11, .ref a12, .ref a13, .ref a14, .ref a15, .int (nI i16), .int (nI i17), .ref a18, .int (nI i19), .ref a20, .ref a21, .int (nI i22), .ref a23])), (a3, .inl (cI, 441, .inl (fun j => nI (gr j)))), (a6, .inl (cI, 30, .inl (fun j => nI (fo j))))] H → va_S A H0 H locs → W p l e R s m args below meth c H locs cells slots Q (F0 m 82 ls [])) :
    ∀ j, j ≤ 15 → ∀ (ls : Array Slot) (H : Heap) (locs : List Loc), lv_has ls 7 [(0, .ref h), (1, .int (nI x)), (2, .int (nI (foL gr fo x k))), (3, .int (nI k)), (4, .int (nI (fmN (k / 8) (k % 8)))), (5, .int (nI (wgL gr fo x (fmN (k / 8) (k % 8)) j))), (6, .int (nI j))] → va_P D classes [(h, .inr (8, [.int (nI i0), .int (nI i1), .ref a2, .ref a3, .ref a4, .ref a5, .ref a6, .ref a7, .ref a8, .int (nI i9), .ref a10, .ref a11, .ref a12, .ref a13, .ref a14, .ref a15, .int (nI i16), .int (nI i17), .ref a18, .int (nI i19), .ref a20, .ref a21, .int (nI i22), .ref a23])), (a3, .inl (cI, 441, .inl (fun j => nI (gr j)))), (a6, .inl (cI, 30, .inl (fun j => nI (fo j))))] H → va_S A H0 H locs → W p l e R s m args below meth c H locs cells slots Q (F0 m 29 ls []) := by
  obtain ⟨hx, hb, hml, hown, hts⟩ := id S
  refine up_loop (fun j hkj ih => ?_)
  intro ls H locs hl hP hS
  have hfm := fmN_lt (show k / 8 < 4 by omega) (show k % 8 < 8 by omega)
  refine lv_iload hx hb d_m_formOf_29 (lv_at hl 6 rfl) ?_
  refine lv_bipush (v := nI 15) hx hb d_m_formOf_31 (by decide) ?_
  refine n_icmp_ge hx hb d_m_formOf_33 (tgt := 82) rfl (by omega) (by omega) (fun g33 => ?_) (fun g33 => ?_)
  · skip
    obtain rfl : j = 15 := by omega
    exact kx ls H locs (lv_sub hl [0, 1, 2, 3, 4, 5, 6] rfl) hP hS
  · skip
    have hf1 := hfo (15 * x + j) (by omega)
    have hg1 := hgr (fo (15 * x + j)) hf1
    refine lv_iload hx hb d_m_formOf_36 (lv_at hl 5 rfl) ?_
    refine lv_aload_n hx hb d_m_formOf_38 rfl (lv_at hl 0 rfl) ?_
    refine n_get (C := R_Model) (T := F_Model) (N := 24) (v := .ref a3) hx hb hts u_Model_in hown hK hP 0 rfl rfl 3 (by decide) kw_779 rfl d_m_formOf_39 ?_
    refine lv_aload_n hx hb d_m_formOf_42 rfl (lv_at hl 0 rfl) ?_
    refine n_get (C := R_Model) (T := F_Model) (N := 24) (v := .ref a6) hx hb hts u_Model_in hown hK hP 0 rfl rfl 6 (by decide) kw_782 rfl d_m_formOf_43 ?_
    refine lv_bipush (v := nI 15) hx hb d_m_formOf_46 (by decide) ?_
    refine lv_iload_n hx hb d_m_formOf_48 rfl (lv_at hl 1 rfl) ?_
    refine n_imul hx hb d_m_formOf_49 ?_
    refine lv_iload hx hb d_m_formOf_50 (lv_at hl 6 rfl) ?_
    refine n_iadd hx hb d_m_formOf_52 ?_
    refine n_iald hx hb hK hP 2 0 rfl rfl (by omega) (by decide) d_m_formOf_53 ?_
    refine n_iald hx hb hK hP 1 0 rfl rfl (by omega) (by decide) d_m_formOf_54 ?_
    refine lv_iload hx hb d_m_formOf_55 (lv_at hl 4 rfl) ?_
    refine lv_bipush (v := nI 14) hx hb d_m_formOf_57 (by decide) ?_
    refine lv_iload hx hb d_m_formOf_59 (lv_at hl 6 rfl) ?_
    refine n_isub hx hb d_m_formOf_61 (by omega) ?_
    refine n_ishr hx hb d_m_formOf_62 (by omega) (by omega) ?_
    refine lv_iconst (v := nI 1) hx hb d_m_formOf_63 (by decide) ?_
    refine n_and1 hx hb d_m_formOf_64 ?_
    refine n_icmp_eq hx hb d_m_formOf_65 (tgt := 72) rfl (by omega) (by omega) (fun g65 => ?_) (fun g65 => ?_)
    · skip
      refine lv_iconst (v := nI 0) hx hb d_m_formOf_72 (by decide) ?_
      refine n_iadd hx hb d_m_formOf_73 ?_
      refine n_topn (show (wgL gr fo x (fmN (k / 8) (k % 8)) j) + 0 = wgL gr fo x (fmN (k / 8) (k % 8)) (j + 1) from (by first | exact (wgL_t g65).symm | exact (wgL_f g65).symm)) ?_
      refine lv_istore hx hb d_m_formOf_74 hl (Nat.le_of_ble_eq_true rfl) rfl (fun ls hl => ?_)
      have hl : lv_has ls 7 [(5, .int (nI (wgL gr fo x (fmN (k / 8) (k % 8)) (j + 1)))), (0, .ref h), (1, .int (nI x)), (2, .int (nI (foL gr fo x k))), (3, .int (nI k)), (4, .int (nI (fmN (k / 8) (k % 8)))), (6, .int (nI j))] := hl
      refine lv_iinc (k := 6) (v := nI (j + 1)) hx hb d_m_formOf_76 hl rfl (nx_inc j 1) (Nat.le_of_ble_eq_true rfl) rfl (fun ls hl => ?_)
      have hl : lv_has ls 7 [(6, .int (nI (j + 1))), (5, .int (nI (wgL gr fo x (fmN (k / 8) (k % 8)) (j + 1)))), (0, .ref h), (1, .int (nI x)), (2, .int (nI (foL gr fo x k))), (3, .int (nI k)), (4, .int (nI (fmN (k / 8) (k % 8))))] := hl
      refine lv_goto hx hb d_m_formOf_79 (tgt := 29) rfl ?_
      exact ih (by omega) ls H locs (lv_sub hl [2, 3, 4, 5, 6, 1, 0] rfl) hP hS
    · skip
      refine lv_iconst (v := nI 1) hx hb d_m_formOf_68 (by decide) ?_
      refine lv_goto hx hb d_m_formOf_69 (tgt := 73) rfl ?_
      refine n_iadd hx hb d_m_formOf_73 ?_
      refine n_topn (show (wgL gr fo x (fmN (k / 8) (k % 8)) j) + 1 = wgL gr fo x (fmN (k / 8) (k % 8)) (j + 1) from (by first | exact (wgL_t g65).symm | exact (wgL_f g65).symm)) ?_
      refine lv_istore hx hb d_m_formOf_74 hl (Nat.le_of_ble_eq_true rfl) rfl (fun ls hl => ?_)
      have hl : lv_has ls 7 [(5, .int (nI (wgL gr fo x (fmN (k / 8) (k % 8)) (j + 1)))), (0, .ref h), (1, .int (nI x)), (2, .int (nI (foL gr fo x k))), (3, .int (nI k)), (4, .int (nI (fmN (k / 8) (k % 8)))), (6, .int (nI j))] := hl
      refine lv_iinc (k := 6) (v := nI (j + 1)) hx hb d_m_formOf_76 hl rfl (nx_inc j 1) (Nat.le_of_ble_eq_true rfl) rfl (fun ls hl => ?_)
      have hl : lv_has ls 7 [(6, .int (nI (j + 1))), (5, .int (nI (wgL gr fo x (fmN (k / 8) (k % 8)) (j + 1)))), (0, .ref h), (1, .int (nI x)), (2, .int (nI (foL gr fo x k))), (3, .int (nI k)), (4, .int (nI (fmN (k / 8) (k % 8))))] := hl
      refine lv_goto hx hb d_m_formOf_79 (tgt := 29) rfl ?_
      exact ih (by omega) ls H locs (lv_sub hl [2, 3, 4, 5, 6, 1, 0] rfl) hP hS
set_option maxHeartbeats 1000000 in
set_option maxRecDepth 100000 in
theorem lp_m_formOf_4 (cI cC : ClassId) (h i0 i1 a2 a3 a4 a5 a6 a7 a8 i9 a10 a11 a12 a13 a14 a15 i16 i17 a18 i19 a20 a21 i22 a23 : Nat) (gr fo : Nat → Nat) (x : Nat) (hx0 : x ≤ 1) (hgr : ∀ j, j < 441 → gr j ≤ 1) (hfo : ∀ j, j < 30 → fo j < 441) (S : CallFix p m c b_m_formOf 7 s args (cd_m_formOf :: WS) R_Model) (hRf : 1 ≤ R.frames) (hRl : 24 ≤ R.locals) (hRc : cells ≤ R.cells ∧ slots ≤ R.slots) (hK : va_K D classes [(cI, .int), (cC, .char)] s) (kx : ∀ (ls : Array Slot) (H : Heap) (locs : List Loc), lv_has ls 7 [(0, .ref h), (1, .int (nI x)), (2, .int (nI (foL gr fo x 32))), (3, .int (nI 32))] → va_P D classes [(h, .inr (8, [.int (nI i0), .int (nI i1), .ref a2, .ref a3, .ref a4, .ref a5, .ref a6, .ref a7, .ref a8, .int (nI i9), .ref a10, .ref a11, .ref a12, .ref a13, .ref a14, .ref a15, .int (nI i16), .int (nI i17), .ref a18, .int (nI i19), .ref a20, .ref a21, .int (nI i22), .ref a23])), (a3, .inl (cI, 441, .inl (fun j => nI (gr j)))), (a6, .inl (cI, 30, .inl (fun j => nI (fo j))))] H → va_S A H0 H locs → W p l e R s m args below meth c H locs cells slots Q (F0 m 100 ls [])) :
    ∀ k, k ≤ 32 → ∀ (ls : Array Slot) (H : Heap) (locs : List Loc), lv_has ls 7 [(0, .ref h), (1, .int (nI x)), (2, .int (nI (foL gr fo x k))), (3, .int (nI k))] → va_P D classes [(h, .inr (8, [.int (nI i0), .int (nI i1), .ref a2, .ref a3, .ref a4, .ref a5, .ref a6, .ref a7, .ref a8, .int (nI i9), .ref a10, .ref a11, .ref a12, .ref a13, .ref a14, .ref a15, .int (nI i16), .int (nI i17), .ref a18, .int (nI i19), .ref a20, .ref a21, .int (nI i22), .ref a23])), (a3, .inl (cI, 441, .inl (fun j => nI (gr j)))), (a6, .inl (cI, 30, .inl (fun j => nI (fo j))))] H → va_S A H0 H locs → W p l e R s m args below meth c H locs cells slots Q (F0 m 4 ls []) := by
  obtain ⟨hx, hb, hml, hown, hts⟩ := id S
  refine up_loop (fun k hkk ih => ?_)
  intro ls H locs hl hP hS
  refine lv_iload_n hx hb d_m_formOf_4 rfl (lv_at hl 3 rfl) ?_
  refine lv_bipush (v := nI 32) hx hb d_m_formOf_5 (by decide) ?_
  refine n_icmp_ge hx hb d_m_formOf_7 (tgt := 100) rfl (by omega) (by omega) (fun g7 => ?_) (fun g7 => ?_)
  · skip
    obtain rfl : k = 32 := by omega
    exact kx ls H locs (lv_sub hl [0, 1, 2, 3] rfl) hP hS
  · skip
    refine lv_iload_n hx hb d_m_formOf_10 rfl (lv_at hl 3 rfl) ?_
    refine lv_bipush (v := nI 8) hx hb d_m_formOf_11 (by decide) ?_
    refine n_idiv hx hb d_m_formOf_13 (by omega) (by omega) (by omega) ?_
    refine lv_iload_n hx hb d_m_formOf_14 rfl (lv_at hl 3 rfl) ?_
    refine lv_bipush (v := nI 8) hx hb d_m_formOf_15 (by decide) ?_
    refine n_irem hx hb d_m_formOf_17 (by omega) (by omega) (by omega) ?_
    refine q_pureS (n := 2) (As := [.int (nI (k / 8)), .int (nI (k % 8))]) (rest := []) S (c_m_form l (k / 8) (k % 8) (by omega) (by omega)) (q_goodS kw_900 kw_901 kw_10 kw_902) (by decide +kernel) rfl rfl ⟨Nat.le_trans (Nat.le_of_ble_eq_true rfl) hRf, Nat.le_trans (Nat.le_of_ble_eq_true rfl) hRl⟩ rfl hl.1 rfl (Nat.le_of_ble_eq_true rfl) d_m_formOf_18 hRc hS (fun H locs hkp hS => ?_)
    replace hP := hP.kept (fun k q hq => hkp q.1 (hP k q hq).lt)
    refine lv_istore hx hb d_m_formOf_21 hl (Nat.le_of_ble_eq_true rfl) rfl (fun ls hl => ?_)
    have hl : lv_has ls 7 [(4, .int (nI (fmN (k / 8) (k % 8)))), (0, .ref h), (1, .int (nI x)), (2, .int (nI (foL gr fo x k))), (3, .int (nI k))] := hl
    refine lv_iconst (v := nI 0) hx hb d_m_formOf_23 (by decide) ?_
    refine lv_istore hx hb d_m_formOf_24 hl (Nat.le_of_ble_eq_true rfl) rfl (fun ls hl => ?_)
    have hl : lv_has ls 7 [(5, .int (nI 0)), (4, .int (nI (fmN (k / 8) (k % 8)))), (0, .ref h), (1, .int (nI x)), (2, .int (nI (foL gr fo x k))), (3, .int (nI k))] := hl
    refine lv_iconst (v := nI 0) hx hb d_m_formOf_26 (by decide) ?_
    refine lv_istore hx hb d_m_formOf_27 hl (Nat.le_of_ble_eq_true rfl) rfl (fun ls hl => ?_)
    have hl : lv_has ls 7 [(6, .int (nI 0)), (5, .int (nI 0)), (4, .int (nI (fmN (k / 8) (k % 8)))), (0, .ref h), (1, .int (nI x)), (2, .int (nI (foL gr fo x k))), (3, .int (nI k))] := hl
    refine lp_m_formOf_29 cI cC h i0 i1 a2 a3 a4 a5 a6 a7 a8 i9 a10 a11 a12 a13 a14 a15 i16 i17 a18 i19 a20 a21 i22 a23 gr fo x hx0 hgr hfo S hRf hRl hRc hK k (by omega) (fun ls H locs hl hP hS => ?_) 0 (by omega) ls H locs (lv_sub hl [3, 4, 5, 6, 2, 1, 0] rfl) hP hS
    have hwg := wgL_le gr fo x (fmN (k / 8) (k % 8)) 15
    refine lv_iload hx hb d_m_formOf_82 (lv_at hl 5 rfl) ?_
    refine lv_iconst (v := nI 3) hx hb d_m_formOf_84 (by decide) ?_
    refine n_icmp_gt hx hb d_m_formOf_85 (tgt := 92) rfl (by omega) (by omega) (fun g85 => ?_) (fun g85 => ?_)
    · skip
      refine lv_iload_n hx hb d_m_formOf_92 rfl (lv_at hl 2 rfl) ?_
      refine n_topn (show foL gr fo x k = foL gr fo x (k + 1) from (by first | exact (foL_t g85).symm | exact (foL_f g85).symm)) ?_
      refine lv_istore_n hx hb d_m_formOf_93 rfl hl (Nat.le_of_ble_eq_true rfl) rfl (fun ls hl => ?_)
      have hl : lv_has ls 7 [(2, .int (nI (foL gr fo x (k + 1)))), (0, .ref h), (1, .int (nI x)), (3, .int (nI k)), (4, .int (nI (fmN (k / 8) (k % 8)))), (5, .int (nI (wgL gr fo x (fmN (k / 8) (k % 8)) 15))), (6, .int (nI 15))] := hl
      refine lv_iinc (k := 3) (v := nI (k + 1)) hx hb d_m_formOf_94 hl rfl (nx_inc k 1) (Nat.le_of_ble_eq_true rfl) rfl (fun ls hl => ?_)
      have hl : lv_has ls 7 [(3, .int (nI (k + 1))), (2, .int (nI (foL gr fo x (k + 1)))), (0, .ref h), (1, .int (nI x)), (4, .int (nI (fmN (k / 8) (k % 8)))), (5, .int (nI (wgL gr fo x (fmN (k / 8) (k % 8)) 15))), (6, .int (nI 15))] := hl
      refine lv_goto hx hb d_m_formOf_97 (tgt := 4) rfl ?_
      exact ih (by omega) ls H locs (lv_sub hl [2, 3, 1, 0] rfl) hP hS
    · skip
      refine lv_iload_n hx hb d_m_formOf_88 rfl (lv_at hl 3 rfl) ?_
      refine lv_goto hx hb d_m_formOf_89 (tgt := 93) rfl ?_
      refine n_topn (show k = foL gr fo x (k + 1) from (by first | exact (foL_t g85).symm | exact (foL_f g85).symm)) ?_
      refine lv_istore_n hx hb d_m_formOf_93 rfl hl (Nat.le_of_ble_eq_true rfl) rfl (fun ls hl => ?_)
      have hl : lv_has ls 7 [(2, .int (nI (foL gr fo x (k + 1)))), (0, .ref h), (1, .int (nI x)), (3, .int (nI k)), (4, .int (nI (fmN (k / 8) (k % 8)))), (5, .int (nI (wgL gr fo x (fmN (k / 8) (k % 8)) 15))), (6, .int (nI 15))] := hl
      refine lv_iinc (k := 3) (v := nI (k + 1)) hx hb d_m_formOf_94 hl rfl (nx_inc k 1) (Nat.le_of_ble_eq_true rfl) rfl (fun ls hl => ?_)
      have hl : lv_has ls 7 [(3, .int (nI (k + 1))), (2, .int (nI (foL gr fo x (k + 1)))), (0, .ref h), (1, .int (nI x)), (4, .int (nI (fmN (k / 8) (k % 8)))), (5, .int (nI (wgL gr fo x (fmN (k / 8) (k % 8)) 15))), (6, .int (nI 15))] := hl
      refine lv_goto hx hb d_m_formOf_97 (tgt := 4) rfl ?_
      exact ih (by omega) ls H locs (lv_sub hl [2, 3, 1, 0] rfl) hP hS
set_option maxHeartbeats 1000000 in
set_option maxRecDepth 100000 in
theorem bd_m_formOf (cI cC : ClassId) (h i0 i1 a2 a3 a4 a5 a6 a7 a8 i9 a10 a11 a12 a13 a14 a15 i16 i17 a18 i19 a20 a21 i22 a23 : Nat) (gr fo : Nat → Nat) (x : Nat) (hx0 : x ≤ 1) (hgr : ∀ j, j < 441 → gr j ≤ 1) (hfo : ∀ j, j < 30 → fo j < 441) (S : CallFix p m c b_m_formOf 7 s args (cd_m_formOf :: WS) R_Model) (hRf : 1 ≤ R.frames) (hRl : 24 ≤ R.locals) (hRc : cells ≤ R.cells ∧ slots ≤ R.slots) (hK : va_K D classes [(cI, .int), (cC, .char)] s) (kr : ∀ (pc : Nat) (ls : Array Slot) (H : Heap) (locs : List Loc), decode b_m_formOf pc = .ok (.ireturn, 1) → va_P D classes [(h, .inr (8, [.int (nI i0), .int (nI i1), .ref a2, .ref a3, .ref a4, .ref a5, .ref a6, .ref a7, .ref a8, .int (nI i9), .ref a10, .ref a11, .ref a12, .ref a13, .ref a14, .ref a15, .int (nI i16), .int (nI i17), .ref a18, .int (nI i19), .ref a20, .ref a21, .int (nI i22), .ref a23])), (a3, .inl (cI, 441, .inl (fun j => nI (gr j)))), (a6, .inl (cI, 30, .inl (fun j => nI (fo j))))] H → va_S A H0 H locs → W p l e R s m args below meth c H locs cells slots Q (F0 m pc ls [.int (nI (foL gr fo x 32))])) : ∀ (ls : Array Slot) (H : Heap) (locs : List Loc), lv_has ls 7 [(0, .ref h), (1, .int (nI x))] → va_P D classes [(h, .inr (8, [.int (nI i0), .int (nI i1), .ref a2, .ref a3, .ref a4, .ref a5, .ref a6, .ref a7, .ref a8, .int (nI i9), .ref a10, .ref a11, .ref a12, .ref a13, .ref a14, .ref a15, .int (nI i16), .int (nI i17), .ref a18, .int (nI i19), .ref a20, .ref a21, .int (nI i22), .ref a23])), (a3, .inl (cI, 441, .inl (fun j => nI (gr j)))), (a6, .inl (cI, 30, .inl (fun j => nI (fo j))))] H → va_S A H0 H locs → W p l e R s m args below meth c H locs cells slots Q (F0 m 0 ls []) := by
  obtain ⟨hx, hb, hml, hown, hts⟩ := id S
  intro ls H locs hl hP hS
  refine lv_iconst (v := (-1)) hx hb d_m_formOf_0 (by decide) ?_
  refine n_top (show (-1) = (nI 4294967295) from nx_m1.symm) ?_
  refine lv_istore_n hx hb d_m_formOf_1 rfl hl (Nat.le_of_ble_eq_true rfl) rfl (fun ls hl => ?_)
  have hl : lv_has ls 7 [(2, .int (nI 4294967295)), (0, .ref h), (1, .int (nI x))] := hl
  refine lv_iconst (v := nI 0) hx hb d_m_formOf_2 (by decide) ?_
  refine lv_istore_n hx hb d_m_formOf_3 rfl hl (Nat.le_of_ble_eq_true rfl) rfl (fun ls hl => ?_)
  have hl : lv_has ls 7 [(3, .int (nI 0)), (2, .int (nI 4294967295)), (0, .ref h), (1, .int (nI x))] := hl
  refine lp_m_formOf_4 cI cC h i0 i1 a2 a3 a4 a5 a6 a7 a8 i9 a10 a11 a12 a13 a14 a15 i16 i17 a18 i19 a20 a21 i22 a23 gr fo x hx0 hgr hfo S hRf hRl hRc hK  (fun ls H locs hl hP hS => ?_) 0 (by omega) ls H locs (lv_sub hl [2, 3, 1, 0] rfl) hP hS
  refine lv_iload_n hx hb d_m_formOf_100 rfl (lv_at hl 2 rfl) ?_
  exact kr _ ls H locs d_m_formOf_101 hP hS
set_option maxHeartbeats 1000000 in
set_option maxRecDepth 100000 in
theorem c_m_formOf (l : Launch) (D : va_G) (cI cC : ClassId) (h i0 i1 a2 a3 a4 a5 a6 a7 a8 i9 a10 a11 a12 a13 a14 a15 i16 i17 a18 i19 a20 a21 i22 a23 : Nat) (gr fo : Nat → Nat) (x : Nat) (hx0 : x ≤ 1) (hgr : ∀ j, j < 441 → gr j ≤ 1) (hfo : ∀ j, j < 30 → fo j < 441) : Met l y_m_formOf (cd_m_formOf :: WS) { frames := 1, cells := 0, slots := 0, locals := 24 } (va_Pc [.ref h, .int (nI x)] (rP D [(h, .inr (8, [.int (nI i0), .int (nI i1), .ref a2, .ref a3, .ref a4, .ref a5, .ref a6, .ref a7, .ref a8, .int (nI i9), .ref a10, .ref a11, .ref a12, .ref a13, .ref a14, .ref a15, .int (nI i16), .int (nI i17), .ref a18, .int (nI i19), .ref a20, .ref a21, .int (nI i22), .ref a23])), (a3, .inl (cI, 441, .inl (fun j => nI (gr j)))), (a6, .inl (cI, 30, .inl (fun j => nI (fo j))))] [(cI, .int), (cC, .char)])) (pQ (nI (foL gr fo x 32))) 0 0 noA := by
  refine Met.ofW (cc := b_m_formOf) (maxL := 7) (ret := (some .int)) (by decide) rfl ?_
  intro p e s m args below meth c s₁ B hml hv0
  obtain ⟨rfl, hP, hK⟩ := hv0
  have hts := atoms_spec (ws := cd_m_formOf :: WS) B.pre
  have hown : s.vm.findClass R_Model = some m.cls := findClass_of_methodNamed B.named
  have hlocks := B.notSynchronized
  have hl := lv_entry ([.ref h, .int (nI x)]) (n := 7) (Nat.le_of_ble_eq_true rfl)
  rw [lg_entry_eq]
  generalize (lg_sl ([.ref h, .int (nI x)]) ++ List.replicate (7 - (lg_sl ([.ref h, .int (nI x)])).length) Slot.unset).toArray = ls at hl ⊢
  refine bd_m_formOf cI cC h i0 i1 a2 a3 a4 a5 a6 a7 a8 i9 a10 a11 a12 a13 a14 a15 i16 i17 a18 i19 a20 a21 i22 a23 gr fo x hx0 hgr hfo ⟨B.exec, B.bytes, hml, hown, hts⟩ (Nat.le_refl _) (Nat.le_refl _) ⟨Nat.le_refl _, Nat.le_refl _⟩ hK (fun pc ls H locs hd hP hS => ?_) ls _ _ hl hP (va_S.rf (A := noA))
  exact W.iret B.exec B.bytes B.returns (fun t ht _ => ⟨⟨_, (), rfl, rfl, trivial⟩, hS.F ht⟩) hS.2.2 hd
end
section
theorem d_m_takeBytes_0 : decode b_m_takeBytes 0 = .ok (.iconst 0, 1) := by decide +kernel
theorem d_m_takeBytes_1 : decode b_m_takeBytes 1 = .ok (.istore_n 2, 1) := by decide +kernel
theorem d_m_takeBytes_2 : decode b_m_takeBytes 2 = .ok (.iload_n 2, 1) := by decide +kernel
theorem d_m_takeBytes_3 : decode b_m_takeBytes 3 = .ok (.bipush 26, 2) := by decide +kernel
theorem d_m_takeBytes_5 : decode b_m_takeBytes 5 = .ok (.if_icmp .ge 16, 3) := by decide +kernel
theorem d_m_takeBytes_8 : decode b_m_takeBytes 8 = .ok (.aload_n 0, 1) := by decide +kernel
theorem d_m_takeBytes_9 : decode b_m_takeBytes 9 = .ok (.getfield 31, 3) := by decide +kernel
theorem d_m_takeBytes_12 : decode b_m_takeBytes 12 = .ok (.iload_n 2, 1) := by decide +kernel
theorem d_m_takeBytes_13 : decode b_m_takeBytes 13 = .ok (.iconst 0, 1) := by decide +kernel
theorem d_m_takeBytes_14 : decode b_m_takeBytes 14 = .ok (.iastore, 1) := by decide +kernel
theorem d_m_takeBytes_15 : decode b_m_takeBytes 15 = .ok (.iinc 2 1, 3) := by decide +kernel
theorem d_m_takeBytes_18 : decode b_m_takeBytes 18 = .ok (.goto (-16), 3) := by decide +kernel
theorem d_m_takeBytes_21 : decode b_m_takeBytes 21 = .ok (.iconst 0, 1) := by decide +kernel
theorem d_m_takeBytes_22 : decode b_m_takeBytes 22 = .ok (.istore_n 2, 1) := by decide +kernel
theorem d_m_takeBytes_23 : decode b_m_takeBytes 23 = .ok (.iload_n 2, 1) := by decide +kernel
theorem d_m_takeBytes_24 : decode b_m_takeBytes 24 = .ok (.sipush 208, 3) := by decide +kernel
theorem d_m_takeBytes_27 : decode b_m_takeBytes 27 = .ok (.if_icmp .ge 73, 3) := by decide +kernel
theorem d_m_takeBytes_30 : decode b_m_takeBytes 30 = .ok (.aload_n 0, 1) := by decide +kernel
theorem d_m_takeBytes_31 : decode b_m_takeBytes 31 = .ok (.getfield 25, 3) := by decide +kernel
theorem d_m_takeBytes_34 : decode b_m_takeBytes 34 = .ok (.iload_n 2, 1) := by decide +kernel
theorem d_m_takeBytes_35 : decode b_m_takeBytes 35 = .ok (.iaload, 1) := by decide +kernel
theorem d_m_takeBytes_36 : decode b_m_takeBytes 36 = .ok (.istore_n 3, 1) := by decide +kernel
theorem d_m_takeBytes_37 : decode b_m_takeBytes 37 = .ok (.iload_n 1, 1) := by decide +kernel
theorem d_m_takeBytes_38 : decode b_m_takeBytes 38 = .ok (.iload_n 3, 1) := by decide +kernel
theorem d_m_takeBytes_39 : decode b_m_takeBytes 39 = .ok (.bipush 21, 2) := by decide +kernel
theorem d_m_takeBytes_41 : decode b_m_takeBytes 41 = .ok (.idiv, 1) := by decide +kernel
theorem d_m_takeBytes_42 : decode b_m_takeBytes 42 = .ok (.iload_n 3, 1) := by decide +kernel
theorem d_m_takeBytes_43 : decode b_m_takeBytes 43 = .ok (.bipush 21, 2) := by decide +kernel
theorem d_m_takeBytes_45 : decode b_m_takeBytes 45 = .ok (.irem, 1) := by decide +kernel
theorem d_m_takeBytes_46 : decode b_m_takeBytes 46 = .ok (.invokestatic 99, 3) := by decide +kernel
theorem d_m_takeBytes_49 : decode b_m_takeBytes 49 = .ok (.ifCond .eq 14, 3) := by decide +kernel
theorem d_m_takeBytes_52 : decode b_m_takeBytes 52 = .ok (.iconst 1, 1) := by decide +kernel
theorem d_m_takeBytes_53 : decode b_m_takeBytes 53 = .ok (.aload_n 0, 1) := by decide +kernel
theorem d_m_takeBytes_54 : decode b_m_takeBytes 54 = .ok (.getfield 13, 3) := by decide +kernel
theorem d_m_takeBytes_57 : decode b_m_takeBytes 57 = .ok (.iload_n 3, 1) := by decide +kernel
theorem d_m_takeBytes_58 : decode b_m_takeBytes 58 = .ok (.iaload, 1) := by decide +kernel
theorem d_m_takeBytes_59 : decode b_m_takeBytes 59 = .ok (.isub, 1) := by decide +kernel
theorem d_m_takeBytes_60 : decode b_m_takeBytes 60 = .ok (.goto 9, 3) := by decide +kernel
theorem d_m_takeBytes_63 : decode b_m_takeBytes 63 = .ok (.aload_n 0, 1) := by decide +kernel
theorem d_m_takeBytes_64 : decode b_m_takeBytes 64 = .ok (.getfield 13, 3) := by decide +kernel
theorem d_m_takeBytes_67 : decode b_m_takeBytes 67 = .ok (.iload_n 3, 1) := by decide +kernel
theorem d_m_takeBytes_68 : decode b_m_takeBytes 68 = .ok (.iaload, 1) := by decide +kernel
theorem d_m_takeBytes_69 : decode b_m_takeBytes 69 = .ok (.istore 4, 2) := by decide +kernel
theorem d_m_takeBytes_71 : decode b_m_takeBytes 71 = .ok (.aload_n 0, 1) := by decide +kernel
theorem d_m_takeBytes_72 : decode b_m_takeBytes 72 = .ok (.getfield 31, 3) := by decide +kernel
theorem d_m_takeBytes_75 : decode b_m_takeBytes 75 = .ok (.iload_n 2, 1) := by decide +kernel
theorem d_m_takeBytes_76 : decode b_m_takeBytes 76 = .ok (.bipush 8, 2) := by decide +kernel
theorem d_m_takeBytes_78 : decode b_m_takeBytes 78 = .ok (.idiv, 1) := by decide +kernel
theorem d_m_takeBytes_79 : decode b_m_takeBytes 79 = .ok (.iconst 2, 1) := by decide +kernel
theorem d_m_takeBytes_80 : decode b_m_takeBytes 80 = .ok (.aload_n 0, 1) := by decide +kernel
theorem d_m_takeBytes_81 : decode b_m_takeBytes 81 = .ok (.getfield 31, 3) := by decide +kernel
theorem d_m_takeBytes_84 : decode b_m_takeBytes 84 = .ok (.iload_n 2, 1) := by decide +kernel
theorem d_m_takeBytes_85 : decode b_m_takeBytes 85 = .ok (.bipush 8, 2) := by decide +kernel
theorem d_m_takeBytes_87 : decode b_m_takeBytes 87 = .ok (.idiv, 1) := by decide +kernel
theorem d_m_takeBytes_88 : decode b_m_takeBytes 88 = .ok (.iaload, 1) := by decide +kernel
theorem d_m_takeBytes_89 : decode b_m_takeBytes 89 = .ok (.imul, 1) := by decide +kernel
theorem d_m_takeBytes_90 : decode b_m_takeBytes 90 = .ok (.iload 4, 2) := by decide +kernel
theorem d_m_takeBytes_92 : decode b_m_takeBytes 92 = .ok (.iadd, 1) := by decide +kernel
theorem d_m_takeBytes_93 : decode b_m_takeBytes 93 = .ok (.iastore, 1) := by decide +kernel
theorem d_m_takeBytes_94 : decode b_m_takeBytes 94 = .ok (.iinc 2 1, 3) := by decide +kernel
theorem d_m_takeBytes_97 : decode b_m_takeBytes 97 = .ok (.goto (-74), 3) := by decide +kernel
theorem d_m_takeBytes_100 : decode b_m_takeBytes 100 = .ok (.return_, 1) := by decide +kernel
end
section
variable {p : Program} {l : Launch} {e : Env} {R : Room} {s : State} {m : MethodId} {args : Array Value} {below : List Frame} {meth : Method} {c : Code} {cells slots : Nat} {Q : State → Prop} {A : Nat → Prop} {H0 : Heap} {D : va_G}
set_option maxHeartbeats 1000000 in
set_option maxRecDepth 100000 in
theorem lp_m_takeBytes_23 (cI cC : ClassId) (h i0 i1 a2 a3 a4 a5 a6 a7 a8 i9 a10 a11 a12 a13 a14 a15 i16 i17 a18 i19 a20 a21 i22 a23 : Nat) (gr da bt : Nat → Nat) (mk : Nat) (hmk : mk < 8) (hgr : ∀ j, j < 441 → gr j ≤ 1) (hda : ∀ j, j < 208 → da j < 441) (S : CallFix p m c b_m_takeBytes 5 s args (cd_m_takeBytes :: WS) R_Model) (hRf : 1 ≤ R.frames) (hRl : 23 ≤ R.locals) (hRc : cells ≤ R.cells ∧ slots ≤ R.slots) (hK : va_K D classes [(cI, .int), (cC, .char)] s) (hA : ∀ q, H0.size ≤ q → A q) (kx : ∀ (ls : Array Slot) (H : Heap) (locs : List Loc), lv_has ls 5 [(0, .ref h), (1, .int (nI mk)), (2, .int (nI 208))] → va_P D classes [(h, .inr (8, [.int (nI i0), .int (nI i1), .ref a2, .ref a3, .ref a4, .ref a5, .ref a6, .ref a7, .ref a8, .int (nI i9), .ref a10, .ref a11, .ref a12, .ref a13, .ref a14, .ref a15, .int (nI i16), .int (nI i17), .ref a18, .int (nI i19), .ref a20, .ref a21, .int (nI i22), .ref a23])), (a3, .inl (cI, 441, .inl (fun j => nI (gr j)))), (a7, .inl (cI, 208, .inl (fun j => nI (da j)))), (a10, .inl (cI, 26, .inl (fun j => nI ((tkL (zrL bt 26) gr da mk 208) j))))] H → va_D A [(h, .inr (8, [.int (nI i0), .int (nI i1), .ref a2, .ref a3, .ref a4, .ref a5, .ref a6, .ref a7, .ref a8, .int (nI i9), .ref a10, .ref a11, .ref a12, .ref a13, .ref a14, .ref a15, .int (nI i16), .int (nI i17), .ref a18, .int (nI i19), .ref a20, .ref a21, .int (nI i22), .ref a23])), (a3, .inl (cI, 441, .inl (fun j => nI (gr j)))), (a7, .inl (cI, 208, .inl (fun j => nI (da j)))), (a10, .inl (cI, 26, .inl (fun j => nI ((tkL (zrL bt 26) gr da mk 208) j))))] → va_S A H0 H locs → W p l e R s m args below meth c H locs cells slots Q (F0 m 100 ls [])) :
    ∀ k, k ≤ 208 → ∀ (ls : Array Slot) (H : Heap) (locs : List Loc), lv_has ls 5 [(0, .ref h), (1, .int (nI mk)), (2, .int (nI k))] → va_P D classes [(h, .inr (8, [.int (nI i0), .int (nI i1), .ref a2, .ref a3, .ref a4, .ref a5, .ref a6, .ref a7, .ref a8, .int (nI i9), .ref a10, .ref a11, .ref a12, .ref a13, .ref a14, .ref a15, .int (nI i16), .int (nI i17), .ref a18, .int (nI i19), .ref a20, .ref a21, .int (nI i22), .ref a23])), (a3, .inl (cI, 441, .inl (fun j => nI (gr j)))), (a7, .inl (cI, 208, .inl (fun j => nI (da j)))), (a10, .inl (cI, 26, .inl (fun j => nI ((tkL (zrL bt 26) gr da mk k) j))))] H → va_D A [(h, .inr (8, [.int (nI i0), .int (nI i1), .ref a2, .ref a3, .ref a4, .ref a5, .ref a6, .ref a7, .ref a8, .int (nI i9), .ref a10, .ref a11, .ref a12, .ref a13, .ref a14, .ref a15, .int (nI i16), .int (nI i17), .ref a18, .int (nI i19), .ref a20, .ref a21, .int (nI i22), .ref a23])), (a3, .inl (cI, 441, .inl (fun j => nI (gr j)))), (a7, .inl (cI, 208, .inl (fun j => nI (da j)))), (a10, .inl (cI, 26, .inl (fun j => nI ((tkL (zrL bt 26) gr da mk k) j))))] → va_S A H0 H locs → W p l e R s m args below meth c H locs cells slots Q (F0 m 23 ls []) := by
  obtain ⟨hx, hb, hml, hown, hts⟩ := id S
  refine up_loop (fun k hkk ih => ?_)
  intro ls H locs hl hP hD hS
  refine lv_iload_n hx hb d_m_takeBytes_23 rfl (lv_at hl 2 rfl) ?_
  refine lv_sipush (v := nI 208) hx hb d_m_takeBytes_24 (by decide) ?_
  refine n_icmp_ge hx hb d_m_takeBytes_27 (tgt := 100) rfl (by omega) (by omega) (fun g27 => ?_) (fun g27 => ?_)
  · skip
    obtain rfl : k = 208 := by omega
    exact kx ls H locs (lv_sub hl [0, 1, 2] rfl) hP hD hS
  · skip
    have hd1 := hda k (by omega)
    have hg1 := hgr (da k) hd1
    have ht1 := tnN_le mk (da k / 21) (da k % 21)
    refine lv_aload_n hx hb d_m_takeBytes_30 rfl (lv_at hl 0 rfl) ?_
    refine n_get (C := R_Model) (T := F_Model) (N := 24) (v := .ref a7) hx hb hts u_Model_in hown hK hP 0 rfl rfl 7 (by decide) kw_783 rfl d_m_takeBytes_31 ?_
    refine lv_iload_n hx hb d_m_takeBytes_34 rfl (lv_at hl 2 rfl) ?_
    refine n_iald hx hb hK hP 2 0 rfl rfl (by omega) (by decide) d_m_takeBytes_35 ?_
    refine lv_istore_n hx hb d_m_takeBytes_36 rfl hl (Nat.le_of_ble_eq_true rfl) rfl (fun ls hl => ?_)
    have hl : lv_has ls 5 [(3, .int (nI (da k))), (0, .ref h), (1, .int (nI mk)), (2, .int (nI k))] := hl
    refine lv_iload_n hx hb d_m_takeBytes_37 rfl (lv_at hl 2 rfl) ?_
    refine lv_iload_n hx hb d_m_takeBytes_38 rfl (lv_at hl 0 rfl) ?_
    refine lv_bipush (v := nI 21) hx hb d_m_takeBytes_39 (by decide) ?_
    refine n_idiv hx hb d_m_takeBytes_41 (by omega) (by omega) (by omega) ?_
    refine lv_iload_n hx hb d_m_takeBytes_42 rfl (lv_at hl 0 rfl) ?_
    refine lv_bipush (v := nI 21) hx hb d_m_takeBytes_43 (by decide) ?_
    refine n_irem hx hb d_m_takeBytes_45 (by omega) (by omega) (by omega) ?_
    refine q_pureS (n := 3) (As := [.int (nI mk), .int (nI ((da k) / 21)), .int (nI ((da k) % 21))]) (rest := []) S (c_m_turns l mk ((da k) / 21) ((da k) % 21) (by omega) (by omega) (by omega)) (q_goodS kw_903 kw_904 kw_10 kw_905) (by decide +kernel) rfl rfl ⟨Nat.le_trans (Nat.le_of_ble_eq_true rfl) hRf, Nat.le_trans (Nat.le_of_ble_eq_true rfl) hRl⟩ rfl hl.1 rfl (Nat.le_of_ble_eq_true rfl) d_m_takeBytes_46 hRc hS (fun H locs hkp hS => ?_)
    replace hP := hP.kept (fun k q hq => hkp q.1 (hP k q hq).lt)
    refine n_if_eq hx hb d_m_takeBytes_49 (tgt := 63) rfl (by omega) (fun g49 => ?_) (fun g49 => ?_)
    · skip
      refine lv_aload_n hx hb d_m_takeBytes_63 rfl (lv_at hl 1 rfl) ?_
      refine n_get (C := R_Model) (T := F_Model) (N := 24) (v := .ref a3) hx hb hts u_Model_in hown hK hP 0 rfl rfl 3 (by decide) kw_779 rfl d_m_takeBytes_64 ?_
      refine lv_iload_n hx hb d_m_takeBytes_67 rfl (lv_at hl 0 rfl) ?_
      refine n_iald hx hb hK hP 1 0 rfl rfl (by omega) (by decide) d_m_takeBytes_68 ?_
      refine lv_istore hx hb d_m_takeBytes_69 hl (Nat.le_of_ble_eq_true rfl) rfl (fun ls hl => ?_)
      have hl : lv_has ls 5 [(4, .int (nI (gr (da k)))), (3, .int (nI (da k))), (0, .ref h), (1, .int (nI mk)), (2, .int (nI k))] := hl
      refine lv_aload_n hx hb d_m_takeBytes_71 rfl (lv_at hl 2 rfl) ?_
      refine n_get (C := R_Model) (T := F_Model) (N := 24) (v := .ref a10) hx hb hts u_Model_in hown hK hP 0 rfl rfl 10 (by decide) kw_786 rfl d_m_takeBytes_72 ?_
      refine lv_iload_n hx hb d_m_takeBytes_75 rfl (lv_at hl 4 rfl) ?_
      refine lv_bipush (v := nI 8) hx hb d_m_takeBytes_76 (by decide) ?_
      refine n_idiv hx hb d_m_takeBytes_78 (by omega) (by omega) (by omega) ?_
      refine lv_iconst (v := nI 2) hx hb d_m_takeBytes_79 (by decide) ?_
      refine lv_aload_n hx hb d_m_takeBytes_80 rfl (lv_at hl 2 rfl) ?_
      refine n_get (C := R_Model) (T := F_Model) (N := 24) (v := .ref a10) hx hb hts u_Model_in hown hK hP 0 rfl rfl 10 (by decide) kw_786 rfl d_m_takeBytes_81 ?_
      refine lv_iload_n hx hb d_m_takeBytes_84 rfl (lv_at hl 4 rfl) ?_
      refine lv_bipush (v := nI 8) hx hb d_m_takeBytes_85 (by decide) ?_
      refine n_idiv hx hb d_m_takeBytes_87 (by omega) (by omega) (by omega) ?_
      refine n_iald hx hb hK hP 3 0 rfl rfl (by omega) (by decide) d_m_takeBytes_88 ?_
      refine n_imul hx hb d_m_takeBytes_89 ?_
      refine lv_iload hx hb d_m_takeBytes_90 (lv_at hl 0 rfl) ?_
      refine n_iadd hx hb d_m_takeBytes_92 ?_
      refine n_iast hx hb hK hP hD hS 3 0 rfl rfl (by omega) (by decide) d_m_takeBytes_93 (fun H locs hP hD hS => ?_)
      have hP : va_P D classes [(h, .inr (8, [.int (nI i0), .int (nI i1), .ref a2, .ref a3, .ref a4, .ref a5, .ref a6, .ref a7, .ref a8, .int (nI i9), .ref a10, .ref a11, .ref a12, .ref a13, .ref a14, .ref a15, .int (nI i16), .int (nI i17), .ref a18, .int (nI i19), .ref a20, .ref a21, .int (nI i22), .ref a23])), (a3, .inl (cI, 441, .inl (fun j => nI (gr j)))), (a7, .inl (cI, 208, .inl (fun j => nI (da j)))), (a10, .inl (cI, 26, .inl (fun j => nI ((va_up (tkL (zrL bt 26) gr da mk k) (k / 8) ((2 * ((tkL (zrL bt 26) gr da mk k) (k / 8))) + (gr (da k)))) j))))] H := hP
      have hD : va_D A [(h, .inr (8, [.int (nI i0), .int (nI i1), .ref a2, .ref a3, .ref a4, .ref a5, .ref a6, .ref a7, .ref a8, .int (nI i9), .ref a10, .ref a11, .ref a12, .ref a13, .ref a14, .ref a15, .int (nI i16), .int (nI i17), .ref a18, .int (nI i19), .ref a20, .ref a21, .int (nI i22), .ref a23])), (a3, .inl (cI, 441, .inl (fun j => nI (gr j)))), (a7, .inl (cI, 208, .inl (fun j => nI (da j)))), (a10, .inl (cI, 26, .inl (fun j => nI ((va_up (tkL (zrL bt 26) gr da mk k) (k / 8) ((2 * ((tkL (zrL bt 26) gr da mk k) (k / 8))) + (gr (da k)))) j))))] := hD
      rw [show va_up (tkL (zrL bt 26) gr da mk k) (k / 8) ((2 * ((tkL (zrL bt 26) gr da mk k) (k / 8))) + (gr (da k))) = tkL (zrL bt 26) gr da mk (k + 1) from (by first | exact (tkL_t g49).symm | exact (tkL_f g49).symm)] at hP hD
      refine lv_iinc (k := 4) (v := nI (k + 1)) hx hb d_m_takeBytes_94 hl rfl (nx_inc k 1) (Nat.le_of_ble_eq_true rfl) rfl (fun ls hl => ?_)
      have hl : lv_has ls 5 [(2, .int (nI (k + 1))), (4, .int (nI (gr (da k)))), (3, .int (nI (da k))), (0, .ref h), (1, .int (nI mk))] := hl
      refine lv_goto hx hb d_m_takeBytes_97 (tgt := 23) rfl ?_
      exact ih (by omega) ls H locs (lv_sub hl [3, 4, 0] rfl) hP hD hS
    · skip
      refine lv_iconst (v := nI 1) hx hb d_m_takeBytes_52 (by decide) ?_
      refine lv_aload_n hx hb d_m_takeBytes_53 rfl (lv_at hl 1 rfl) ?_
      refine n_get (C := R_Model) (T := F_Model) (N := 24) (v := .ref a3) hx hb hts u_Model_in hown hK hP 0 rfl rfl 3 (by decide) kw_779 rfl d_m_takeBytes_54 ?_
      refine lv_iload_n hx hb d_m_takeBytes_57 rfl (lv_at hl 0 rfl) ?_
      refine n_iald hx hb hK hP 1 0 rfl rfl (by omega) (by decide) d_m_takeBytes_58 ?_
      refine n_isub hx hb d_m_takeBytes_59 (by omega) ?_
      refine lv_goto hx hb d_m_takeBytes_60 (tgt := 69) rfl ?_
      refine lv_istore hx hb d_m_takeBytes_69 hl (Nat.le_of_ble_eq_true rfl) rfl (fun ls hl => ?_)
      have hl : lv_has ls 5 [(4, .int (nI (1 - (gr (da k))))), (3, .int (nI (da k))), (0, .ref h), (1, .int (nI mk)), (2, .int (nI k))] := hl
      refine lv_aload_n hx hb d_m_takeBytes_71 rfl (lv_at hl 2 rfl) ?_
      refine n_get (C := R_Model) (T := F_Model) (N := 24) (v := .ref a10) hx hb hts u_Model_in hown hK hP 0 rfl rfl 10 (by decide) kw_786 rfl d_m_takeBytes_72 ?_
      refine lv_iload_n hx hb d_m_takeBytes_75 rfl (lv_at hl 4 rfl) ?_
      refine lv_bipush (v := nI 8) hx hb d_m_takeBytes_76 (by decide) ?_
      refine n_idiv hx hb d_m_takeBytes_78 (by omega) (by omega) (by omega) ?_
      refine lv_iconst (v := nI 2) hx hb d_m_takeBytes_79 (by decide) ?_
      refine lv_aload_n hx hb d_m_takeBytes_80 rfl (lv_at hl 2 rfl) ?_
      refine n_get (C := R_Model) (T := F_Model) (N := 24) (v := .ref a10) hx hb hts u_Model_in hown hK hP 0 rfl rfl 10 (by decide) kw_786 rfl d_m_takeBytes_81 ?_
      refine lv_iload_n hx hb d_m_takeBytes_84 rfl (lv_at hl 4 rfl) ?_
      refine lv_bipush (v := nI 8) hx hb d_m_takeBytes_85 (by decide) ?_
      refine n_idiv hx hb d_m_takeBytes_87 (by omega) (by omega) (by omega) ?_
      refine n_iald hx hb hK hP 3 0 rfl rfl (by omega) (by decide) d_m_takeBytes_88 ?_
      refine n_imul hx hb d_m_takeBytes_89 ?_
      refine lv_iload hx hb d_m_takeBytes_90 (lv_at hl 0 rfl) ?_
      refine n_iadd hx hb d_m_takeBytes_92 ?_
      refine n_iast hx hb hK hP hD hS 3 0 rfl rfl (by omega) (by decide) d_m_takeBytes_93 (fun H locs hP hD hS => ?_)
      have hP : va_P D classes [(h, .inr (8, [.int (nI i0), .int (nI i1), .ref a2, .ref a3, .ref a4, .ref a5, .ref a6, .ref a7, .ref a8, .int (nI i9), .ref a10, .ref a11, .ref a12, .ref a13, .ref a14, .ref a15, .int (nI i16), .int (nI i17), .ref a18, .int (nI i19), .ref a20, .ref a21, .int (nI i22), .ref a23])), (a3, .inl (cI, 441, .inl (fun j => nI (gr j)))), (a7, .inl (cI, 208, .inl (fun j => nI (da j)))), (a10, .inl (cI, 26, .inl (fun j => nI ((va_up (tkL (zrL bt 26) gr da mk k) (k / 8) ((2 * ((tkL (zrL bt 26) gr da mk k) (k / 8))) + (1 - (gr (da k))))) j))))] H := hP
      have hD : va_D A [(h, .inr (8, [.int (nI i0), .int (nI i1), .ref a2, .ref a3, .ref a4, .ref a5, .ref a6, .ref a7, .ref a8, .int (nI i9), .ref a10, .ref a11, .ref a12, .ref a13, .ref a14, .ref a15, .int (nI i16), .int (nI i17), .ref a18, .int (nI i19), .ref a20, .ref a21, .int (nI i22), .ref a23])), (a3, .inl (cI, 441, .inl (fun j => nI (gr j)))), (a7, .inl (cI, 208, .inl (fun j => nI (da j)))), (a10, .inl (cI, 26, .inl (fun j => nI ((va_up (tkL (zrL bt 26) gr da mk k) (k / 8) ((2 * ((tkL (zrL bt 26) gr da mk k) (k / 8))) + (1 - (gr (da k))))) j))))] := hD
      rw [show va_up (tkL (zrL bt 26) gr da mk k) (k / 8) ((2 * ((tkL (zrL bt 26) gr da mk k) (k / 8))) + (1 - (gr (da k)))) = tkL (zrL bt 26) gr da mk (k + 1) from (by first | exact (tkL_t g49).symm | exact (tkL_f g49).symm)] at hP hD
      refine lv_iinc (k := 4) (v := nI (k + 1)) hx hb d_m_takeBytes_94 hl rfl (nx_inc k 1) (Nat.le_of_ble_eq_true rfl) rfl (fun ls hl => ?_)
      have hl : lv_has ls 5 [(2, .int (nI (k + 1))), (4, .int (nI (1 - (gr (da k))))), (3, .int (nI (da k))), (0, .ref h), (1, .int (nI mk))] := hl
      refine lv_goto hx hb d_m_takeBytes_97 (tgt := 23) rfl ?_
      exact ih (by omega) ls H locs (lv_sub hl [3, 4, 0] rfl) hP hD hS
set_option maxHeartbeats 1000000 in
set_option maxRecDepth 100000 in
theorem lp_m_takeBytes_2 (cI cC : ClassId) (h i0 i1 a2 a3 a4 a5 a6 a7 a8 i9 a10 a11 a12 a13 a14 a15 i16 i17 a18 i19 a20 a21 i22 a23 : Nat) (gr da bt : Nat → Nat) (mk : Nat) (hmk : mk < 8) (hgr : ∀ j, j < 441 → gr j ≤ 1) (hda : ∀ j, j < 208 → da j < 441) (S : CallFix p m c b_m_takeBytes 5 s args (cd_m_takeBytes :: WS) R_Model) (hRf : 1 ≤ R.frames) (hRl : 23 ≤ R.locals) (hRc : cells ≤ R.cells ∧ slots ≤ R.slots) (hK : va_K D classes [(cI, .int), (cC, .char)] s) (hA : ∀ q, H0.size ≤ q → A q) (kx : ∀ (ls : Array Slot) (H : Heap) (locs : List Loc), lv_has ls 5 [(0, .ref h), (1, .int (nI mk)), (2, .int (nI 26))] → va_P D classes [(h, .inr (8, [.int (nI i0), .int (nI i1), .ref a2, .ref a3, .ref a4, .ref a5, .ref a6, .ref a7, .ref a8, .int (nI i9), .ref a10, .ref a11, .ref a12, .ref a13, .ref a14, .ref a15, .int (nI i16), .int (nI i17), .ref a18, .int (nI i19), .ref a20, .ref a21, .int (nI i22), .ref a23])), (a3, .inl (cI, 441, .inl (fun j => nI (gr j)))), (a7, .inl (cI, 208, .inl (fun j => nI (da j)))), (a10, .inl (cI, 26, .inl (fun j => nI ((zrL bt 26) j))))] H → va_D A [(h, .inr (8, [.int (nI i0), .int (nI i1), .ref a2, .ref a3, .ref a4, .ref a5, .ref a6, .ref a7, .ref a8, .int (nI i9), .ref a10, .ref a11, .ref a12, .ref a13, .ref a14, .ref a15, .int (nI i16), .int (nI i17), .ref a18, .int (nI i19), .ref a20, .ref a21, .int (nI i22), .ref a23])), (a3, .inl (cI, 441, .inl (fun j => nI (gr j)))), (a7, .inl (cI, 208, .inl (fun j => nI (da j)))), (a10, .inl (cI, 26, .inl (fun j => nI ((zrL bt 26) j))))] → va_S A H0 H locs → W p l e R s m args below meth c H locs cells slots Q (F0 m 21 ls [])) :
    ∀ k, k ≤ 26 → ∀ (ls : Array Slot) (H : Heap) (locs : List Loc), lv_has ls 5 [(0, .ref h), (1, .int (nI mk)), (2, .int (nI k))] → va_P D classes [(h, .inr (8, [.int (nI i0), .int (nI i1), .ref a2, .ref a3, .ref a4, .ref a5, .ref a6, .ref a7, .ref a8, .int (nI i9), .ref a10, .ref a11, .ref a12, .ref a13, .ref a14, .ref a15, .int (nI i16), .int (nI i17), .ref a18, .int (nI i19), .ref a20, .ref a21, .int (nI i22), .ref a23])), (a3, .inl (cI, 441, .inl (fun j => nI (gr j)))), (a7, .inl (cI, 208, .inl (fun j => nI (da j)))), (a10, .inl (cI, 26, .inl (fun j => nI ((zrL bt k) j))))] H → va_D A [(h, .inr (8, [.int (nI i0), .int (nI i1), .ref a2, .ref a3, .ref a4, .ref a5, .ref a6, .ref a7, .ref a8, .int (nI i9), .ref a10, .ref a11, .ref a12, .ref a13, .ref a14, .ref a15, .int (nI i16), .int (nI i17), .ref a18, .int (nI i19), .ref a20, .ref a21, .int (nI i22), .ref a23])), (a3, .inl (cI, 441, .inl (fun j => nI (gr j)))), (a7, .inl (cI, 208, .inl (fun j => nI (da j)))), (a10, .inl (cI, 26, .inl (fun j => nI ((zrL bt k) j))))] → va_S A H0 H locs → W p l e R s m args below meth c H locs cells slots Q (F0 m 2 ls []) := by
  obtain ⟨hx, hb, hml, hown, hts⟩ := id S
  refine up_loop (fun k hkk ih => ?_)
  intro ls H locs hl hP hD hS
  refine lv_iload_n hx hb d_m_takeBytes_2 rfl (lv_at hl 2 rfl) ?_
  refine lv_bipush (v := nI 26) hx hb d_m_takeBytes_3 (by decide) ?_
  refine n_icmp_ge hx hb d_m_takeBytes_5 (tgt := 21) rfl (by omega) (by omega) (fun g5 => ?_) (fun g5 => ?_)
  · skip
    obtain rfl : k = 26 := by omega
    exact kx ls H locs (lv_sub hl [0, 1, 2] rfl) hP hD hS
  · skip
    refine lv_aload_n hx hb d_m_takeBytes_8 rfl (lv_at hl 0 rfl) ?_
    refine n_get (C := R_Model) (T := F_Model) (N := 24) (v := .ref a10) hx hb hts u_Model_in hown hK hP 0 rfl rfl 10 (by decide) kw_786 rfl d_m_takeBytes_9 ?_
    refine lv_iload_n hx hb d_m_takeBytes_12 rfl (lv_at hl 2 rfl) ?_
    refine lv_iconst (v := nI 0) hx hb d_m_takeBytes_13 (by decide) ?_
    refine n_iast hx hb hK hP hD hS 3 0 rfl rfl (by omega) (by decide) d_m_takeBytes_14 (fun H locs hP hD hS => ?_)
    have hP : va_P D classes [(h, .inr (8, [.int (nI i0), .int (nI i1), .ref a2, .ref a3, .ref a4, .ref a5, .ref a6, .ref a7, .ref a8, .int (nI i9), .ref a10, .ref a11, .ref a12, .ref a13, .ref a14, .ref a15, .int (nI i16), .int (nI i17), .ref a18, .int (nI i19), .ref a20, .ref a21, .int (nI i22), .ref a23])), (a3, .inl (cI, 441, .inl (fun j => nI (gr j)))), (a7, .inl (cI, 208, .inl (fun j => nI (da j)))), (a10, .inl (cI, 26, .inl (fun j => nI ((va_up (zrL bt k) k 0) j))))] H := hP
    have hD : va_D A [(h, .inr (8, [.int (nI i0), .int (nI i1), .ref a2, .ref a3, .ref a4, .ref a5, .ref a6, .ref a7, .ref a8, .int (nI i9), .ref a10, .ref a11, .ref a12, .ref a13, .ref a14, .ref a15, .int (nI i16), .int (nI i17), .ref a18, .int (nI i19), .ref a20, .ref a21, .int (nI i22), .ref a23])), (a3, .inl (cI, 441, .inl (fun j => nI (gr j)))), (a7, .inl (cI, 208, .inl (fun j => nI (da j)))), (a10, .inl (cI, 26, .inl (fun j => nI ((va_up (zrL bt k) k 0) j))))] := hD
    rw [show va_up (zrL bt k) k 0 = zrL bt (k + 1) from rfl] at hP hD
    refine lv_iinc (k := 2) (v := nI (k + 1)) hx hb d_m_takeBytes_15 hl rfl (nx_inc k 1) (Nat.le_of_ble_eq_true rfl) rfl (fun ls hl => ?_)
    have hl : lv_has ls 5 [(2, .int (nI (k + 1))), (0, .ref h), (1, .int (nI mk))] := hl
    refine lv_goto hx hb d_m_takeBytes_18 (tgt := 2) rfl ?_
    exact ih (by omega) ls H locs (lv_sub hl [1, 2, 0] rfl) hP hD hS
set_option maxHeartbeats 1000000 in
set_option maxRecDepth 100000 in
theorem bd_m_takeBytes (cI cC : ClassId) (h i0 i1 a2 a3 a4 a5 a6 a7 a8 i9 a10 a11 a12 a13 a14 a15 i16 i17 a18 i19 a20 a21 i22 a23 : Nat) (gr da bt : Nat → Nat) (mk : Nat) (hmk : mk < 8) (hgr : ∀ j, j < 441 → gr j ≤ 1) (hda : ∀ j, j < 208 → da j < 441) (S : CallFix p m c b_m_takeBytes 5 s args (cd_m_takeBytes :: WS) R_Model) (hRf : 1 ≤ R.frames) (hRl : 23 ≤ R.locals) (hRc : cells ≤ R.cells ∧ slots ≤ R.slots) (hK : va_K D classes [(cI, .int), (cC, .char)] s) (hA : ∀ q, H0.size ≤ q → A q) (kr : ∀ (pc : Nat) (ls : Array Slot) (H : Heap) (locs : List Loc), decode b_m_takeBytes pc = .ok (.return_, 1) → va_P D classes [(h, .inr (8, [.int (nI i0), .int (nI i1), .ref a2, .ref a3, .ref a4, .ref a5, .ref a6, .ref a7, .ref a8, .int (nI i9), .ref a10, .ref a11, .ref a12, .ref a13, .ref a14, .ref a15, .int (nI i16), .int (nI i17), .ref a18, .int (nI i19), .ref a20, .ref a21, .int (nI i22), .ref a23])), (a3, .inl (cI, 441, .inl (fun j => nI (gr j)))), (a7, .inl (cI, 208, .inl (fun j => nI (da j)))), (a10, .inl (cI, 26, .inl (fun j => nI ((tkL (zrL bt 26) gr da mk 208) j))))] H → va_D A [(h, .inr (8, [.int (nI i0), .int (nI i1), .ref a2, .ref a3, .ref a4, .ref a5, .ref a6, .ref a7, .ref a8, .int (nI i9), .ref a10, .ref a11, .ref a12, .ref a13, .ref a14, .ref a15, .int (nI i16), .int (nI i17), .ref a18, .int (nI i19), .ref a20, .ref a21, .int (nI i22), .ref a23])), (a3, .inl (cI, 441, .inl (fun j => nI (gr j)))), (a7, .inl (cI, 208, .inl (fun j => nI (da j)))), (a10, .inl (cI, 26, .inl (fun j => nI ((tkL (zrL bt 26) gr da mk 208) j))))] → va_S A H0 H locs → W p l e R s m args below meth c H locs cells slots Q (F0 m pc ls [])) : ∀ (ls : Array Slot) (H : Heap) (locs : List Loc), lv_has ls 5 [(0, .ref h), (1, .int (nI mk))] → va_P D classes [(h, .inr (8, [.int (nI i0), .int (nI i1), .ref a2, .ref a3, .ref a4, .ref a5, .ref a6, .ref a7, .ref a8, .int (nI i9), .ref a10, .ref a11, .ref a12, .ref a13, .ref a14, .ref a15, .int (nI i16), .int (nI i17), .ref a18, .int (nI i19), .ref a20, .ref a21, .int (nI i22), .ref a23])), (a3, .inl (cI, 441, .inl (fun j => nI (gr j)))), (a7, .inl (cI, 208, .inl (fun j => nI (da j)))), (a10, .inl (cI, 26, .inl (fun j => nI (bt j))))] H → va_D A [(h, .inr (8, [.int (nI i0), .int (nI i1), .ref a2, .ref a3, .ref a4, .ref a5, .ref a6, .ref a7, .ref a8, .int (nI i9), .ref a10, .ref a11, .ref a12, .ref a13, .ref a14, .ref a15, .int (nI i16), .int (nI i17), .ref a18, .int (nI i19), .ref a20, .ref a21, .int (nI i22), .ref a23])), (a3, .inl (cI, 441, .inl (fun j => nI (gr j)))), (a7, .inl (cI, 208, .inl (fun j => nI (da j)))), (a10, .inl (cI, 26, .inl (fun j => nI (bt j))))] → va_S A H0 H locs → W p l e R s m args below meth c H locs cells slots Q (F0 m 0 ls []) := by
  obtain ⟨hx, hb, hml, hown, hts⟩ := id S
  intro ls H locs hl hP hD hS
  refine lv_iconst (v := nI 0) hx hb d_m_takeBytes_0 (by decide) ?_
  refine lv_istore_n hx hb d_m_takeBytes_1 rfl hl (Nat.le_of_ble_eq_true rfl) rfl (fun ls hl => ?_)
  have hl : lv_has ls 5 [(2, .int (nI 0)), (0, .ref h), (1, .int (nI mk))] := hl
  refine lp_m_takeBytes_2 cI cC h i0 i1 a2 a3 a4 a5 a6 a7 a8 i9 a10 a11 a12 a13 a14 a15 i16 i17 a18 i19 a20 a21 i22 a23 gr da bt mk hmk hgr hda S hRf hRl hRc hK hA  (fun ls H locs hl hP hD hS => ?_) 0 (by omega) ls H locs (lv_sub hl [1, 2, 0] rfl) hP hD hS
  refine lv_iconst (v := nI 0) hx hb d_m_takeBytes_21 (by decide) ?_
  refine lv_istore_n hx hb d_m_takeBytes_22 rfl hl (Nat.le_of_ble_eq_true rfl) rfl (fun ls hl => ?_)
  have hl : lv_has ls 5 [(2, .int (nI 0)), (0, .ref h), (1, .int (nI mk))] := hl
  refine lp_m_takeBytes_23 cI cC h i0 i1 a2 a3 a4 a5 a6 a7 a8 i9 a10 a11 a12 a13 a14 a15 i16 i17 a18 i19 a20 a21 i22 a23 gr da bt mk hmk hgr hda S hRf hRl hRc hK hA  (fun ls H locs hl hP hD hS => ?_) 0 (by omega) ls H locs (lv_sub hl [1, 2, 0] rfl) hP hD hS
  exact kr _ ls H locs d_m_takeBytes_100 hP hD hS
set_option maxHeartbeats 1000000 in
set_option maxRecDepth 100000 in
theorem c_m_takeBytes (l : Launch) (D : va_G) (cI cC : ClassId) (h i0 i1 a2 a3 a4 a5 a6 a7 a8 i9 a10 a11 a12 a13 a14 a15 i16 i17 a18 i19 a20 a21 i22 a23 : Nat) (gr da bt : Nat → Nat) (mk : Nat) (hmk : mk < 8) (hgr : ∀ j, j < 441 → gr j ≤ 1) (hda : ∀ j, j < 208 → da j < 441) (sz : Nat) : Met l y_m_takeBytes (cd_m_takeBytes :: WS) { frames := 1, cells := 0, slots := 0, locals := 23 } (va_Pc [.ref h, .int (nI mk)] (wP D [(h, .inr (8, [.int (nI i0), .int (nI i1), .ref a2, .ref a3, .ref a4, .ref a5, .ref a6, .ref a7, .ref a8, .int (nI i9), .ref a10, .ref a11, .ref a12, .ref a13, .ref a14, .ref a15, .int (nI i16), .int (nI i17), .ref a18, .int (nI i19), .ref a20, .ref a21, .int (nI i22), .ref a23])), (a3, .inl (cI, 441, .inl (fun j => nI (gr j)))), (a7, .inl (cI, 208, .inl (fun j => nI (da j)))), (a10, .inl (cI, 26, .inl (fun j => nI (bt j))))] [(cI, .int), (cC, .char)] sz)) (wQv D [(h, .inr (8, [.int (nI i0), .int (nI i1), .ref a2, .ref a3, .ref a4, .ref a5, .ref a6, .ref a7, .ref a8, .int (nI i9), .ref a10, .ref a11, .ref a12, .ref a13, .ref a14, .ref a15, .int (nI i16), .int (nI i17), .ref a18, .int (nI i19), .ref a20, .ref a21, .int (nI i22), .ref a23])), (a3, .inl (cI, 441, .inl (fun j => nI (gr j)))), (a7, .inl (cI, 208, .inl (fun j => nI (da j)))), (a10, .inl (cI, 26, .inl (fun j => nI (bt j))))] [(h, .inr (8, [.int (nI i0), .int (nI i1), .ref a2, .ref a3, .ref a4, .ref a5, .ref a6, .ref a7, .ref a8, .int (nI i9), .ref a10, .ref a11, .ref a12, .ref a13, .ref a14, .ref a15, .int (nI i16), .int (nI i17), .ref a18, .int (nI i19), .ref a20, .ref a21, .int (nI i22), .ref a23])), (a3, .inl (cI, 441, .inl (fun j => nI (gr j)))), (a7, .inl (cI, 208, .inl (fun j => nI (da j)))), (a10, .inl (cI, 26, .inl (fun j => nI ((tkL (zrL bt 26) gr da mk 208) j))))] sz) 0 0 (va_A [(h, .inr (8, [.int (nI i0), .int (nI i1), .ref a2, .ref a3, .ref a4, .ref a5, .ref a6, .ref a7, .ref a8, .int (nI i9), .ref a10, .ref a11, .ref a12, .ref a13, .ref a14, .ref a15, .int (nI i16), .int (nI i17), .ref a18, .int (nI i19), .ref a20, .ref a21, .int (nI i22), .ref a23])), (a3, .inl (cI, 441, .inl (fun j => nI (gr j)))), (a7, .inl (cI, 208, .inl (fun j => nI (da j)))), (a10, .inl (cI, 26, .inl (fun j => nI (bt j))))] sz) := by
  refine Met.ofW (cc := b_m_takeBytes) (maxL := 5) (ret := none) (by decide) rfl ?_
  intro p e s m args below meth c s₁ B hml hv0
  obtain ⟨rfl, hP, hK, hD0, hsz⟩ := hv0
  have hts := atoms_spec (ws := cd_m_takeBytes :: WS) B.pre
  have hown : s.vm.findClass R_Model = some m.cls := findClass_of_methodNamed B.named
  have hlocks := B.notSynchronized
  subst hsz
  have hD := hD0.self (sz := s.heap.size)
  have hl := lv_entry ([.ref h, .int (nI mk)]) (n := 5) (Nat.le_of_ble_eq_true rfl)
  rw [lg_entry_eq]
  generalize (lg_sl ([.ref h, .int (nI mk)]) ++ List.replicate (5 - (lg_sl ([.ref h, .int (nI mk)])).length) Slot.unset).toArray = ls at hl ⊢
  refine bd_m_takeBytes cI cC h i0 i1 a2 a3 a4 a5 a6 a7 a8 i9 a10 a11 a12 a13 a14 a15 i16 i17 a18 i19 a20 a21 i22 a23 gr da bt mk hmk hgr hda ⟨B.exec, B.bytes, hml, hown, hts⟩ (Nat.le_refl _) (Nat.le_refl _) ⟨Nat.le_refl _, Nat.le_refl _⟩ hK (fun q h => Or.inr h) (fun pc ls H locs hd hP hD hS => ?_) ls _ _ hl hP hD (va_S.rf)
  exact W.vret B.exec B.bytes B.returns (fun t ht _ => ⟨⟨(), rfl, trivial, (by have h9 := hP; rw [← ht] at h9; exact h9)⟩, hS.F ht⟩) hS.2.2 hd
end
section
theorem d_m_draw_0 : decode b_m_draw 0 = .ok (.iconst 0, 1) := by decide +kernel
theorem d_m_draw_1 : decode b_m_draw 1 = .ok (.istore_n 3, 1) := by decide +kernel
theorem d_m_draw_2 : decode b_m_draw 2 = .ok (.iload_n 3, 1) := by decide +kernel
theorem d_m_draw_3 : decode b_m_draw 3 = .ok (.sipush 441, 3) := by decide +kernel
theorem d_m_draw_6 : decode b_m_draw 6 = .ok (.if_icmp .ge 40, 3) := by decide +kernel
theorem d_m_draw_9 : decode b_m_draw 9 = .ok (.aload_n 0, 1) := by decide +kernel
theorem d_m_draw_10 : decode b_m_draw 10 = .ok (.getfield 16, 3) := by decide +kernel
theorem d_m_draw_13 : decode b_m_draw 13 = .ok (.iload_n 3, 1) := by decide +kernel
theorem d_m_draw_14 : decode b_m_draw 14 = .ok (.aload_n 0, 1) := by decide +kernel
theorem d_m_draw_15 : decode b_m_draw 15 = .ok (.getfield 19, 3) := by decide +kernel
theorem d_m_draw_18 : decode b_m_draw 18 = .ok (.iload_n 3, 1) := by decide +kernel
theorem d_m_draw_19 : decode b_m_draw 19 = .ok (.iaload, 1) := by decide +kernel
theorem d_m_draw_20 : decode b_m_draw 20 = .ok (.iconst 1, 1) := by decide +kernel
theorem d_m_draw_21 : decode b_m_draw 21 = .ok (.if_icmp .ne 17, 3) := by decide +kernel
theorem d_m_draw_24 : decode b_m_draw 24 = .ok (.iload_n 3, 1) := by decide +kernel
theorem d_m_draw_25 : decode b_m_draw 25 = .ok (.bipush 21, 2) := by decide +kernel
theorem d_m_draw_27 : decode b_m_draw 27 = .ok (.idiv, 1) := by decide +kernel
theorem d_m_draw_28 : decode b_m_draw 28 = .ok (.iload_n 3, 1) := by decide +kernel
theorem d_m_draw_29 : decode b_m_draw 29 = .ok (.bipush 21, 2) := by decide +kernel
theorem d_m_draw_31 : decode b_m_draw 31 = .ok (.irem, 1) := by decide +kernel
theorem d_m_draw_32 : decode b_m_draw 32 = .ok (.invokestatic 93, 3) := by decide +kernel
theorem d_m_draw_35 : decode b_m_draw 35 = .ok (.goto 4, 3) := by decide +kernel
theorem d_m_draw_38 : decode b_m_draw 38 = .ok (.iconst 0, 1) := by decide +kernel
theorem d_m_draw_39 : decode b_m_draw 39 = .ok (.iastore, 1) := by decide +kernel
theorem d_m_draw_40 : decode b_m_draw 40 = .ok (.iinc 3 1, 3) := by decide +kernel
theorem d_m_draw_43 : decode b_m_draw 43 = .ok (.goto (-41), 3) := by decide +kernel
theorem d_m_draw_46 : decode b_m_draw 46 = .ok (.iload_n 1, 1) := by decide +kernel
theorem d_m_draw_47 : decode b_m_draw 47 = .ok (.iload_n 2, 1) := by decide +kernel
theorem d_m_draw_48 : decode b_m_draw 48 = .ok (.invokestatic 96, 3) := by decide +kernel
theorem d_m_draw_51 : decode b_m_draw 51 = .ok (.istore_n 3, 1) := by decide +kernel
theorem d_m_draw_52 : decode b_m_draw 52 = .ok (.iconst 0, 1) := by decide +kernel
theorem d_m_draw_53 : decode b_m_draw 53 = .ok (.istore 4, 2) := by decide +kernel
theorem d_m_draw_55 : decode b_m_draw 55 = .ok (.iload 4, 2) := by decide +kernel
theorem d_m_draw_57 : decode b_m_draw 57 = .ok (.bipush 30, 2) := by decide +kernel
theorem d_m_draw_59 : decode b_m_draw 59 = .ok (.if_icmp .ge 33, 3) := by decide +kernel
theorem d_m_draw_62 : decode b_m_draw 62 = .ok (.aload_n 0, 1) := by decide +kernel
theorem d_m_draw_63 : decode b_m_draw 63 = .ok (.getfield 16, 3) := by decide +kernel
theorem d_m_draw_66 : decode b_m_draw 66 = .ok (.aload_n 0, 1) := by decide +kernel
theorem d_m_draw_67 : decode b_m_draw 67 = .ok (.getfield 22, 3) := by decide +kernel
theorem d_m_draw_70 : decode b_m_draw 70 = .ok (.iload 4, 2) := by decide +kernel
theorem d_m_draw_72 : decode b_m_draw 72 = .ok (.iaload, 1) := by decide +kernel
theorem d_m_draw_73 : decode b_m_draw 73 = .ok (.iload_n 3, 1) := by decide +kernel
theorem d_m_draw_74 : decode b_m_draw 74 = .ok (.bipush 14, 2) := by decide +kernel
theorem d_m_draw_76 : decode b_m_draw 76 = .ok (.iload 4, 2) := by decide +kernel
theorem d_m_draw_78 : decode b_m_draw 78 = .ok (.bipush 15, 2) := by decide +kernel
theorem d_m_draw_80 : decode b_m_draw 80 = .ok (.irem, 1) := by decide +kernel
theorem d_m_draw_81 : decode b_m_draw 81 = .ok (.isub, 1) := by decide +kernel
theorem d_m_draw_82 : decode b_m_draw 82 = .ok (.ishr, 1) := by decide +kernel
theorem d_m_draw_83 : decode b_m_draw 83 = .ok (.iconst 1, 1) := by decide +kernel
theorem d_m_draw_84 : decode b_m_draw 84 = .ok (.iand, 1) := by decide +kernel
theorem d_m_draw_85 : decode b_m_draw 85 = .ok (.iastore, 1) := by decide +kernel
theorem d_m_draw_86 : decode b_m_draw 86 = .ok (.iinc 4 1, 3) := by decide +kernel
theorem d_m_draw_89 : decode b_m_draw 89 = .ok (.goto (-34), 3) := by decide +kernel
theorem d_m_draw_92 : decode b_m_draw 92 = .ok (.iconst 0, 1) := by decide +kernel
theorem d_m_draw_93 : decode b_m_draw 93 = .ok (.istore 4, 2) := by decide +kernel
theorem d_m_draw_95 : decode b_m_draw 95 = .ok (.iload 4, 2) := by decide +kernel
theorem d_m_draw_97 : decode b_m_draw 97 = .ok (.sipush 208, 3) := by decide +kernel
theorem d_m_draw_100 : decode b_m_draw 100 = .ok (.if_icmp .ge 74, 3) := by decide +kernel
theorem d_m_draw_103 : decode b_m_draw 103 = .ok (.aload_n 0, 1) := by decide +kernel
theorem d_m_draw_104 : decode b_m_draw 104 = .ok (.getfield 25, 3) := by decide +kernel
theorem d_m_draw_107 : decode b_m_draw 107 = .ok (.iload 4, 2) := by decide +kernel
theorem d_m_draw_109 : decode b_m_draw 109 = .ok (.iaload, 1) := by decide +kernel
theorem d_m_draw_110 : decode b_m_draw 110 = .ok (.istore 5, 2) := by decide +kernel
theorem d_m_draw_112 : decode b_m_draw 112 = .ok (.aload_n 0, 1) := by decide +kernel
theorem d_m_draw_113 : decode b_m_draw 113 = .ok (.getfield 31, 3) := by decide +kernel
theorem d_m_draw_116 : decode b_m_draw 116 = .ok (.iload 4, 2) := by decide +kernel
theorem d_m_draw_118 : decode b_m_draw 118 = .ok (.bipush 8, 2) := by decide +kernel
theorem d_m_draw_120 : decode b_m_draw 120 = .ok (.idiv, 1) := by decide +kernel
theorem d_m_draw_121 : decode b_m_draw 121 = .ok (.iaload, 1) := by decide +kernel
theorem d_m_draw_122 : decode b_m_draw 122 = .ok (.bipush 7, 2) := by decide +kernel
theorem d_m_draw_124 : decode b_m_draw 124 = .ok (.iload 4, 2) := by decide +kernel
theorem d_m_draw_126 : decode b_m_draw 126 = .ok (.bipush 8, 2) := by decide +kernel
theorem d_m_draw_128 : decode b_m_draw 128 = .ok (.irem, 1) := by decide +kernel
theorem d_m_draw_129 : decode b_m_draw 129 = .ok (.isub, 1) := by decide +kernel
theorem d_m_draw_130 : decode b_m_draw 130 = .ok (.ishr, 1) := by decide +kernel
theorem d_m_draw_131 : decode b_m_draw 131 = .ok (.iconst 1, 1) := by decide +kernel
theorem d_m_draw_132 : decode b_m_draw 132 = .ok (.iand, 1) := by decide +kernel
theorem d_m_draw_133 : decode b_m_draw 133 = .ok (.istore 6, 2) := by decide +kernel
theorem d_m_draw_135 : decode b_m_draw 135 = .ok (.aload_n 0, 1) := by decide +kernel
theorem d_m_draw_136 : decode b_m_draw 136 = .ok (.getfield 16, 3) := by decide +kernel
theorem d_m_draw_139 : decode b_m_draw 139 = .ok (.iload 5, 2) := by decide +kernel
theorem d_m_draw_141 : decode b_m_draw 141 = .ok (.iload_n 2, 1) := by decide +kernel
theorem d_m_draw_142 : decode b_m_draw 142 = .ok (.iload 5, 2) := by decide +kernel
theorem d_m_draw_144 : decode b_m_draw 144 = .ok (.bipush 21, 2) := by decide +kernel
theorem d_m_draw_146 : decode b_m_draw 146 = .ok (.idiv, 1) := by decide +kernel
theorem d_m_draw_147 : decode b_m_draw 147 = .ok (.iload 5, 2) := by decide +kernel
theorem d_m_draw_149 : decode b_m_draw 149 = .ok (.bipush 21, 2) := by decide +kernel
theorem d_m_draw_151 : decode b_m_draw 151 = .ok (.irem, 1) := by decide +kernel
theorem d_m_draw_152 : decode b_m_draw 152 = .ok (.invokestatic 99, 3) := by decide +kernel
theorem d_m_draw_155 : decode b_m_draw 155 = .ok (.ifCond .eq 10, 3) := by decide +kernel
theorem d_m_draw_158 : decode b_m_draw 158 = .ok (.iconst 1, 1) := by decide +kernel
theorem d_m_draw_159 : decode b_m_draw 159 = .ok (.iload 6, 2) := by decide +kernel
theorem d_m_draw_161 : decode b_m_draw 161 = .ok (.isub, 1) := by decide +kernel
theorem d_m_draw_162 : decode b_m_draw 162 = .ok (.goto 5, 3) := by decide +kernel
theorem d_m_draw_165 : decode b_m_draw 165 = .ok (.iload 6, 2) := by decide +kernel
theorem d_m_draw_167 : decode b_m_draw 167 = .ok (.iastore, 1) := by decide +kernel
theorem d_m_draw_168 : decode b_m_draw 168 = .ok (.iinc 4 1, 3) := by decide +kernel
theorem d_m_draw_171 : decode b_m_draw 171 = .ok (.goto (-76), 3) := by decide +kernel
theorem d_m_draw_174 : decode b_m_draw 174 = .ok (.return_, 1) := by decide +kernel
end
section
variable {p : Program} {l : Launch} {e : Env} {R : Room} {s : State} {m : MethodId} {args : Array Value} {below : List Frame} {meth : Method} {c : Code} {cells slots : Nat} {Q : State → Prop} {A : Nat → Prop} {H0 : Heap} {D : va_G}
set_option maxHeartbeats 1000000 in
set_option maxRecDepth 100000 in
theorem lp_m_draw_95 (cI cC : ClassId) (h i0 i1 a2 a3 a4 a5 a6 a7 a8 i9 a10 a11 a12 a13 a14 a15 i16 i17 a18 i19 a20 a21 i22 a23 : Nat) (dr so fo da bt : Nat → Nat) (lv mk : Nat) (hlv : lv < 4) (hmk : mk < 8) (hbt : ∀ j, j < 26 → bt j < 256) (hso : ∀ j, j < 441 → so j ≤ 2) (hfo : ∀ j, j < 30 → fo j < 441) (hda : ∀ j, j < 208 → da j < 441) (S : CallFix p m c b_m_draw 7 s args (cd_m_draw :: WS) R_Model) (hRf : 2 ≤ R.frames) (hRl : 45 ≤ R.locals) (hRc : cells ≤ R.cells ∧ slots ≤ R.slots) (hK : va_K D classes [(cI, .int), (cC, .char)] s) (hA : ∀ q, H0.size ≤ q → A q) (kx : ∀ (ls : Array Slot) (H : Heap) (locs : List Loc), lv_has ls 7 [(0, .ref h), (1, .int (nI lv)), (2, .int (nI mk)), (3, .int (nI (fmN lv mk))), (4, .int (nI 208))] → va_P D classes [(h, .inr (8, [.int (nI i0), .int (nI i1), .ref a2, .ref a3, .ref a4, .ref a5, .ref a6, .ref a7, .ref a8, .int (nI i9), .ref a10, .ref a11, .ref a12, .ref a13, .ref a14, .ref a15, .int (nI i16), .int (nI i17), .ref a18, .int (nI i19), .ref a20, .ref a21, .int (nI i22), .ref a23])), (a4, .inl (cI, 441, .inl (fun j => nI ((dwC (dwB (dwA dr so 441) fo (fmN lv mk) 30) da bt mk 208) j)))), (a5, .inl (cI, 441, .inl (fun j => nI (so j)))), (a6, .inl (cI, 30, .inl (fun j => nI (fo j)))), (a7, .inl (cI, 208, .inl (fun j => nI (da j)))), (a10, .inl (cI, 26, .inl (fun j => nI (bt j))))] H → va_D A [(h, .inr (8, [.int (nI i0), .int (nI i1), .ref a2, .ref a3, .ref a4, .ref a5, .ref a6, .ref a7, .ref a8, .int (nI i9), .ref a10, .ref a11, .ref a12, .ref a13, .ref a14, .ref a15, .int (nI i16), .int (nI i17), .ref a18, .int (nI i19), .ref a20, .ref a21, .int (nI i22), .ref a23])), (a4, .inl (cI, 441, .inl (fun j => nI ((dwC (dwB (dwA dr so 441) fo (fmN lv mk) 30) da bt mk 208) j)))), (a5, .inl (cI, 441, .inl (fun j => nI (so j)))), (a6, .inl (cI, 30, .inl (fun j => nI (fo j)))), (a7, .inl (cI, 208, .inl (fun j => nI (da j)))), (a10, .inl (cI, 26, .inl (fun j => nI (bt j))))] → va_S A H0 H locs → W p l e R s m args below meth c H locs cells slots Q (F0 m 174 ls [])) :
    ∀ k, k ≤ 208 → ∀ (ls : Array Slot) (H : Heap) (locs : List Loc), lv_has ls 7 [(0, .ref h), (1, .int (nI lv)), (2, .int (nI mk)), (3, .int (nI (fmN lv mk))), (4, .int (nI k))] → va_P D classes [(h, .inr (8, [.int (nI i0), .int (nI i1), .ref a2, .ref a3, .ref a4, .ref a5, .ref a6, .ref a7, .ref a8, .int (nI i9), .ref a10, .ref a11, .ref a12, .ref a13, .ref a14, .ref a15, .int (nI i16), .int (nI i17), .ref a18, .int (nI i19), .ref a20, .ref a21, .int (nI i22), .ref a23])), (a4, .inl (cI, 441, .inl (fun j => nI ((dwC (dwB (dwA dr so 441) fo (fmN lv mk) 30) da bt mk k) j)))), (a5, .inl (cI, 441, .inl (fun j => nI (so j)))), (a6, .inl (cI, 30, .inl (fun j => nI (fo j)))), (a7, .inl (cI, 208, .inl (fun j => nI (da j)))), (a10, .inl (cI, 26, .inl (fun j => nI (bt j))))] H → va_D A [(h, .inr (8, [.int (nI i0), .int (nI i1), .ref a2, .ref a3, .ref a4, .ref a5, .ref a6, .ref a7, .ref a8, .int (nI i9), .ref a10, .ref a11, .ref a12, .ref a13, .ref a14, .ref a15, .int (nI i16), .int (nI i17), .ref a18, .int (nI i19), .ref a20, .ref a21, .int (nI i22), .ref a23])), (a4, .inl (cI, 441, .inl (fun j => nI ((dwC (dwB (dwA dr so 441) fo (fmN lv mk) 30) da bt mk k) j)))), (a5, .inl (cI, 441, .inl (fun j => nI (so j)))), (a6, .inl (cI, 30, .inl (fun j => nI (fo j)))), (a7, .inl (cI, 208, .inl (fun j => nI (da j)))), (a10, .inl (cI, 26, .inl (fun j => nI (bt j))))] → va_S A H0 H locs → W p l e R s m args below meth c H locs cells slots Q (F0 m 95 ls []) := by
  obtain ⟨hx, hb, hml, hown, hts⟩ := id S
  refine up_loop (fun k hkk ih => ?_)
  intro ls H locs hl hP hD hS
  refine lv_iload hx hb d_m_draw_95 (lv_at hl 4 rfl) ?_
  refine lv_sipush (v := nI 208) hx hb d_m_draw_97 (by decide) ?_
  refine n_icmp_ge hx hb d_m_draw_100 (tgt := 174) rfl (by omega) (by omega) (fun g100 => ?_) (fun g100 => ?_)
  · skip
    obtain rfl : k = 208 := by omega
    exact kx ls H locs (lv_sub hl [0, 1, 2, 3, 4] rfl) hP hD hS
  · skip
    have hd1 := hda k (by omega)
    have hb1 := hbt (k / 8) (by omega)
    have ht1 := tnN_le mk (da k / 21) (da k % 21)
    refine lv_aload_n hx hb d_m_draw_103 rfl (lv_at hl 0 rfl) ?_
    refine n_get (C := R_Model) (T := F_Model) (N := 24) (v := .ref a7) hx hb hts u_Model_in hown hK hP 0 rfl rfl 7 (by decide) kw_783 rfl d_m_draw_104 ?_
    refine lv_iload hx hb d_m_draw_107 (lv_at hl 4 rfl) ?_
    refine n_iald hx hb hK hP 4 0 rfl rfl (by omega) (by decide) d_m_draw_109 ?_
    refine lv_istore hx hb d_m_draw_110 hl (Nat.le_of_ble_eq_true rfl) rfl (fun ls hl => ?_)
    have hl : lv_has ls 7 [(5, .int (nI (da k))), (0, .ref h), (1, .int (nI lv)), (2, .int (nI mk)), (3, .int (nI (fmN lv mk))), (4, .int (nI k))] := hl
    refine lv_aload_n hx hb d_m_draw_112 rfl (lv_at hl 1 rfl) ?_
    refine n_get (C := R_Model) (T := F_Model) (N := 24) (v := .ref a10) hx hb hts u_Model_in hown hK hP 0 rfl rfl 10 (by decide) kw_786 rfl d_m_draw_113 ?_
    refine lv_iload hx hb d_m_draw_116 (lv_at hl 5 rfl) ?_
    refine lv_bipush (v := nI 8) hx hb d_m_draw_118 (by decide) ?_
    refine n_idiv hx hb d_m_draw_120 (by omega) (by omega) (by omega) ?_
    refine n_iald hx hb hK hP 5 0 rfl rfl (by omega) (by decide) d_m_draw_121 ?_
    refine lv_bipush (v := nI 7) hx hb d_m_draw_122 (by decide) ?_
    refine lv_iload hx hb d_m_draw_124 (lv_at hl 5 rfl) ?_
    refine lv_bipush (v := nI 8) hx hb d_m_draw_126 (by decide) ?_
    refine n_irem hx hb d_m_draw_128 (by omega) (by omega) (by omega) ?_
    refine n_isub hx hb d_m_draw_129 (by omega) ?_
    refine n_ishr hx hb d_m_draw_130 (by omega) (by omega) ?_
    refine lv_iconst (v := nI 1) hx hb d_m_draw_131 (by decide) ?_
    refine n_and1 hx hb d_m_draw_132 ?_
    refine lv_istore hx hb d_m_draw_133 hl (Nat.le_of_ble_eq_true rfl) rfl (fun ls hl => ?_)
    have hl : lv_has ls 7 [(6, .int (nI (((bt (k / 8)) / 2 ^ (7 - (k % 8))) % 2))), (5, .int (nI (da k))), (0, .ref h), (1, .int (nI lv)), (2, .int (nI mk)), (3, .int (nI (fmN lv mk))), (4, .int (nI k))] := hl
    refine lv_aload_n hx hb d_m_draw_135 rfl (lv_at hl 2 rfl) ?_
    refine n_get (C := R_Model) (T := F_Model) (N := 24) (v := .ref a4) hx hb hts u_Model_in hown hK hP 0 rfl rfl 4 (by decide) kw_780 rfl d_m_draw_136 ?_
    refine lv_iload hx hb d_m_draw_139 (lv_at hl 1 rfl) ?_
    refine lv_iload_n hx hb d_m_draw_141 rfl (lv_at hl 4 rfl) ?_
    refine lv_iload hx hb d_m_draw_142 (lv_at hl 1 rfl) ?_
    refine lv_bipush (v := nI 21) hx hb d_m_draw_144 (by decide) ?_
    refine n_idiv hx hb d_m_draw_146 (by omega) (by omega) (by omega) ?_
    refine lv_iload hx hb d_m_draw_147 (lv_at hl 1 rfl) ?_
    refine lv_bipush (v := nI 21) hx hb d_m_draw_149 (by decide) ?_
    refine n_irem hx hb d_m_draw_151 (by omega) (by omega) (by omega) ?_
    refine q_pureS (n := 3) (As := [.int (nI mk), .int (nI ((da k) / 21)), .int (nI ((da k) % 21))]) (rest := [.int (nI (da k)), .ref a4]) S (c_m_turns l mk ((da k) / 21) ((da k) % 21) (by omega) (by omega) (by omega)) (q_goodS kw_903 kw_904 kw_10 kw_905) (by decide +kernel) rfl rfl ⟨Nat.le_trans (Nat.le_of_ble_eq_true rfl) hRf, Nat.le_trans (Nat.le_of_ble_eq_true rfl) hRl⟩ rfl hl.1 rfl (Nat.le_of_ble_eq_true rfl) d_m_draw_152 hRc hS (fun H locs hkp hS => ?_)
    replace hP := hP.kept (fun k q hq => hkp q.1 (hP k q hq).lt)
    refine n_if_eq hx hb d_m_draw_155 (tgt := 165) rfl (by omega) (fun g155 => ?_) (fun g155 => ?_)
    · skip
      refine lv_iload hx hb d_m_draw_165 (lv_at hl 0 rfl) ?_
      refine n_iast hx hb hK hP hD hS 1 0 rfl rfl (by omega) (by decide) d_m_draw_167 (fun H locs hP hD hS => ?_)
      have hP : va_P D classes [(h, .inr (8, [.int (nI i0), .int (nI i1), .ref a2, .ref a3, .ref a4, .ref a5, .ref a6, .ref a7, .ref a8, .int (nI i9), .ref a10, .ref a11, .ref a12, .ref a13, .ref a14, .ref a15, .int (nI i16), .int (nI i17), .ref a18, .int (nI i19), .ref a20, .ref a21, .int (nI i22), .ref a23])), (a4, .inl (cI, 441, .inl (fun j => nI ((va_up (dwC (dwB (dwA dr so 441) fo (fmN lv mk) 30) da bt mk k) (da k) (((bt (k / 8)) / 2 ^ (7 - (k % 8))) % 2)) j)))), (a5, .inl (cI, 441, .inl (fun j => nI (so j)))), (a6, .inl (cI, 30, .inl (fun j => nI (fo j)))), (a7, .inl (cI, 208, .inl (fun j => nI (da j)))), (a10, .inl (cI, 26, .inl (fun j => nI (bt j))))] H := hP
      have hD : va_D A [(h, .inr (8, [.int (nI i0), .int (nI i1), .ref a2, .ref a3, .ref a4, .ref a5, .ref a6, .ref a7, .ref a8, .int (nI i9), .ref a10, .ref a11, .ref a12, .ref a13, .ref a14, .ref a15, .int (nI i16), .int (nI i17), .ref a18, .int (nI i19), .ref a20, .ref a21, .int (nI i22), .ref a23])), (a4, .inl (cI, 441, .inl (fun j => nI ((va_up (dwC (dwB (dwA dr so 441) fo (fmN lv mk) 30) da bt mk k) (da k) (((bt (k / 8)) / 2 ^ (7 - (k % 8))) % 2)) j)))), (a5, .inl (cI, 441, .inl (fun j => nI (so j)))), (a6, .inl (cI, 30, .inl (fun j => nI (fo j)))), (a7, .inl (cI, 208, .inl (fun j => nI (da j)))), (a10, .inl (cI, 26, .inl (fun j => nI (bt j))))] := hD
      rw [show va_up (dwC (dwB (dwA dr so 441) fo (fmN lv mk) 30) da bt mk k) (da k) (((bt (k / 8)) / 2 ^ (7 - (k % 8))) % 2) = dwC (dwB (dwA dr so 441) fo (fmN lv mk) 30) da bt mk (k + 1) from (by first | exact (dwC_t g155).symm | exact (dwC_f g155).symm)] at hP hD
      refine lv_iinc (k := 6) (v := nI (k + 1)) hx hb d_m_draw_168 hl rfl (nx_inc k 1) (Nat.le_of_ble_eq_true rfl) rfl (fun ls hl => ?_)
      have hl : lv_has ls 7 [(4, .int (nI (k + 1))), (6, .int (nI (((bt (k / 8)) / 2 ^ (7 - (k % 8))) % 2))), (5, .int (nI (da k))), (0, .ref h), (1, .int (nI lv)), (2, .int (nI mk)), (3, .int (nI (fmN lv mk)))] := hl
      refine lv_goto hx hb d_m_draw_171 (tgt := 95) rfl ?_
      exact ih (by omega) ls H locs (lv_sub hl [3, 4, 5, 6, 0] rfl) hP hD hS
    · skip
      refine lv_iconst (v := nI 1) hx hb d_m_draw_158 (by decide) ?_
      refine lv_iload hx hb d_m_draw_159 (lv_at hl 0 rfl) ?_
      refine n_isub hx hb d_m_draw_161 (by omega) ?_
      refine lv_goto hx hb d_m_draw_162 (tgt := 167) rfl ?_
      refine n_iast hx hb hK hP hD hS 1 0 rfl rfl (by omega) (by decide) d_m_draw_167 (fun H locs hP hD hS => ?_)
      have hP : va_P D classes [(h, .inr (8, [.int (nI i0), .int (nI i1), .ref a2, .ref a3, .ref a4, .ref a5, .ref a6, .ref a7, .ref a8, .int (nI i9), .ref a10, .ref a11, .ref a12, .ref a13, .ref a14, .ref a15, .int (nI i16), .int (nI i17), .ref a18, .int (nI i19), .ref a20, .ref a21, .int (nI i22), .ref a23])), (a4, .inl (cI, 441, .inl (fun j => nI ((va_up (dwC (dwB (dwA dr so 441) fo (fmN lv mk) 30) da bt mk k) (da k) (1 - (((bt (k / 8)) / 2 ^ (7 - (k % 8))) % 2))) j)))), (a5, .inl (cI, 441, .inl (fun j => nI (so j)))), (a6, .inl (cI, 30, .inl (fun j => nI (fo j)))), (a7, .inl (cI, 208, .inl (fun j => nI (da j)))), (a10, .inl (cI, 26, .inl (fun j => nI (bt j))))] H := hP
      have hD : va_D A [(h, .inr (8, [.int (nI i0), .int (nI i1), .ref a2, .ref a3, .ref a4, .ref a5, .ref a6, .ref a7, .ref a8, .int (nI i9), .ref a10, .ref a11, .ref a12, .ref a13, .ref a14, .ref a15, .int (nI i16), .int (nI i17), .ref a18, .int (nI i19), .ref a20, .ref a21, .int (nI i22), .ref a23])), (a4, .inl (cI, 441, .inl (fun j => nI ((va_up (dwC (dwB (dwA dr so 441) fo (fmN lv mk) 30) da bt mk k) (da k) (1 - (((bt (k / 8)) / 2 ^ (7 - (k % 8))) % 2))) j)))), (a5, .inl (cI, 441, .inl (fun j => nI (so j)))), (a6, .inl (cI, 30, .inl (fun j => nI (fo j)))), (a7, .inl (cI, 208, .inl (fun j => nI (da j)))), (a10, .inl (cI, 26, .inl (fun j => nI (bt j))))] := hD
      rw [show va_up (dwC (dwB (dwA dr so 441) fo (fmN lv mk) 30) da bt mk k) (da k) (1 - (((bt (k / 8)) / 2 ^ (7 - (k % 8))) % 2)) = dwC (dwB (dwA dr so 441) fo (fmN lv mk) 30) da bt mk (k + 1) from (by first | exact (dwC_t g155).symm | exact (dwC_f g155).symm)] at hP hD
      refine lv_iinc (k := 6) (v := nI (k + 1)) hx hb d_m_draw_168 hl rfl (nx_inc k 1) (Nat.le_of_ble_eq_true rfl) rfl (fun ls hl => ?_)
      have hl : lv_has ls 7 [(4, .int (nI (k + 1))), (6, .int (nI (((bt (k / 8)) / 2 ^ (7 - (k % 8))) % 2))), (5, .int (nI (da k))), (0, .ref h), (1, .int (nI lv)), (2, .int (nI mk)), (3, .int (nI (fmN lv mk)))] := hl
      refine lv_goto hx hb d_m_draw_171 (tgt := 95) rfl ?_
      exact ih (by omega) ls H locs (lv_sub hl [3, 4, 5, 6, 0] rfl) hP hD hS
set_option maxHeartbeats 1000000 in
set_option maxRecDepth 100000 in
theorem lp_m_draw_55 (cI cC : ClassId) (h i0 i1 a2 a3 a4 a5 a6 a7 a8 i9 a10 a11 a12 a13 a14 a15 i16 i17 a18 i19 a20 a21 i22 a23 : Nat) (dr so fo da bt : Nat → Nat) (lv mk : Nat) (hlv : lv < 4) (hmk : mk < 8) (hbt : ∀ j, j < 26 → bt j < 256) (hso : ∀ j, j < 441 → so j ≤ 2) (hfo : ∀ j, j < 30 → fo j < 441) (hda : ∀ j, j < 208 → da j < 441) (S : CallFix p m c b_m_draw 7 s args (cd_m_draw :: WS) R_Model) (hRf : 2 ≤ R.frames) (hRl : 45 ≤ R.locals) (hRc : cells ≤ R.cells ∧ slots ≤ R.slots) (hK : va_K D classes [(cI, .int), (cC, .char)] s) (hA : ∀ q, H0.size ≤ q → A q) (kx : ∀ (ls : Array Slot) (H : Heap) (locs : List Loc), lv_has ls 7 [(0, .ref h), (1, .int (nI lv)), (2, .int (nI mk)), (3, .int (nI (fmN lv mk))), (4, .int (nI 30))] → va_P D classes [(h, .inr (8, [.int (nI i0), .int (nI i1), .ref a2, .ref a3, .ref a4, .ref a5, .ref a6, .ref a7, .ref a8, .int (nI i9), .ref a10, .ref a11, .ref a12, .ref a13, .ref a14, .ref a15, .int (nI i16), .int (nI i17), .ref a18, .int (nI i19), .ref a20, .ref a21, .int (nI i22), .ref a23])), (a4, .inl (cI, 441, .inl (fun j => nI ((dwB (dwA dr so 441) fo (fmN lv mk) 30) j)))), (a5, .inl (cI, 441, .inl (fun j => nI (so j)))), (a6, .inl (cI, 30, .inl (fun j => nI (fo j)))), (a7, .inl (cI, 208, .inl (fun j => nI (da j)))), (a10, .inl (cI, 26, .inl (fun j => nI (bt j))))] H → va_D A [(h, .inr (8, [.int (nI i0), .int (nI i1), .ref a2, .ref a3, .ref a4, .ref a5, .ref a6, .ref a7, .ref a8, .int (nI i9), .ref a10, .ref a11, .ref a12, .ref a13, .ref a14, .ref a15, .int (nI i16), .int (nI i17), .ref a18, .int (nI i19), .ref a20, .ref a21, .int (nI i22), .ref a23])), (a4, .inl (cI, 441, .inl (fun j => nI ((dwB (dwA dr so 441) fo (fmN lv mk) 30) j)))), (a5, .inl (cI, 441, .inl (fun j => nI (so j)))), (a6, .inl (cI, 30, .inl (fun j => nI (fo j)))), (a7, .inl (cI, 208, .inl (fun j => nI (da j)))), (a10, .inl (cI, 26, .inl (fun j => nI (bt j))))] → va_S A H0 H locs → W p l e R s m args below meth c H locs cells slots Q (F0 m 92 ls [])) :
    ∀ k, k ≤ 30 → ∀ (ls : Array Slot) (H : Heap) (locs : List Loc), lv_has ls 7 [(0, .ref h), (1, .int (nI lv)), (2, .int (nI mk)), (3, .int (nI (fmN lv mk))), (4, .int (nI k))] → va_P D classes [(h, .inr (8, [.int (nI i0), .int (nI i1), .ref a2, .ref a3, .ref a4, .ref a5, .ref a6, .ref a7, .ref a8, .int (nI i9), .ref a10, .ref a11, .ref a12, .ref a13, .ref a14, .ref a15, .int (nI i16), .int (nI i17), .ref a18, .int (nI i19), .ref a20, .ref a21, .int (nI i22), .ref a23])), (a4, .inl (cI, 441, .inl (fun j => nI ((dwB (dwA dr so 441) fo (fmN lv mk) k) j)))), (a5, .inl (cI, 441, .inl (fun j => nI (so j)))), (a6, .inl (cI, 30, .inl (fun j => nI (fo j)))), (a7, .inl (cI, 208, .inl (fun j => nI (da j)))), (a10, .inl (cI, 26, .inl (fun j => nI (bt j))))] H → va_D A [(h, .inr (8, [.int (nI i0), .int (nI i1), .ref a2, .ref a3, .ref a4, .ref a5, .ref a6, .ref a7, .ref a8, .int (nI i9), .ref a10, .ref a11, .ref a12, .ref a13, .ref a14, .ref a15, .int (nI i16), .int (nI i17), .ref a18, .int (nI i19), .ref a20, .ref a21, .int (nI i22), .ref a23])), (a4, .inl (cI, 441, .inl (fun j => nI ((dwB (dwA dr so 441) fo (fmN lv mk) k) j)))), (a5, .inl (cI, 441, .inl (fun j => nI (so j)))), (a6, .inl (cI, 30, .inl (fun j => nI (fo j)))), (a7, .inl (cI, 208, .inl (fun j => nI (da j)))), (a10, .inl (cI, 26, .inl (fun j => nI (bt j))))] → va_S A H0 H locs → W p l e R s m args below meth c H locs cells slots Q (F0 m 55 ls []) := by
  obtain ⟨hx, hb, hml, hown, hts⟩ := id S
  refine up_loop (fun k hkk ih => ?_)
  intro ls H locs hl hP hD hS
  have hfm := fmN_lt hlv hmk
  refine lv_iload hx hb d_m_draw_55 (lv_at hl 4 rfl) ?_
  refine lv_bipush (v := nI 30) hx hb d_m_draw_57 (by decide) ?_
  refine n_icmp_ge hx hb d_m_draw_59 (tgt := 92) rfl (by omega) (by omega) (fun g59 => ?_) (fun g59 => ?_)
  · skip
    obtain rfl : k = 30 := by omega
    exact kx ls H locs (lv_sub hl [0, 1, 2, 3, 4] rfl) hP hD hS
  · skip
    have hf1 := hfo k (by omega)
    refine lv_aload_n hx hb d_m_draw_62 rfl (lv_at hl 0 rfl) ?_
    refine n_get (C := R_Model) (T := F_Model) (N := 24) (v := .ref a4) hx hb hts u_Model_in hown hK hP 0 rfl rfl 4 (by decide) kw_780 rfl d_m_draw_63 ?_
    refine lv_aload_n hx hb d_m_draw_66 rfl (lv_at hl 0 rfl) ?_
    refine n_get (C := R_Model) (T := F_Model) (N := 24) (v := .ref a6) hx hb hts u_Model_in hown hK hP 0 rfl rfl 6 (by decide) kw_782 rfl d_m_draw_67 ?_
    refine lv_iload hx hb d_m_draw_70 (lv_at hl 4 rfl) ?_
    refine n_iald hx hb hK hP 3 0 rfl rfl (by omega) (by decide) d_m_draw_72 ?_
    refine lv_iload_n hx hb d_m_draw_73 rfl (lv_at hl 3 rfl) ?_
    refine lv_bipush (v := nI 14) hx hb d_m_draw_74 (by decide) ?_
    refine lv_iload hx hb d_m_draw_76 (lv_at hl 4 rfl) ?_
    refine lv_bipush (v := nI 15) hx hb d_m_draw_78 (by decide) ?_
    refine n_irem hx hb d_m_draw_80 (by omega) (by omega) (by omega) ?_
    refine n_isub hx hb d_m_draw_81 (by omega) ?_
    refine n_ishr hx hb d_m_draw_82 (by omega) (by omega) ?_
    refine lv_iconst (v := nI 1) hx hb d_m_draw_83 (by decide) ?_
    refine n_and1 hx hb d_m_draw_84 ?_
    refine n_iast hx hb hK hP hD hS 1 0 rfl rfl (by omega) (by decide) d_m_draw_85 (fun H locs hP hD hS => ?_)
    have hP : va_P D classes [(h, .inr (8, [.int (nI i0), .int (nI i1), .ref a2, .ref a3, .ref a4, .ref a5, .ref a6, .ref a7, .ref a8, .int (nI i9), .ref a10, .ref a11, .ref a12, .ref a13, .ref a14, .ref a15, .int (nI i16), .int (nI i17), .ref a18, .int (nI i19), .ref a20, .ref a21, .int (nI i22), .ref a23])), (a4, .inl (cI, 441, .inl (fun j => nI ((va_up (dwB (dwA dr so 441) fo (fmN lv mk) k) (fo k) (((fmN lv mk) / 2 ^ (14 - (k % 15))) % 2)) j)))), (a5, .inl (cI, 441, .inl (fun j => nI (so j)))), (a6, .inl (cI, 30, .inl (fun j => nI (fo j)))), (a7, .inl (cI, 208, .inl (fun j => nI (da j)))), (a10, .inl (cI, 26, .inl (fun j => nI (bt j))))] H := hP
    have hD : va_D A [(h, .inr (8, [.int (nI i0), .int (nI i1), .ref a2, .ref a3, .ref a4, .ref a5, .ref a6, .ref a7, .ref a8, .int (nI i9), .ref a10, .ref a11, .ref a12, .ref a13, .ref a14, .ref a15, .int (nI i16), .int (nI i17), .ref a18, .int (nI i19), .ref a20, .ref a21, .int (nI i22), .ref a23])), (a4, .inl (cI, 441, .inl (fun j => nI ((va_up (dwB (dwA dr so 441) fo (fmN lv mk) k) (fo k) (((fmN lv mk) / 2 ^ (14 - (k % 15))) % 2)) j)))), (a5, .inl (cI, 441, .inl (fun j => nI (so j)))), (a6, .inl (cI, 30, .inl (fun j => nI (fo j)))), (a7, .inl (cI, 208, .inl (fun j => nI (da j)))), (a10, .inl (cI, 26, .inl (fun j => nI (bt j))))] := hD
    rw [show va_up (dwB (dwA dr so 441) fo (fmN lv mk) k) (fo k) (((fmN lv mk) / 2 ^ (14 - (k % 15))) % 2) = dwB (dwA dr so 441) fo (fmN lv mk) (k + 1) from rfl] at hP hD
    refine lv_iinc (k := 4) (v := nI (k + 1)) hx hb d_m_draw_86 hl rfl (nx_inc k 1) (Nat.le_of_ble_eq_true rfl) rfl (fun ls hl => ?_)
    have hl : lv_has ls 7 [(4, .int (nI (k + 1))), (0, .ref h), (1, .int (nI lv)), (2, .int (nI mk)), (3, .int (nI (fmN lv mk)))] := hl
    refine lv_goto hx hb d_m_draw_89 (tgt := 55) rfl ?_
    exact ih (by omega) ls H locs (lv_sub hl [1, 2, 3, 4, 0] rfl) hP hD hS
set_option maxHeartbeats 1000000 in
set_option maxRecDepth 100000 in
theorem lp_m_draw_2 (cI cC : ClassId) (h i0 i1 a2 a3 a4 a5 a6 a7 a8 i9 a10 a11 a12 a13 a14 a15 i16 i17 a18 i19 a20 a21 i22 a23 : Nat) (dr so fo da bt : Nat → Nat) (lv mk : Nat) (hlv : lv < 4) (hmk : mk < 8) (hbt : ∀ j, j < 26 → bt j < 256) (hso : ∀ j, j < 441 → so j ≤ 2) (hfo : ∀ j, j < 30 → fo j < 441) (hda : ∀ j, j < 208 → da j < 441) (S : CallFix p m c b_m_draw 7 s args (cd_m_draw :: WS) R_Model) (hRf : 2 ≤ R.frames) (hRl : 45 ≤ R.locals) (hRc : cells ≤ R.cells ∧ slots ≤ R.slots) (hK : va_K D classes [(cI, .int), (cC, .char)] s) (hA : ∀ q, H0.size ≤ q → A q) (kx : ∀ (ls : Array Slot) (H : Heap) (locs : List Loc), lv_has ls 7 [(0, .ref h), (1, .int (nI lv)), (2, .int (nI mk)), (3, .int (nI 441))] → va_P D classes [(h, .inr (8, [.int (nI i0), .int (nI i1), .ref a2, .ref a3, .ref a4, .ref a5, .ref a6, .ref a7, .ref a8, .int (nI i9), .ref a10, .ref a11, .ref a12, .ref a13, .ref a14, .ref a15, .int (nI i16), .int (nI i17), .ref a18, .int (nI i19), .ref a20, .ref a21, .int (nI i22), .ref a23])), (a4, .inl (cI, 441, .inl (fun j => nI ((dwA dr so 441) j)))), (a5, .inl (cI, 441, .inl (fun j => nI (so j)))), (a6, .inl (cI, 30, .inl (fun j => nI (fo j)))), (a7, .inl (cI, 208, .inl (fun j => nI (da j)))), (a10, .inl (cI, 26, .inl (fun j => nI (bt j))))] H → va_D A [(h, .inr (8, [.int (nI i0), .int (nI i1), .ref a2, .ref a3, .ref a4, .ref a5, .ref a6, .ref a7, .ref a8, .int (nI i9), .ref a10, .ref a11, .ref a12, .ref a13, .ref a14, .ref a15, .int (nI i16), .int (nI i17), .ref a18, .int (nI i19), .ref a20, .ref a21, .int (nI i22), .ref a23])), (a4, .inl (cI, 441, .inl (fun j => nI ((dwA dr so 441) j)))), (a5, .inl (cI, 441, .inl (fun j => nI (so j)))), (a6, .inl (cI, 30, .inl (fun j => nI (fo j)))), (a7, .inl (cI, 208, .inl (fun j => nI (da j)))), (a10, .inl (cI, 26, .inl (fun j => nI (bt j))))] → va_S A H0 H locs → W p l e R s m args below meth c H locs cells slots Q (F0 m 46 ls [])) :
    ∀ k, k ≤ 441 → ∀ (ls : Array Slot) (H : Heap) (locs : List Loc), lv_has ls 7 [(0, .ref h), (1, .int (nI lv)), (2, .int (nI mk)), (3, .int (nI k))] → va_P D classes [(h, .inr (8, [.int (nI i0), .int (nI i1), .ref a2, .ref a3, .ref a4, .ref a5, .ref a6, .ref a7, .ref a8, .int (nI i9), .ref a10, .ref a11, .ref a12, .ref a13, .ref a14, .ref a15, .int (nI i16), .int (nI i17), .ref a18, .int (nI i19), .ref a20, .ref a21, .int (nI i22), .ref a23])), (a4, .inl (cI, 441, .inl (fun j => nI ((dwA dr so k) j)))), (a5, .inl (cI, 441, .inl (fun j => nI (so j)))), (a6, .inl (cI, 30, .inl (fun j => nI (fo j)))), (a7, .inl (cI, 208, .inl (fun j => nI (da j)))), (a10, .inl (cI, 26, .inl (fun j => nI (bt j))))] H → va_D A [(h, .inr (8, [.int (nI i0), .int (nI i1), .ref a2, .ref a3, .ref a4, .ref a5, .ref a6, .ref a7, .ref a8, .int (nI i9), .ref a10, .ref a11, .ref a12, .ref a13, .ref a14, .ref a15, .int (nI i16), .int (nI i17), .ref a18, .int (nI i19), .ref a20, .ref a21, .int (nI i22), .ref a23])), (a4, .inl (cI, 441, .inl (fun j => nI ((dwA dr so k) j)))), (a5, .inl (cI, 441, .inl (fun j => nI (so j)))), (a6, .inl (cI, 30, .inl (fun j => nI (fo j)))), (a7, .inl (cI, 208, .inl (fun j => nI (da j)))), (a10, .inl (cI, 26, .inl (fun j => nI (bt j))))] → va_S A H0 H locs → W p l e R s m args below meth c H locs cells slots Q (F0 m 2 ls []) := by
  obtain ⟨hx, hb, hml, hown, hts⟩ := id S
  refine up_loop (fun k hkk ih => ?_)
  intro ls H locs hl hP hD hS
  refine lv_iload_n hx hb d_m_draw_2 rfl (lv_at hl 3 rfl) ?_
  refine lv_sipush (v := nI 441) hx hb d_m_draw_3 (by decide) ?_
  refine n_icmp_ge hx hb d_m_draw_6 (tgt := 46) rfl (by omega) (by omega) (fun g6 => ?_) (fun g6 => ?_)
  · skip
    obtain rfl : k = 441 := by omega
    exact kx ls H locs (lv_sub hl [0, 1, 2, 3] rfl) hP hD hS
  · skip
    have hs1 := hso k (by omega)
    refine lv_aload_n hx hb d_m_draw_9 rfl (lv_at hl 0 rfl) ?_
    refine n_get (C := R_Model) (T := F_Model) (N := 24) (v := .ref a4) hx hb hts u_Model_in hown hK hP 0 rfl rfl 4 (by decide) kw_780 rfl d_m_draw_10 ?_
    refine lv_iload_n hx hb d_m_draw_13 rfl (lv_at hl 3 rfl) ?_
    refine lv_aload_n hx hb d_m_draw_14 rfl (lv_at hl 0 rfl) ?_
    refine n_get (C := R_Model) (T := F_Model) (N := 24) (v := .ref a5) hx hb hts u_Model_in hown hK hP 0 rfl rfl 5 (by decide) kw_781 rfl d_m_draw_15 ?_
    refine lv_iload_n hx hb d_m_draw_18 rfl (lv_at hl 3 rfl) ?_
    refine n_iald hx hb hK hP 2 0 rfl rfl (by omega) (by decide) d_m_draw_19 ?_
    refine lv_iconst (v := nI 1) hx hb d_m_draw_20 (by decide) ?_
    refine n_icmp_ne hx hb d_m_draw_21 (tgt := 38) rfl (by omega) (by omega) (fun g21 => ?_) (fun g21 => ?_)
    · skip
      refine lv_iconst (v := nI 0) hx hb d_m_draw_38 (by decide) ?_
      refine n_iast hx hb hK hP hD hS 1 0 rfl rfl (by omega) (by decide) d_m_draw_39 (fun H locs hP hD hS => ?_)
      have hP : va_P D classes [(h, .inr (8, [.int (nI i0), .int (nI i1), .ref a2, .ref a3, .ref a4, .ref a5, .ref a6, .ref a7, .ref a8, .int (nI i9), .ref a10, .ref a11, .ref a12, .ref a13, .ref a14, .ref a15, .int (nI i16), .int (nI i17), .ref a18, .int (nI i19), .ref a20, .ref a21, .int (nI i22), .ref a23])), (a4, .inl (cI, 441, .inl (fun j => nI ((va_up (dwA dr so k) k 0) j)))), (a5, .inl (cI, 441, .inl (fun j => nI (so j)))), (a6, .inl (cI, 30, .inl (fun j => nI (fo j)))), (a7, .inl (cI, 208, .inl (fun j => nI (da j)))), (a10, .inl (cI, 26, .inl (fun j => nI (bt j))))] H := hP
      have hD : va_D A [(h, .inr (8, [.int (nI i0), .int (nI i1), .ref a2, .ref a3, .ref a4, .ref a5, .ref a6, .ref a7, .ref a8, .int (nI i9), .ref a10, .ref a11, .ref a12, .ref a13, .ref a14, .ref a15, .int (nI i16), .int (nI i17), .ref a18, .int (nI i19), .ref a20, .ref a21, .int (nI i22), .ref a23])), (a4, .inl (cI, 441, .inl (fun j => nI ((va_up (dwA dr so k) k 0) j)))), (a5, .inl (cI, 441, .inl (fun j => nI (so j)))), (a6, .inl (cI, 30, .inl (fun j => nI (fo j)))), (a7, .inl (cI, 208, .inl (fun j => nI (da j)))), (a10, .inl (cI, 26, .inl (fun j => nI (bt j))))] := hD
      rw [show va_up (dwA dr so k) k 0 = dwA dr so (k + 1) from (by first | exact (dwA_t g21).symm | exact (dwA_f g21).symm)] at hP hD
      refine lv_iinc (k := 3) (v := nI (k + 1)) hx hb d_m_draw_40 hl rfl (nx_inc k 1) (Nat.le_of_ble_eq_true rfl) rfl (fun ls hl => ?_)
      have hl : lv_has ls 7 [(3, .int (nI (k + 1))), (0, .ref h), (1, .int (nI lv)), (2, .int (nI mk))] := hl
      refine lv_goto hx hb d_m_draw_43 (tgt := 2) rfl ?_
      exact ih (by omega) ls H locs (lv_sub hl [1, 2, 3, 0] rfl) hP hD hS
    · skip
      refine lv_iload_n hx hb d_m_draw_24 rfl (lv_at hl 3 rfl) ?_
      refine lv_bipush (v := nI 21) hx hb d_m_draw_25 (by decide) ?_
      refine n_idiv hx hb d_m_draw_27 (by omega) (by omega) (by omega) ?_
      refine lv_iload_n hx hb d_m_draw_28 rfl (lv_at hl 3 rfl) ?_
      refine lv_bipush (v := nI 21) hx hb d_m_draw_29 (by decide) ?_
      refine n_irem hx hb d_m_draw_31 (by omega) (by omega) (by omega) ?_
      refine q_pureS (n := 2) (As := [.int (nI (k / 21)), .int (nI (k % 21))]) (rest := [.int (nI k), .ref a4]) S (c_m_fixedAt l (k / 21) (k % 21) (by omega) (by omega)) (q_goodS kw_897 kw_898 kw_10 kw_899) (by decide +kernel) rfl rfl ⟨Nat.le_trans (Nat.le_of_ble_eq_true rfl) hRf, Nat.le_trans (Nat.le_of_ble_eq_true rfl) hRl⟩ rfl hl.1 rfl (Nat.le_of_ble_eq_true rfl) d_m_draw_32 hRc hS (fun H locs hkp hS => ?_)
      replace hP := hP.kept (fun k q hq => hkp q.1 (hP k q hq).lt)
      refine lv_goto hx hb d_m_draw_35 (tgt := 39) rfl ?_
      refine n_iast hx hb hK hP hD hS 1 0 rfl rfl (by omega) (by decide) d_m_draw_39 (fun H locs hP hD hS => ?_)
      have hP : va_P D classes [(h, .inr (8, [.int (nI i0), .int (nI i1), .ref a2, .ref a3, .ref a4, .ref a5, .ref a6, .ref a7, .ref a8, .int (nI i9), .ref a10, .ref a11, .ref a12, .ref a13, .ref a14, .ref a15, .int (nI i16), .int (nI i17), .ref a18, .int (nI i19), .ref a20, .ref a21, .int (nI i22), .ref a23])), (a4, .inl (cI, 441, .inl (fun j => nI ((va_up (dwA dr so k) k (fxA (k / 21) (k % 21))) j)))), (a5, .inl (cI, 441, .inl (fun j => nI (so j)))), (a6, .inl (cI, 30, .inl (fun j => nI (fo j)))), (a7, .inl (cI, 208, .inl (fun j => nI (da j)))), (a10, .inl (cI, 26, .inl (fun j => nI (bt j))))] H := hP
      have hD : va_D A [(h, .inr (8, [.int (nI i0), .int (nI i1), .ref a2, .ref a3, .ref a4, .ref a5, .ref a6, .ref a7, .ref a8, .int (nI i9), .ref a10, .ref a11, .ref a12, .ref a13, .ref a14, .ref a15, .int (nI i16), .int (nI i17), .ref a18, .int (nI i19), .ref a20, .ref a21, .int (nI i22), .ref a23])), (a4, .inl (cI, 441, .inl (fun j => nI ((va_up (dwA dr so k) k (fxA (k / 21) (k % 21))) j)))), (a5, .inl (cI, 441, .inl (fun j => nI (so j)))), (a6, .inl (cI, 30, .inl (fun j => nI (fo j)))), (a7, .inl (cI, 208, .inl (fun j => nI (da j)))), (a10, .inl (cI, 26, .inl (fun j => nI (bt j))))] := hD
      rw [show va_up (dwA dr so k) k (fxA (k / 21) (k % 21)) = dwA dr so (k + 1) from (by first | exact (dwA_t g21).symm | exact (dwA_f g21).symm)] at hP hD
      refine lv_iinc (k := 3) (v := nI (k + 1)) hx hb d_m_draw_40 hl rfl (nx_inc k 1) (Nat.le_of_ble_eq_true rfl) rfl (fun ls hl => ?_)
      have hl : lv_has ls 7 [(3, .int (nI (k + 1))), (0, .ref h), (1, .int (nI lv)), (2, .int (nI mk))] := hl
      refine lv_goto hx hb d_m_draw_43 (tgt := 2) rfl ?_
      exact ih (by omega) ls H locs (lv_sub hl [1, 2, 3, 0] rfl) hP hD hS
set_option maxHeartbeats 1000000 in
set_option maxRecDepth 100000 in
theorem bd_m_draw (cI cC : ClassId) (h i0 i1 a2 a3 a4 a5 a6 a7 a8 i9 a10 a11 a12 a13 a14 a15 i16 i17 a18 i19 a20 a21 i22 a23 : Nat) (dr so fo da bt : Nat → Nat) (lv mk : Nat) (hlv : lv < 4) (hmk : mk < 8) (hbt : ∀ j, j < 26 → bt j < 256) (hso : ∀ j, j < 441 → so j ≤ 2) (hfo : ∀ j, j < 30 → fo j < 441) (hda : ∀ j, j < 208 → da j < 441) (S : CallFix p m c b_m_draw 7 s args (cd_m_draw :: WS) R_Model) (hRf : 2 ≤ R.frames) (hRl : 45 ≤ R.locals) (hRc : cells ≤ R.cells ∧ slots ≤ R.slots) (hK : va_K D classes [(cI, .int), (cC, .char)] s) (hA : ∀ q, H0.size ≤ q → A q) (kr : ∀ (pc : Nat) (ls : Array Slot) (H : Heap) (locs : List Loc), decode b_m_draw pc = .ok (.return_, 1) → va_P D classes [(h, .inr (8, [.int (nI i0), .int (nI i1), .ref a2, .ref a3, .ref a4, .ref a5, .ref a6, .ref a7, .ref a8, .int (nI i9), .ref a10, .ref a11, .ref a12, .ref a13, .ref a14, .ref a15, .int (nI i16), .int (nI i17), .ref a18, .int (nI i19), .ref a20, .ref a21, .int (nI i22), .ref a23])), (a4, .inl (cI, 441, .inl (fun j => nI ((dwC (dwB (dwA dr so 441) fo (fmN lv mk) 30) da bt mk 208) j)))), (a5, .inl (cI, 441, .inl (fun j => nI (so j)))), (a6, .inl (cI, 30, .inl (fun j => nI (fo j)))), (a7, .inl (cI, 208, .inl (fun j => nI (da j)))), (a10, .inl (cI, 26, .inl (fun j => nI (bt j))))] H → va_D A [(h, .inr (8, [.int (nI i0), .int (nI i1), .ref a2, .ref a3, .ref a4, .ref a5, .ref a6, .ref a7, .ref a8, .int (nI i9), .ref a10, .ref a11, .ref a12, .ref a13, .ref a14, .ref a15, .int (nI i16), .int (nI i17), .ref a18, .int (nI i19), .ref a20, .ref a21, .int (nI i22), .ref a23])), (a4, .inl (cI, 441, .inl (fun j => nI ((dwC (dwB (dwA dr so 441) fo (fmN lv mk) 30) da bt mk 208) j)))), (a5, .inl (cI, 441, .inl (fun j => nI (so j)))), (a6, .inl (cI, 30, .inl (fun j => nI (fo j)))), (a7, .inl (cI, 208, .inl (fun j => nI (da j)))), (a10, .inl (cI, 26, .inl (fun j => nI (bt j))))] → va_S A H0 H locs → W p l e R s m args below meth c H locs cells slots Q (F0 m pc ls [])) : ∀ (ls : Array Slot) (H : Heap) (locs : List Loc), lv_has ls 7 [(0, .ref h), (1, .int (nI lv)), (2, .int (nI mk))] → va_P D classes [(h, .inr (8, [.int (nI i0), .int (nI i1), .ref a2, .ref a3, .ref a4, .ref a5, .ref a6, .ref a7, .ref a8, .int (nI i9), .ref a10, .ref a11, .ref a12, .ref a13, .ref a14, .ref a15, .int (nI i16), .int (nI i17), .ref a18, .int (nI i19), .ref a20, .ref a21, .int (nI i22), .ref a23])), (a4, .inl (cI, 441, .inl (fun j => nI (dr j)))), (a5, .inl (cI, 441, .inl (fun j => nI (so j)))), (a6, .inl (cI, 30, .inl (fun j => nI (fo j)))), (a7, .inl (cI, 208, .inl (fun j => nI (da j)))), (a10, .inl (cI, 26, .inl (fun j => nI (bt j))))] H → va_D A [(h, .inr (8, [.int (nI i0), .int (nI i1), .ref a2, .ref a3, .ref a4, .ref a5, .ref a6, .ref a7, .ref a8, .int (nI i9), .ref a10, .ref a11, .ref a12, .ref a13, .ref a14, .ref a15, .int (nI i16), .int (nI i17), .ref a18, .int (nI i19), .ref a20, .ref a21, .int (nI i22), .ref a23])), (a4, .inl (cI, 441, .inl (fun j => nI (dr j)))), (a5, .inl (cI, 441, .inl (fun j => nI (so j)))), (a6, .inl (cI, 30, .inl (fun j => nI (fo j)))), (a7, .inl (cI, 208, .inl (fun j => nI (da j)))), (a10, .inl (cI, 26, .inl (fun j => nI (bt j))))] → va_S A H0 H locs → W p l e R s m args below meth c H locs cells slots Q (F0 m 0 ls []) := by
  obtain ⟨hx, hb, hml, hown, hts⟩ := id S
  intro ls H locs hl hP hD hS
  refine lv_iconst (v := nI 0) hx hb d_m_draw_0 (by decide) ?_
  refine lv_istore_n hx hb d_m_draw_1 rfl hl (Nat.le_of_ble_eq_true rfl) rfl (fun ls hl => ?_)
  have hl : lv_has ls 7 [(3, .int (nI 0)), (0, .ref h), (1, .int (nI lv)), (2, .int (nI mk))] := hl
  refine lp_m_draw_2 cI cC h i0 i1 a2 a3 a4 a5 a6 a7 a8 i9 a10 a11 a12 a13 a14 a15 i16 i17 a18 i19 a20 a21 i22 a23 dr so fo da bt lv mk hlv hmk hbt hso hfo hda S hRf hRl hRc hK hA  (fun ls H locs hl hP hD hS => ?_) 0 (by omega) ls H locs (lv_sub hl [1, 2, 3, 0] rfl) hP hD hS
  refine lv_iload_n hx hb d_m_draw_46 rfl (lv_at hl 1 rfl) ?_
  refine lv_iload_n hx hb d_m_draw_47 rfl (lv_at hl 2 rfl) ?_
  refine q_pureS (n := 2) (As := [.int (nI lv), .int (nI mk)]) (rest := []) S (c_m_form l lv mk (by omega) (by omega)) (q_goodS kw_900 kw_901 kw_10 kw_902) (by decide +kernel) rfl rfl ⟨Nat.le_trans (Nat.le_of_ble_eq_true rfl) hRf, Nat.le_trans (Nat.le_of_ble_eq_true rfl) hRl⟩ rfl hl.1 rfl (Nat.le_of_ble_eq_true rfl) d_m_draw_48 hRc hS (fun H locs hkp hS => ?_)
  replace hP := hP.kept (fun k q hq => hkp q.1 (hP k q hq).lt)
  refine lv_istore_n hx hb d_m_draw_51 rfl hl (Nat.le_of_ble_eq_true rfl) rfl (fun ls hl => ?_)
  have hl : lv_has ls 7 [(3, .int (nI (fmN lv mk))), (0, .ref h), (1, .int (nI lv)), (2, .int (nI mk))] := hl
  refine lv_iconst (v := nI 0) hx hb d_m_draw_52 (by decide) ?_
  refine lv_istore hx hb d_m_draw_53 hl (Nat.le_of_ble_eq_true rfl) rfl (fun ls hl => ?_)
  have hl : lv_has ls 7 [(4, .int (nI 0)), (3, .int (nI (fmN lv mk))), (0, .ref h), (1, .int (nI lv)), (2, .int (nI mk))] := hl
  refine lp_m_draw_55 cI cC h i0 i1 a2 a3 a4 a5 a6 a7 a8 i9 a10 a11 a12 a13 a14 a15 i16 i17 a18 i19 a20 a21 i22 a23 dr so fo da bt lv mk hlv hmk hbt hso hfo hda S hRf hRl hRc hK hA  (fun ls H locs hl hP hD hS => ?_) 0 (by omega) ls H locs (lv_sub hl [2, 3, 4, 1, 0] rfl) hP hD hS
  refine lv_iconst (v := nI 0) hx hb d_m_draw_92 (by decide) ?_
  refine lv_istore hx hb d_m_draw_93 hl (Nat.le_of_ble_eq_true rfl) rfl (fun ls hl => ?_)
  have hl : lv_has ls 7 [(4, .int (nI 0)), (0, .ref h), (1, .int (nI lv)), (2, .int (nI mk)), (3, .int (nI (fmN lv mk)))] := hl
  refine lp_m_draw_95 cI cC h i0 i1 a2 a3 a4 a5 a6 a7 a8 i9 a10 a11 a12 a13 a14 a15 i16 i17 a18 i19 a20 a21 i22 a23 dr so fo da bt lv mk hlv hmk hbt hso hfo hda S hRf hRl hRc hK hA  (fun ls H locs hl hP hD hS => ?_) 0 (by omega) ls H locs (lv_sub hl [1, 2, 3, 4, 0] rfl) hP hD hS
  exact kr _ ls H locs d_m_draw_174 hP hD hS
set_option maxHeartbeats 1000000 in
set_option maxRecDepth 100000 in
theorem c_m_draw (l : Launch) (D : va_G) (cI cC : ClassId) (h i0 i1 a2 a3 a4 a5 a6 a7 a8 i9 a10 a11 a12 a13 a14 a15 i16 i17 a18 i19 a20 a21 i22 a23 : Nat) (dr so fo da bt : Nat → Nat) (lv mk : Nat) (hlv : lv < 4) (hmk : mk < 8) (hbt : ∀ j, j < 26 → bt j < 256) (hso : ∀ j, j < 441 → so j ≤ 2) (hfo : ∀ j, j < 30 → fo j < 441) (hda : ∀ j, j < 208 → da j < 441) (sz : Nat) : Met l y_m_draw (cd_m_draw :: WS) { frames := 2, cells := 0, slots := 0, locals := 45 } (va_Pc [.ref h, .int (nI lv), .int (nI mk)] (wP D [(h, .inr (8, [.int (nI i0), .int (nI i1), .ref a2, .ref a3, .ref a4, .ref a5, .ref a6, .ref a7, .ref a8, .int (nI i9), .ref a10, .ref a11, .ref a12, .ref a13, .ref a14, .ref a15, .int (nI i16), .int (nI i17), .ref a18, .int (nI i19), .ref a20, .ref a21, .int (nI i22), .ref a23])), (a4, .inl (cI, 441, .inl (fun j => nI (dr j)))), (a5, .inl (cI, 441, .inl (fun j => nI (so j)))), (a6, .inl (cI, 30, .inl (fun j => nI (fo j)))), (a7, .inl (cI, 208, .inl (fun j => nI (da j)))), (a10, .inl (cI, 26, .inl (fun j => nI (bt j))))] [(cI, .int), (cC, .char)] sz)) (wQv D [(h, .inr (8, [.int (nI i0), .int (nI i1), .ref a2, .ref a3, .ref a4, .ref a5, .ref a6, .ref a7, .ref a8, .int (nI i9), .ref a10, .ref a11, .ref a12, .ref a13, .ref a14, .ref a15, .int (nI i16), .int (nI i17), .ref a18, .int (nI i19), .ref a20, .ref a21, .int (nI i22), .ref a23])), (a4, .inl (cI, 441, .inl (fun j => nI (dr j)))), (a5, .inl (cI, 441, .inl (fun j => nI (so j)))), (a6, .inl (cI, 30, .inl (fun j => nI (fo j)))), (a7, .inl (cI, 208, .inl (fun j => nI (da j)))), (a10, .inl (cI, 26, .inl (fun j => nI (bt j))))] [(h, .inr (8, [.int (nI i0), .int (nI i1), .ref a2, .ref a3, .ref a4, .ref a5, .ref a6, .ref a7, .ref a8, .int (nI i9), .ref a10, .ref a11, .ref a12, .ref a13, .ref a14, .ref a15, .int (nI i16), .int (nI i17), .ref a18, .int (nI i19), .ref a20, .ref a21, .int (nI i22), .ref a23])), (a4, .inl (cI, 441, .inl (fun j => nI ((dwC (dwB (dwA dr so 441) fo (fmN lv mk) 30) da bt mk 208) j)))), (a5, .inl (cI, 441, .inl (fun j => nI (so j)))), (a6, .inl (cI, 30, .inl (fun j => nI (fo j)))), (a7, .inl (cI, 208, .inl (fun j => nI (da j)))), (a10, .inl (cI, 26, .inl (fun j => nI (bt j))))] sz) 0 0 (va_A [(h, .inr (8, [.int (nI i0), .int (nI i1), .ref a2, .ref a3, .ref a4, .ref a5, .ref a6, .ref a7, .ref a8, .int (nI i9), .ref a10, .ref a11, .ref a12, .ref a13, .ref a14, .ref a15, .int (nI i16), .int (nI i17), .ref a18, .int (nI i19), .ref a20, .ref a21, .int (nI i22), .ref a23])), (a4, .inl (cI, 441, .inl (fun j => nI (dr j)))), (a5, .inl (cI, 441, .inl (fun j => nI (so j)))), (a6, .inl (cI, 30, .inl (fun j => nI (fo j)))), (a7, .inl (cI, 208, .inl (fun j => nI (da j)))), (a10, .inl (cI, 26, .inl (fun j => nI (bt j))))] sz) := by
  refine Met.ofW (cc := b_m_draw) (maxL := 7) (ret := none) (by decide) rfl ?_
  intro p e s m args below meth c s₁ B hml hv0
  obtain ⟨rfl, hP, hK, hD0, hsz⟩ := hv0
  have hts := atoms_spec (ws := cd_m_draw :: WS) B.pre
  have hown : s.vm.findClass R_Model = some m.cls := findClass_of_methodNamed B.named
  have hlocks := B.notSynchronized
  subst hsz
  have hD := hD0.self (sz := s.heap.size)
  have hl := lv_entry ([.ref h, .int (nI lv), .int (nI mk)]) (n := 7) (Nat.le_of_ble_eq_true rfl)
  rw [lg_entry_eq]
  generalize (lg_sl ([.ref h, .int (nI lv), .int (nI mk)]) ++ List.replicate (7 - (lg_sl ([.ref h, .int (nI lv), .int (nI mk)])).length) Slot.unset).toArray = ls at hl ⊢
  refine bd_m_draw cI cC h i0 i1 a2 a3 a4 a5 a6 a7 a8 i9 a10 a11 a12 a13 a14 a15 i16 i17 a18 i19 a20 a21 i22 a23 dr so fo da bt lv mk hlv hmk hbt hso hfo hda ⟨B.exec, B.bytes, hml, hown, hts⟩ (Nat.le_refl _) (Nat.le_refl _) ⟨Nat.le_refl _, Nat.le_refl _⟩ hK (fun q h => Or.inr h) (fun pc ls H locs hd hP hD hS => ?_) ls _ _ hl hP hD (va_S.rf)
  exact W.vret B.exec B.bytes B.returns (fun t ht _ => ⟨⟨(), rfl, trivial, (by have h9 := hP; rw [← ht] at h9; exact h9)⟩, hS.F ht⟩) hS.2.2 hd
end
