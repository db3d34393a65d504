theorem kw_790 : (Jvm.Cond.fieldLink "SquareCodesModel" (43 : Nat) "SquareCodesModel" "syndrome" "[I") ∈ WS := WS_tbl 790 (by decide +kernel) rfl
theorem kw_965 : (Jvm.Cond.methodLink "SquareCodesModel" (145 : Nat) ({ cls := "SquareCodesModel", name := "solve", desc := "(I)Z" } : Jvm.MethodName)) ∈ WS := WS_tbl 965 (by decide +kernel) rfl
theorem kw_967 : (Jvm.Cond.instanceMethod ({ cls := "SquareCodesModel", name := "solve", desc := "(I)Z" } : Jvm.MethodName)) ∈ WS := WS_tbl 967 (by decide +kernel) rfl
theorem ks_35 : Cond.selects R_Model y_m_solve y_m_solve ∈ WS := WS_sel 35 (by decide +kernel) rfl
set_option maxRecDepth 1000000 in
theorem kw_968 : cd_m_solve ∈ WS := WS_tbl 968 rfl rfl
theorem kw_791 : (Jvm.Cond.fieldLink "SquareCodesModel" (46 : Nat) "SquareCodesModel" "spot" "[I") ∈ WS := WS_tbl 791 (by decide +kernel) rfl
section
theorem d_m_spots_0 : decode b_m_spots 0 = .ok (.iconst 0, 1) := by decide +kernel
theorem d_m_spots_1 : decode b_m_spots 1 = .ok (.istore_n 2, 1) := by decide +kernel
theorem d_m_spots_2 : decode b_m_spots 2 = .ok (.iload_n 2, 1) := by decide +kernel
theorem d_m_spots_3 : decode b_m_spots 3 = .ok (.iload_n 1, 1) := by decide +kernel
theorem d_m_spots_4 : decode b_m_spots 4 = .ok (.if_icmp .ge 42, 3) := by decide +kernel
theorem d_m_spots_7 : decode b_m_spots 7 = .ok (.iconst 0, 1) := by decide +kernel
theorem d_m_spots_8 : decode b_m_spots 8 = .ok (.istore_n 3, 1) := by decide +kernel
theorem d_m_spots_9 : decode b_m_spots 9 = .ok (.iload_n 3, 1) := by decide +kernel
theorem d_m_spots_10 : decode b_m_spots 10 = .ok (.iload_n 1, 1) := by decide +kernel
theorem d_m_spots_11 : decode b_m_spots 11 = .ok (.if_icmp .gt 29, 3) := by decide +kernel
theorem d_m_spots_14 : decode b_m_spots 14 = .ok (.aload_n 0, 1) := by decide +kernel
theorem d_m_spots_15 : decode b_m_spots 15 = .ok (.getfield 37, 3) := by decide +kernel
theorem d_m_spots_18 : decode b_m_spots 18 = .ok (.iload_n 1, 1) := by decide +kernel
theorem d_m_spots_19 : decode b_m_spots 19 = .ok (.iconst 1, 1) := by decide +kernel
theorem d_m_spots_20 : decode b_m_spots 20 = .ok (.iadd, 1) := by decide +kernel
theorem d_m_spots_21 : decode b_m_spots 21 = .ok (.iload_n 2, 1) := by decide +kernel
theorem d_m_spots_22 : decode b_m_spots 22 = .ok (.imul, 1) := by decide +kernel
theorem d_m_spots_23 : decode b_m_spots 23 = .ok (.iload_n 3, 1) := by decide +kernel
theorem d_m_spots_24 : decode b_m_spots 24 = .ok (.iadd, 1) := by decide +kernel
theorem d_m_spots_25 : decode b_m_spots 25 = .ok (.aload_n 0, 1) := by decide +kernel
theorem d_m_spots_26 : decode b_m_spots 26 = .ok (.getfield 43, 3) := by decide +kernel
theorem d_m_spots_29 : decode b_m_spots 29 = .ok (.iload_n 2, 1) := by decide +kernel
theorem d_m_spots_30 : decode b_m_spots 30 = .ok (.iload_n 3, 1) := by decide +kernel
theorem d_m_spots_31 : decode b_m_spots 31 = .ok (.iadd, 1) := by decide +kernel
theorem d_m_spots_32 : decode b_m_spots 32 = .ok (.iaload, 1) := by decide +kernel
theorem d_m_spots_33 : decode b_m_spots 33 = .ok (.iastore, 1) := by decide +kernel
theorem d_m_spots_34 : decode b_m_spots 34 = .ok (.iinc 3 1, 3) := by decide +kernel
theorem d_m_spots_37 : decode b_m_spots 37 = .ok (.goto (-28), 3) := by decide +kernel
theorem d_m_spots_40 : decode b_m_spots 40 = .ok (.iinc 2 1, 3) := by decide +kernel
theorem d_m_spots_43 : decode b_m_spots 43 = .ok (.goto (-41), 3) := by decide +kernel
theorem d_m_spots_46 : decode b_m_spots 46 = .ok (.aload_n 0, 1) := by decide +kernel
theorem d_m_spots_47 : decode b_m_spots 47 = .ok (.iload_n 1, 1) := by decide +kernel
theorem d_m_spots_48 : decode b_m_spots 48 = .ok (.invokevirtual 145, 3) := by decide +kernel
theorem d_m_spots_51 : decode b_m_spots 51 = .ok (.ifCond .ne 5, 3) := by decide +kernel
theorem d_m_spots_54 : decode b_m_spots 54 = .ok (.iconst 0, 1) := by decide +kernel
theorem d_m_spots_55 : decode b_m_spots 55 = .ok (.ireturn, 1) := by decide +kernel
theorem d_m_spots_56 : decode b_m_spots 56 = .ok (.iconst 0, 1) := by decide +kernel
theorem d_m_spots_57 : decode b_m_spots 57 = .ok (.istore_n 2, 1) := by decide +kernel
theorem d_m_spots_58 : decode b_m_spots 58 = .ok (.iconst 0, 1) := by decide +kernel
theorem d_m_spots_59 : decode b_m_spots 59 = .ok (.istore_n 3, 1) := by decide +kernel
theorem d_m_spots_60 : decode b_m_spots 60 = .ok (.iload_n 3, 1) := by decide +kernel
theorem d_m_spots_61 : decode b_m_spots 61 = .ok (.bipush 26, 2) := by decide +kernel
theorem d_m_spots_63 : decode b_m_spots 63 = .ok (.if_icmp .ge 66, 3) := by decide +kernel
theorem d_m_spots_66 : decode b_m_spots 66 = .ok (.iload_n 3, 1) := by decide +kernel
theorem d_m_spots_67 : decode b_m_spots 67 = .ok (.invokestatic 90, 3) := by decide +kernel
theorem d_m_spots_70 : decode b_m_spots 70 = .ok (.istore 4, 2) := by decide +kernel
theorem d_m_spots_72 : decode b_m_spots 72 = .ok (.iconst 1, 1) := by decide +kernel
theorem d_m_spots_73 : decode b_m_spots 73 = .ok (.istore 5, 2) := by decide +kernel
theorem d_m_spots_75 : decode b_m_spots 75 = .ok (.iload_n 1, 1) := by decide +kernel
theorem d_m_spots_76 : decode b_m_spots 76 = .ok (.iconst 1, 1) := by decide +kernel
theorem d_m_spots_77 : decode b_m_spots 77 = .ok (.isub, 1) := by decide +kernel
theorem d_m_spots_78 : decode b_m_spots 78 = .ok (.istore 6, 2) := by decide +kernel
theorem d_m_spots_80 : decode b_m_spots 80 = .ok (.iload 6, 2) := by decide +kernel
theorem d_m_spots_82 : decode b_m_spots 82 = .ok (.ifCond .lt 26, 3) := by decide +kernel
theorem d_m_spots_85 : decode b_m_spots 85 = .ok (.iload 5, 2) := by decide +kernel
theorem d_m_spots_87 : decode b_m_spots 87 = .ok (.iload 4, 2) := by decide +kernel
theorem d_m_spots_89 : decode b_m_spots 89 = .ok (.invokestatic 72, 3) := by decide +kernel
theorem d_m_spots_92 : decode b_m_spots 92 = .ok (.aload_n 0, 1) := by decide +kernel
theorem d_m_spots_93 : decode b_m_spots 93 = .ok (.getfield 40, 3) := by decide +kernel
theorem d_m_spots_96 : decode b_m_spots 96 = .ok (.iload 6, 2) := by decide +kernel
theorem d_m_spots_98 : decode b_m_spots 98 = .ok (.iaload, 1) := by decide +kernel
theorem d_m_spots_99 : decode b_m_spots 99 = .ok (.ixor, 1) := by decide +kernel
theorem d_m_spots_100 : decode b_m_spots 100 = .ok (.istore 5, 2) := by decide +kernel
theorem d_m_spots_102 : decode b_m_spots 102 = .ok (.iinc 6 (-1), 3) := by decide +kernel
theorem d_m_spots_105 : decode b_m_spots 105 = .ok (.goto (-25), 3) := by decide +kernel
theorem d_m_spots_108 : decode b_m_spots 108 = .ok (.iload 5, 2) := by decide +kernel
theorem d_m_spots_110 : decode b_m_spots 110 = .ok (.ifCond .ne 13, 3) := by decide +kernel
theorem d_m_spots_113 : decode b_m_spots 113 = .ok (.aload_n 0, 1) := by decide +kernel
theorem d_m_spots_114 : decode b_m_spots 114 = .ok (.getfield 46, 3) := by decide +kernel
theorem d_m_spots_117 : decode b_m_spots 117 = .ok (.iload_n 2, 1) := by decide +kernel
theorem d_m_spots_118 : decode b_m_spots 118 = .ok (.iload_n 3, 1) := by decide +kernel
theorem d_m_spots_119 : decode b_m_spots 119 = .ok (.iastore, 1) := by decide +kernel
theorem d_m_spots_120 : decode b_m_spots 120 = .ok (.iinc 2 1, 3) := by decide +kernel
theorem d_m_spots_123 : decode b_m_spots 123 = .ok (.iinc 3 1, 3) := by decide +kernel
theorem d_m_spots_126 : decode b_m_spots 126 = .ok (.goto (-66), 3) := by decide +kernel
theorem d_m_spots_129 : decode b_m_spots 129 = .ok (.iload_n 2, 1) := by decide +kernel
theorem d_m_spots_130 : decode b_m_spots 130 = .ok (.iload_n 1, 1) := by decide +kernel
theorem d_m_spots_131 : decode b_m_spots 131 = .ok (.if_icmp .ne 7, 3) := by decide +kernel
theorem d_m_spots_134 : decode b_m_spots 134 = .ok (.iconst 1, 1) := by decide +kernel
theorem d_m_spots_135 : decode b_m_spots 135 = .ok (.goto 4, 3) := by decide +kernel
theorem d_m_spots_138 : decode b_m_spots 138 = .ok (.iconst 0, 1) := by decide +kernel
theorem d_m_spots_139 : decode b_m_spots 139 = .ok (.ireturn, 1) := by decide +kernel
end
section
variable {p : Program} {l : Launch} {e : Env} {R : Room} {s : State} {m : MethodId} {args : Array Value} {below : List Frame} {meth : Method} {c : Code} {cells slots : Nat} {Q : State → Prop} {A : Nat → Prop} {H0 : Heap} {D : va_G}
set_option maxHeartbeats 1000000 in
set_option maxRecDepth 100000 in
theorem lp_m_spots_no_9 (cI cC : ClassId) (h i0 i1 a2 a3 a4 a5 a6 a7 a8 i9 a10 a11 a12 a13 a14 a15 i16 i17 a18 i19 a20 a21 i22 a23 : Nat) (sy sl yd sp : Nat → Nat) (x : Nat) (hx0 : x ≤ 8) (hsy : lt256 72 sy) (hyd : lt256 17 yd) (d0 : Nat) (hd0 : d0 < x) (hpv : ∀ d, d < d0 → (pvW (slI (hkI sy yd x x) x d) x d (x - d) d) < x) (hno : (pvW (slI (hkI sy yd x x) x d0) x d0 (x - d0) d0) = x) (S : CallFix p m c b_m_spots 7 s args (cd_m_spots :: WS) R_Model) (hRf : 3 ≤ R.frames) (hRl : 73 ≤ R.locals) (hRc : cells ≤ R.cells ∧ slots ≤ R.slots) (hK : va_K D classes [(cI, .int), (cC, .char)] s) (hA : ∀ q, H0.size ≤ q → A q) (r : Nat) (hr9 : r < x) (kx : ∀ (ls : Array Slot) (H : Heap) (locs : List Loc), lv_has ls 7 [(0, .ref h), (1, .int (nI x)), (2, .int (nI r)), (3, .int (nI (x + 1)))] → va_P D classes [(h, .inr (8, [.int (nI i0), .int (nI i1), .ref a2, .ref a3, .ref a4, .ref a5, .ref a6, .ref a7, .ref a8, .int (nI i9), .ref a10, .ref a11, .ref a12, .ref a13, .ref a14, .ref a15, .int (nI i16), .int (nI i17), .ref a18, .int (nI i19), .ref a20, .ref a21, .int (nI i22), .ref a23])), (a12, .inl (cI, 72, .inl (fun j => nI ((hkJ (hkI sy yd x r) yd x r (x + 1)) j)))), (a13, .inl (cI, 8, .inl (fun j => nI (sl j)))), (a14, .inl (cI, 17, .inl (fun j => nI (yd j)))), (a15, .inl (cI, 8, .inl (fun j => nI (sp j))))] H → va_D A [(h, .inr (8, [.int (nI i0), .int (nI i1), .ref a2, .ref a3, .ref a4, .ref a5, .ref a6, .ref a7, .ref a8, .int (nI i9), .ref a10, .ref a11, .ref a12, .ref a13, .ref a14, .ref a15, .int (nI i16), .int (nI i17), .ref a18, .int (nI i19), .ref a20, .ref a21, .int (nI i22), .ref a23])), (a12, .inl (cI, 72, .inl (fun j => nI ((hkJ (hkI sy yd x r) yd x r (x + 1)) j)))), (a13, .inl (cI, 8, .inl (fun j => nI (sl j)))), (a14, .inl (cI, 17, .inl (fun j => nI (yd j)))), (a15, .inl (cI, 8, .inl (fun j => nI (sp j))))] → va_S A H0 H locs → W p l e R s m args below meth c H locs cells slots Q (F0 m 40 ls [])) :
    ∀ k, k ≤ x + 1 → ∀ (ls : Array Slot) (H : Heap) (locs : List Loc), lv_has ls 7 [(0, .ref h), (1, .int (nI x)), (2, .int (nI r)), (3, .int (nI k))] → va_P D classes [(h, .inr (8, [.int (nI i0), .int (nI i1), .ref a2, .ref a3, .ref a4, .ref a5, .ref a6, .ref a7, .ref a8, .int (nI i9), .ref a10, .ref a11, .ref a12, .ref a13, .ref a14, .ref a15, .int (nI i16), .int (nI i17), .ref a18, .int (nI i19), .ref a20, .ref a21, .int (nI i22), .ref a23])), (a12, .inl (cI, 72, .inl (fun j => nI ((hkJ (hkI sy yd x r) yd x r k) j)))), (a13, .inl (cI, 8, .inl (fun j => nI (sl j)))), (a14, .inl (cI, 17, .inl (fun j => nI (yd j)))), (a15, .inl (cI, 8, .inl (fun j => nI (sp j))))] H → va_D A [(h, .inr (8, [.int (nI i0), .int (nI i1), .ref a2, .ref a3, .ref a4, .ref a5, .ref a6, .ref a7, .ref a8, .int (nI i9), .ref a10, .ref a11, .ref a12, .ref a13, .ref a14, .ref a15, .int (nI i16), .int (nI i17), .ref a18, .int (nI i19), .ref a20, .ref a21, .int (nI i22), .ref a23])), (a12, .inl (cI, 72, .inl (fun j => nI ((hkJ (hkI sy yd x r) yd x r k) j)))), (a13, .inl (cI, 8, .inl (fun j => nI (sl j)))), (a14, .inl (cI, 17, .inl (fun j => nI (yd j)))), (a15, .inl (cI, 8, .inl (fun j => nI (sp j))))] → va_S A H0 H locs → W p l e R s m args below meth c H locs cells slots Q (F0 m 9 ls []) := by
  obtain ⟨hx, hb, hml, hown, hts⟩ := id S
  refine up_loop (fun k hkk ih => ?_)
  intro ls H locs hl hP hD hS
  refine lv_iload_n hx hb d_m_spots_9 rfl (lv_at hl 3 rfl) ?_
  refine lv_iload_n hx hb d_m_spots_10 rfl (lv_at hl 1 rfl) ?_
  refine n_icmp_gt hx hb d_m_spots_11 (tgt := 40) rfl (by omega) (by omega) (fun g11 => ?_) (fun g11 => ?_)
  · skip
    obtain rfl : k = x + 1 := by omega
    exact kx ls H locs (lv_sub hl [0, 1, 2, 3] rfl) hP hD hS
  · skip
    refine lv_aload_n hx hb d_m_spots_14 rfl (lv_at hl 0 rfl) ?_
    refine n_get (C := R_Model) (T := F_Model) (N := 24) (v := .ref a12) hx hb hts u_Model_in hown hK hP 0 rfl rfl 12 (by decide) kw_788 rfl d_m_spots_15 ?_
    refine lv_iload_n hx hb d_m_spots_18 rfl (lv_at hl 1 rfl) ?_
    refine lv_iconst (v := nI 1) hx hb d_m_spots_19 (by decide) ?_
    refine n_iadd hx hb d_m_spots_20 ?_
    refine lv_iload_n hx hb d_m_spots_21 rfl (lv_at hl 2 rfl) ?_
    refine n_imul hx hb d_m_spots_22 ?_
    refine lv_iload_n hx hb d_m_spots_23 rfl (lv_at hl 3 rfl) ?_
    refine n_iadd hx hb d_m_spots_24 ?_
    refine lv_aload_n hx hb d_m_spots_25 rfl (lv_at hl 0 rfl) ?_
    refine n_get (C := R_Model) (T := F_Model) (N := 24) (v := .ref a14) hx hb hts u_Model_in hown hK hP 0 rfl rfl 14 (by decide) kw_790 rfl d_m_spots_26 ?_
    refine lv_iload_n hx hb d_m_spots_29 rfl (lv_at hl 2 rfl) ?_
    refine lv_iload_n hx hb d_m_spots_30 rfl (lv_at hl 3 rfl) ?_
    refine n_iadd hx hb d_m_spots_31 ?_
    refine n_iald hx hb hK hP 3 0 rfl rfl (by omega) (by decide) d_m_spots_32 ?_
    refine n_iast hx hb hK hP hD hS 1 0 rfl rfl (ix72 hx0 (by omega) (by omega)) (by decide) d_m_spots_33 (fun H locs hP hD hS => ?_)
    have hP : va_P D classes [(h, .inr (8, [.int (nI i0), .int (nI i1), .ref a2, .ref a3, .ref a4, .ref a5, .ref a6, .ref a7, .ref a8, .int (nI i9), .ref a10, .ref a11, .ref a12, .ref a13, .ref a14, .ref a15, .int (nI i16), .int (nI i17), .ref a18, .int (nI i19), .ref a20, .ref a21, .int (nI i22), .ref a23])), (a12, .inl (cI, 72, .inl (fun j => nI ((va_up (hkJ (hkI sy yd x r) yd x r k) (((x + 1) * r) + k) (yd (r + k))) j)))), (a13, .inl (cI, 8, .inl (fun j => nI (sl j)))), (a14, .inl (cI, 17, .inl (fun j => nI (yd j)))), (a15, .inl (cI, 8, .inl (fun j => nI (sp j))))] H := hP
    have hD : va_D A [(h, .inr (8, [.int (nI i0), .int (nI i1), .ref a2, .ref a3, .ref a4, .ref a5, .ref a6, .ref a7, .ref a8, .int (nI i9), .ref a10, .ref a11, .ref a12, .ref a13, .ref a14, .ref a15, .int (nI i16), .int (nI i17), .ref a18, .int (nI i19), .ref a20, .ref a21, .int (nI i22), .ref a23])), (a12, .inl (cI, 72, .inl (fun j => nI ((va_up (hkJ (hkI sy yd x r) yd x r k) (((x + 1) * r) + k) (yd (r + k))) j)))), (a13, .inl (cI, 8, .inl (fun j => nI (sl j)))), (a14, .inl (cI, 17, .inl (fun j => nI (yd j)))), (a15, .inl (cI, 8, .inl (fun j => nI (sp j))))] := hD
    rw [show va_up (hkJ (hkI sy yd x r) yd x r k) (((x + 1) * r) + k) (yd (r + k)) = hkJ (hkI sy yd x r) yd x r (k + 1) from rfl] at hP hD
    refine lv_iinc (k := 3) (v := nI (k + 1)) hx hb d_m_spots_34 hl rfl (nx_inc k 1) (Nat.le_of_ble_eq_true rfl) rfl (fun ls hl => ?_)
    have hl : lv_has ls 7 [(3, .int (nI (k + 1))), (0, .ref h), (1, .int (nI x)), (2, .int (nI r))] := hl
    refine lv_goto hx hb d_m_spots_37 (tgt := 9) rfl ?_
    exact ih (by omega) ls H locs (lv_sub hl [1, 2, 3, 0] rfl) hP hD hS
set_option maxHeartbeats 1000000 in
set_option maxRecDepth 100000 in
theorem lp_m_spots_no_2 (cI cC : ClassId) (h i0 i1 a2 a3 a4 a5 a6 a7 a8 i9 a10 a11 a12 a13 a14 a15 i16 i17 a18 i19 a20 a21 i22 a23 : Nat) (sy sl yd sp : Nat → Nat) (x : Nat) (hx0 : x ≤ 8) (hsy : lt256 72 sy) (hyd : lt256 17 yd) (d0 : Nat) (hd0 : d0 < x) (hpv : ∀ d, d < d0 → (pvW (slI (hkI sy yd x x) x d) x d (x - d) d) < x) (hno : (pvW (slI (hkI sy yd x x) x d0) x d0 (x - d0) d0) = x) (S : CallFix p m c b_m_spots 7 s args (cd_m_spots :: WS) R_Model) (hRf : 3 ≤ R.frames) (hRl : 73 ≤ R.locals) (hRc : cells ≤ R.cells ∧ slots ≤ R.slots) (hK : va_K D classes [(cI, .int), (cC, .char)] s) (hA : ∀ q, H0.size ≤ q → A q) (kx : ∀ (ls : Array Slot) (H : Heap) (locs : List Loc), lv_has ls 7 [(0, .ref h), (1, .int (nI x)), (2, .int (nI x))] → va_P D classes [(h, .inr (8, [.int (nI i0), .int (nI i1), .ref a2, .ref a3, .ref a4, .ref a5, .ref a6, .ref a7, .ref a8, .int (nI i9), .ref a10, .ref a11, .ref a12, .ref a13, .ref a14, .ref a15, .int (nI i16), .int (nI i17), .ref a18, .int (nI i19), .ref a20, .ref a21, .int (nI i22), .ref a23])), (a12, .inl (cI, 72, .inl (fun j => nI ((hkI sy yd x x) j)))), (a13, .inl (cI, 8, .inl (fun j => nI (sl j)))), (a14, .inl (cI, 17, .inl (fun j => nI (yd j)))), (a15, .inl (cI, 8, .inl (fun j => nI (sp j))))] H → va_D A [(h, .inr (8, [.int (nI i0), .int (nI i1), .ref a2, .ref a3, .ref a4, .ref a5, .ref a6, .ref a7, .ref a8, .int (nI i9), .ref a10, .ref a11, .ref a12, .ref a13, .ref a14, .ref a15, .int (nI i16), .int (nI i17), .ref a18, .int (nI i19), .ref a20, .ref a21, .int (nI i22), .ref a23])), (a12, .inl (cI, 72, .inl (fun j => nI ((hkI sy yd x x) j)))), (a13, .inl (cI, 8, .inl (fun j => nI (sl j)))), (a14, .inl (cI, 17, .inl (fun j => nI (yd j)))), (a15, .inl (cI, 8, .inl (fun j => nI (sp j))))] → va_S A H0 H locs → W p l e R s m args below meth c H locs cells slots Q (F0 m 46 ls [])) :
    ∀ r, r ≤ x → ∀ (ls : Array Slot) (H : Heap) (locs : List Loc), lv_has ls 7 [(0, .ref h), (1, .int (nI x)), (2, .int (nI r))] → va_P D classes [(h, .inr (8, [.int (nI i0), .int (nI i1), .ref a2, .ref a3, .ref a4, .ref a5, .ref a6, .ref a7, .ref a8, .int (nI i9), .ref a10, .ref a11, .ref a12, .ref a13, .ref a14, .ref a15, .int (nI i16), .int (nI i17), .ref a18, .int (nI i19), .ref a20, .ref a21, .int (nI i22), .ref a23])), (a12, .inl (cI, 72, .inl (fun j => nI ((hkI sy yd x r) j)))), (a13, .inl (cI, 8, .inl (fun j => nI (sl j)))), (a14, .inl (cI, 17, .inl (fun j => nI (yd j)))), (a15, .inl (cI, 8, .inl (fun j => nI (sp j))))] H → va_D A [(h, .inr (8, [.int (nI i0), .int (nI i1), .ref a2, .ref a3, .ref a4, .ref a5, .ref a6, .ref a7, .ref a8, .int (nI i9), .ref a10, .ref a11, .ref a12, .ref a13, .ref a14, .ref a15, .int (nI i16), .int (nI i17), .ref a18, .int (nI i19), .ref a20, .ref a21, .int (nI i22), .ref a23])), (a12, .inl (cI, 72, .inl (fun j => nI ((hkI sy yd x r) j)))), (a13, .inl (cI, 8, .inl (fun j => nI (sl j)))), (a14, .inl (cI, 17, .inl (fun j => nI (yd j)))), (a15, .inl (cI, 8, .inl (fun j => nI (sp j))))] → va_S A H0 H locs → W p l e R s m args below meth c H locs cells slots Q (F0 m 2 ls []) := by
  obtain ⟨hx, hb, hml, hown, hts⟩ := id S
  refine up_loop (fun r hkr ih => ?_)
  intro ls H locs hl hP hD hS
  refine lv_iload_n hx hb d_m_spots_2 rfl (lv_at hl 2 rfl) ?_
  refine lv_iload_n hx hb d_m_spots_3 rfl (lv_at hl 1 rfl) ?_
  refine n_icmp_ge hx hb d_m_spots_4 (tgt := 46) rfl (by omega) (by omega) (fun g4 => ?_) (fun g4 => ?_)
  · skip
    obtain rfl : r = x := by omega
    exact kx ls H locs (lv_sub hl [0, 1, 2] rfl) hP hD hS
  · skip
    refine lv_iconst (v := nI 0) hx hb d_m_spots_7 (by decide) ?_
    refine lv_istore_n hx hb d_m_spots_8 rfl hl (Nat.le_of_ble_eq_true rfl) rfl (fun ls hl => ?_)
    have hl : lv_has ls 7 [(3, .int (nI 0)), (0, .ref h), (1, .int (nI x)), (2, .int (nI r))] := hl
    refine lp_m_spots_no_9 cI cC h i0 i1 a2 a3 a4 a5 a6 a7 a8 i9 a10 a11 a12 a13 a14 a15 i16 i17 a18 i19 a20 a21 i22 a23 sy sl yd sp x hx0 hsy hyd d0 hd0 hpv hno S hRf hRl hRc hK hA r (by omega) (fun ls H locs hl hP hD hS => ?_) 0 (by omega) ls H locs (lv_sub hl [1, 2, 3, 0] rfl) hP hD hS
    refine lv_iinc (k := 2) (v := nI (r + 1)) hx hb d_m_spots_40 hl rfl (nx_inc r 1) (Nat.le_of_ble_eq_true rfl) rfl (fun ls hl => ?_)
    have hl : lv_has ls 7 [(2, .int (nI (r + 1))), (0, .ref h), (1, .int (nI x)), (3, .int (nI (x + 1)))] := hl
    refine lv_goto hx hb d_m_spots_43 (tgt := 2) rfl ?_
    rw [show hkJ (hkI sy yd x r) yd x r (x + 1) = hkI sy yd x (r + 1) from rfl] at hP hD
    exact ih (by omega) ls H locs (lv_sub hl [1, 2, 0] rfl) hP hD hS
set_option maxHeartbeats 1000000 in
set_option maxRecDepth 100000 in
theorem bd_m_spots_no (cI cC : ClassId) (h i0 i1 a2 a3 a4 a5 a6 a7 a8 i9 a10 a11 a12 a13 a14 a15 i16 i17 a18 i19 a20 a21 i22 a23 : Nat) (sy sl yd sp : Nat → Nat) (x : Nat) (hx0 : x ≤ 8) (hsy : lt256 72 sy) (hyd : lt256 17 yd) (d0 : Nat) (hd0 : d0 < x) (hpv : ∀ d, d < d0 → (pvW (slI (hkI sy yd x x) x d) x d (x - d) d) < x) (hno : (pvW (slI (hkI sy yd x x) x d0) x d0 (x - d0) d0) = x) (S : CallFix p m c b_m_spots 7 s args (cd_m_spots :: WS) R_Model) (hRf : 3 ≤ R.frames) (hRl : 73 ≤ R.locals) (hRc : cells ≤ R.cells ∧ slots ≤ R.slots) (hK : va_K D classes [(cI, .int), (cC, .char)] s) (hA : ∀ q, H0.size ≤ q → A q) (kr : ∀ (pc : Nat) (ls : Array Slot) (H : Heap) (locs : List Loc), decode b_m_spots pc = .ok (.ireturn, 1) → va_P D classes [(h, .inr (8, [.int (nI i0), .int (nI i1), .ref a2, .ref a3, .ref a4, .ref a5, .ref a6, .ref a7, .ref a8, .int (nI i9), .ref a10, .ref a11, .ref a12, .ref a13, .ref a14, .ref a15, .int (nI i16), .int (nI i17), .ref a18, .int (nI i19), .ref a20, .ref a21, .int (nI i22), .ref a23])), (a12, .inl (cI, 72, .inl (fun j => nI ((slI (hkI sy yd x x) x d0) j)))), (a13, .inl (cI, 8, .inl (fun j => nI (sl j)))), (a14, .inl (cI, 17, .inl (fun j => nI (yd j)))), (a15, .inl (cI, 8, .inl (fun j => nI (sp j))))] H → va_D A [(h, .inr (8, [.int (nI i0), .int (nI i1), .ref a2, .ref a3, .ref a4, .ref a5, .ref a6, .ref a7, .ref a8, .int (nI i9), .ref a10, .ref a11, .ref a12, .ref a13, .ref a14, .ref a15, .int (nI i16), .int (nI i17), .ref a18, .int (nI i19), .ref a20, .ref a21, .int (nI i22), .ref a23])), (a12, .inl (cI, 72, .inl (fun j => nI ((slI (hkI sy yd x x) x d0) j)))), (a13, .inl (cI, 8, .inl (fun j => nI (sl j)))), (a14, .inl (cI, 17, .inl (fun j => nI (yd j)))), (a15, .inl (cI, 8, .inl (fun j => nI (sp j))))] → va_S A H0 H locs → W p l e R s m args below meth c H locs cells slots Q (F0 m pc ls [.int (nI 0)])) : ∀ (ls : Array Slot) (H : Heap) (locs : List Loc), lv_has ls 7 [(0, .ref h), (1, .int (nI x))] → va_P D classes [(h, .inr (8, [.int (nI i0), .int (nI i1), .ref a2, .ref a3, .ref a4, .ref a5, .ref a6, .ref a7, .ref a8, .int (nI i9), .ref a10, .ref a11, .ref a12, .ref a13, .ref a14, .ref a15, .int (nI i16), .int (nI i17), .ref a18, .int (nI i19), .ref a20, .ref a21, .int (nI i22), .ref a23])), (a12, .inl (cI, 72, .inl (fun j => nI (sy j)))), (a13, .inl (cI, 8, .inl (fun j => nI (sl j)))), (a14, .inl (cI, 17, .inl (fun j => nI (yd j)))), (a15, .inl (cI, 8, .inl (fun j => nI (sp j))))] H → va_D A [(h, .inr (8, [.int (nI i0), .int (nI i1), .ref a2, .ref a3, .ref a4, .ref a5, .ref a6, .ref a7, .ref a8, .int (nI i9), .ref a10, .ref a11, .ref a12, .ref a13, .ref a14, .ref a15, .int (nI i16), .int (nI i17), .ref a18, .int (nI i19), .ref a20, .ref a21, .int (nI i22), .ref a23])), (a12, .inl (cI, 72, .inl (fun j => nI (sy j)))), (a13, .inl (cI, 8, .inl (fun j => nI (sl j)))), (a14, .inl (cI, 17, .inl (fun j => nI (yd j)))), (a15, .inl (cI, 8, .inl (fun j => nI (sp j))))] → va_S A H0 H locs → W p l e R s m args below meth c H locs cells slots Q (F0 m 0 ls []) := by
  obtain ⟨hx, hb, hml, hown, hts⟩ := id S
  intro ls H locs hl hP hD hS
  refine lv_iconst (v := nI 0) hx hb d_m_spots_0 (by decide) ?_
  refine lv_istore_n hx hb d_m_spots_1 rfl hl (Nat.le_of_ble_eq_true rfl) rfl (fun ls hl => ?_)
  have hl : lv_has ls 7 [(2, .int (nI 0)), (0, .ref h), (1, .int (nI x))] := hl
  refine lp_m_spots_no_2 cI cC h i0 i1 a2 a3 a4 a5 a6 a7 a8 i9 a10 a11 a12 a13 a14 a15 i16 i17 a18 i19 a20 a21 i22 a23 sy sl yd sp x hx0 hsy hyd d0 hd0 hpv hno S hRf hRl hRc hK hA  (fun ls H locs hl hP hD hS => ?_) 0 (by omega) ls H locs (lv_sub hl [1, 2, 0] rfl) hP hD hS
  have hhk := hkI_lt (x := x) (sy := sy) hx0 hsy hyd x (by omega)
  refine lv_aload_n hx hb d_m_spots_46 rfl (lv_at hl 0 rfl) ?_
  refine lv_iload_n hx hb d_m_spots_47 rfl (lv_at hl 1 rfl) ?_
  refine q_writeVi (n := 1) (As := [.int (nI x)]) (rest := []) (wc := [(h, .inr (8, [.int (nI i0), .int (nI i1), .ref a2, .ref a3, .ref a4, .ref a5, .ref a6, .ref a7, .ref a8, .int (nI i9), .ref a10, .ref a11, .ref a12, .ref a13, .ref a14, .ref a15, .int (nI i16), .int (nI i17), .ref a18, .int (nI i19), .ref a20, .ref a21, .int (nI i22), .ref a23])), (a12, .inl (cI, 72, .inl (fun j => nI ((hkI sy yd x x) j)))), (a13, .inl (cI, 8, .inl (fun j => nI (sl j))))]) (wr := [(a14, .inl (cI, 17, .inl (fun j => nI (yd j)))), (a15, .inl (cI, 8, .inl (fun j => nI (sp j))))]) (w1 := [(h, .inr (8, [.int (nI i0), .int (nI i1), .ref a2, .ref a3, .ref a4, .ref a5, .ref a6, .ref a7, .ref a8, .int (nI i9), .ref a10, .ref a11, .ref a12, .ref a13, .ref a14, .ref a15, .int (nI i16), .int (nI i17), .ref a18, .int (nI i19), .ref a20, .ref a21, .int (nI i22), .ref a23])), (a12, .inl (cI, 72, .inl (fun j => nI ((slI (hkI sy yd x x) x d0) j)))), (a13, .inl (cI, 8, .inl (fun j => nI (sl j))))]) S (c_m_solve_no l D cI cC h i0 i1 a2 a3 a4 a5 a6 a7 a8 i9 a10 a11 a12 a13 a14 a15 i16 i17 a18 i19 a20 a21 i22 a23 (hkI sy yd x x) sl x (by omega) hhk _ hd0 hpv hno H.size) hK hP hD hA (q0 := 0) rfl rfl [0, 1, 2] [3, 4] rfl rfl rfl rfl (by decide) rfl (q_goodV kw_965 kw_967 ks_35 kw_10 kw_968) (by decide +kernel) rfl rfl rfl ⟨Nat.le_trans (Nat.le_of_ble_eq_true rfl) hRf, Nat.le_trans (Nat.le_of_ble_eq_true rfl) hRl⟩ rfl hl.1 rfl (Nat.le_of_ble_eq_true rfl) d_m_spots_48 hRc hS (fun H locs hP hD hS => ?_)
  replace hP : va_P D classes [(h, .inr (8, [.int (nI i0), .int (nI i1), .ref a2, .ref a3, .ref a4, .ref a5, .ref a6, .ref a7, .ref a8, .int (nI i9), .ref a10, .ref a11, .ref a12, .ref a13, .ref a14, .ref a15, .int (nI i16), .int (nI i17), .ref a18, .int (nI i19), .ref a20, .ref a21, .int (nI i22), .ref a23])), (a12, .inl (cI, 72, .inl (fun j => nI ((slI (hkI sy yd x x) x d0) j)))), (a13, .inl (cI, 8, .inl (fun j => nI (sl j)))), (a14, .inl (cI, 17, .inl (fun j => nI (yd j)))), (a15, .inl (cI, 8, .inl (fun j => nI (sp j))))] H := hP.sub [2, 3, 4, 0, 1] rfl
  replace hD : va_D A [(h, .inr (8, [.int (nI i0), .int (nI i1), .ref a2, .ref a3, .ref a4, .ref a5, .ref a6, .ref a7, .ref a8, .int (nI i9), .ref a10, .ref a11, .ref a12, .ref a13, .ref a14, .ref a15, .int (nI i16), .int (nI i17), .ref a18, .int (nI i19), .ref a20, .ref a21, .int (nI i22), .ref a23])), (a12, .inl (cI, 72, .inl (fun j => nI ((slI (hkI sy yd x x) x d0) j)))), (a13, .inl (cI, 8, .inl (fun j => nI (sl j)))), (a14, .inl (cI, 17, .inl (fun j => nI (yd j)))), (a15, .inl (cI, 8, .inl (fun j => nI (sp j))))] := hD.sub [2, 3, 4, 0, 1] rfl rfl
  refine n_if_ne hx hb d_m_spots_51 (tgt := 56) rfl (by omega) (fun g51 => absurd g51 (by decide)) (fun g51 => ?_)
  refine lv_iconst (v := nI 0) hx hb d_m_spots_54 (by decide) ?_
  exact kr _ ls H locs d_m_spots_55 hP hD hS
set_option maxHeartbeats 1000000 in
set_option maxRecDepth 100000 in
theorem c_m_spots_no (l : Launch) (D : va_G) (cI cC : ClassId) (h i0 i1 a2 a3 a4 a5 a6 a7 a8 i9 a10 a11 a12 a13 a14 a15 i16 i17 a18 i19 a20 a21 i22 a23 : Nat) (sy sl yd sp : Nat → Nat) (x : Nat) (hx0 : x ≤ 8) (hsy : lt256 72 sy) (hyd : lt256 17 yd) (d0 : Nat) (hd0 : d0 < x) (hpv : ∀ d, d < d0 → (pvW (slI (hkI sy yd x x) x d) x d (x - d) d) < x) (hno : (pvW (slI (hkI sy yd x x) x d0) x d0 (x - d0) d0) = x) (sz : Nat) : Met l y_m_spots (cd_m_spots :: WS) { frames := 3, cells := 0, slots := 0, locals := 73 } (va_Pc [.ref h, .int (nI x)] (wP D [(h, .inr (8, [.int (nI i0), .int (nI i1), .ref a2, .ref a3, .ref a4, .ref a5, .ref a6, .ref a7, .ref a8, .int (nI i9), .ref a10, .ref a11, .ref a12, .ref a13, .ref a14, .ref a15, .int (nI i16), .int (nI i17), .ref a18, .int (nI i19), .ref a20, .ref a21, .int (nI i22), .ref a23])), (a12, .inl (cI, 72, .inl (fun j => nI (sy j)))), (a13, .inl (cI, 8, .inl (fun j => nI (sl j)))), (a14, .inl (cI, 17, .inl (fun j => nI (yd j)))), (a15, .inl (cI, 8, .inl (fun j => nI (sp j))))] [(cI, .int), (cC, .char)] sz)) (wQi D (nI 0) [(h, .inr (8, [.int (nI i0), .int (nI i1), .ref a2, .ref a3, .ref a4, .ref a5, .ref a6, .ref a7, .ref a8, .int (nI i9), .ref a10, .ref a11, .ref a12, .ref a13, .ref a14, .ref a15, .int (nI i16), .int (nI i17), .ref a18, .int (nI i19), .ref a20, .ref a21, .int (nI i22), .ref a23])), (a12, .inl (cI, 72, .inl (fun j => nI (sy j)))), (a13, .inl (cI, 8, .inl (fun j => nI (sl j)))), (a14, .inl (cI, 17, .inl (fun j => nI (yd j)))), (a15, .inl (cI, 8, .inl (fun j => nI (sp j))))] [(h, .inr (8, [.int (nI i0), .int (nI i1), .ref a2, .ref a3, .ref a4, .ref a5, .ref a6, .ref a7, .ref a8, .int (nI i9), .ref a10, .ref a11, .ref a12, .ref a13, .ref a14, .ref a15, .int (nI i16), .int (nI i17), .ref a18, .int (nI i19), .ref a20, .ref a21, .int (nI i22), .ref a23])), (a12, .inl (cI, 72, .inl (fun j => nI ((slI (hkI sy yd x x) x d0) j)))), (a13, .inl (cI, 8, .inl (fun j => nI (sl j)))), (a14, .inl (cI, 17, .inl (fun j => nI (yd j)))), (a15, .inl (cI, 8, .inl (fun j => nI (sp j))))] sz) 0 0 (va_A [(h, .inr (8, [.int (nI i0), .int (nI i1), .ref a2, .ref a3, .ref a4, .ref a5, .ref a6, .ref a7, .ref a8, .int (nI i9), .ref a10, .ref a11, .ref a12, .ref a13, .ref a14, .ref a15, .int (nI i16), .int (nI i17), .ref a18, .int (nI i19), .ref a20, .ref a21, .int (nI i22), .ref a23])), (a12, .inl (cI, 72, .inl (fun j => nI (sy j)))), (a13, .inl (cI, 8, .inl (fun j => nI (sl j)))), (a14, .inl (cI, 17, .inl (fun j => nI (yd j)))), (a15, .inl (cI, 8, .inl (fun j => nI (sp j))))] sz) := by
  refine Met.ofW (cc := b_m_spots) (maxL := 7) (ret := (some .boolean)) (by decide) rfl ?_
  intro p e s m args below meth c s₁ B hml hv0
  obtain ⟨rfl, hP, hK, hD0, hsz⟩ := hv0
  have hts := atoms_spec (ws := cd_m_spots :: WS) B.pre
  have hown : s.vm.findClass R_Model = some m.cls := findClass_of_methodNamed B.named
  have hlocks := B.notSynchronized
  subst hsz
  have hD := hD0.self (sz := s.heap.size)
  have hl := lv_entry ([.ref h, .int (nI x)]) (n := 7) (Nat.le_of_ble_eq_true rfl)
  rw [lg_entry_eq]
  generalize (lg_sl ([.ref h, .int (nI x)]) ++ List.replicate (7 - (lg_sl ([.ref h, .int (nI x)])).length) Slot.unset).toArray = ls at hl ⊢
  refine bd_m_spots_no cI cC h i0 i1 a2 a3 a4 a5 a6 a7 a8 i9 a10 a11 a12 a13 a14 a15 i16 i17 a18 i19 a20 a21 i22 a23 sy sl yd sp x hx0 hsy hyd d0 hd0 hpv hno ⟨B.exec, B.bytes, hml, hown, hts⟩ (Nat.le_refl _) (Nat.le_refl _) ⟨Nat.le_refl _, Nat.le_refl _⟩ hK (fun q h => Or.inr h) (fun pc ls H locs hd hP hD hS => ?_) ls _ _ hl hP hD (va_S.rf)
  exact W.zret B.exec B.bytes B.returns rfl (fun t ht _ => ⟨⟨_, (), rfl, rfl, (by have h9 := hP; rw [← ht] at h9; exact h9)⟩, hS.F ht⟩) hS.2.2 hd
end
section
variable {p : Program} {l : Launch} {e : Env} {R : Room} {s : State} {m : MethodId} {args : Array Value} {below : List Frame} {meth : Method} {c : Code} {cells slots : Nat} {Q : State → Prop} {A : Nat → Prop} {H0 : Heap} {D : va_G}
set_option maxHeartbeats 1000000 in
set_option maxRecDepth 100000 in
theorem lp_m_spots_ok_9 (cI cC : ClassId) (h i0 i1 a2 a3 a4 a5 a6 a7 a8 i9 a10 a11 a12 a13 a14 a15 i16 i17 a18 i19 a20 a21 i22 a23 : Nat) (sy sl yd sp : Nat → Nat) (x : Nat) (hx0 : x ≤ 8) (hsy : lt256 72 sy) (hyd : lt256 17 yd) (hpv : ∀ d, d < x → (pvW (slI (hkI sy yd x x) x d) x d (x - d) d) < x) (hrt : ∀ q, q ≤ 26 → spC (soL sl (slI (hkI sy yd x x) x x) x x) x q ≤ 8) (S : CallFix p m c b_m_spots 7 s args (cd_m_spots :: WS) R_Model) (hRf : 3 ≤ R.frames) (hRl : 73 ≤ R.locals) (hRc : cells ≤ R.cells ∧ slots ≤ R.slots) (hK : va_K D classes [(cI, .int), (cC, .char)] s) (hA : ∀ q, H0.size ≤ q → A q) (r : Nat) (hr9 : r < x) (kx : ∀ (ls : Array Slot) (H : Heap) (locs : List Loc), lv_has ls 7 [(0, .ref h), (1, .int (nI x)), (2, .int (nI r)), (3, .int (nI (x + 1)))] → va_P D classes [(h, .inr (8, [.int (nI i0), .int (nI i1), .ref a2, .ref a3, .ref a4, .ref a5, .ref a6, .ref a7, .ref a8, .int (nI i9), .ref a10, .ref a11, .ref a12, .ref a13, .ref a14, .ref a15, .int (nI i16), .int (nI i17), .ref a18, .int (nI i19), .ref a20, .ref a21, .int (nI i22), .ref a23])), (a12, .inl (cI, 72, .inl (fun j => nI ((hkJ (hkI sy yd x r) yd x r (x + 1)) j)))), (a13, .inl (cI, 8, .inl (fun j => nI (sl j)))), (a14, .inl (cI, 17, .inl (fun j => nI (yd j)))), (a15, .inl (cI, 8, .inl (fun j => nI (sp j))))] H → va_D A [(h, .inr (8, [.int (nI i0), .int (nI i1), .ref a2, .ref a3, .ref a4, .ref a5, .ref a6, .ref a7, .ref a8, .int (nI i9), .ref a10, .ref a11, .ref a12, .ref a13, .ref a14, .ref a15, .int (nI i16), .int (nI i17), .ref a18, .int (nI i19), .ref a20, .ref a21, .int (nI i22), .ref a23])), (a12, .inl (cI, 72, .inl (fun j => nI ((hkJ (hkI sy yd x r) yd x r (x + 1)) j)))), (a13, .inl (cI, 8, .inl (fun j => nI (sl j)))), (a14, .inl (cI, 17, .inl (fun j => nI (yd j)))), (a15, .inl (cI, 8, .inl (fun j => nI (sp j))))] → va_S A H0 H locs → W p l e R s m args below meth c H locs cells slots Q (F0 m 40 ls [])) :
    ∀ k, k ≤ x + 1 → ∀ (ls : Array Slot) (H : Heap) (locs : List Loc), lv_has ls 7 [(0, .ref h), (1, .int (nI x)), (2, .int (nI r)), (3, .int (nI k))] → va_P D classes [(h, .inr (8, [.int (nI i0), .int (nI i1), .ref a2, .ref a3, .ref a4, .ref a5, .ref a6, .ref a7, .ref a8, .int (nI i9), .ref a10, .ref a11, .ref a12, .ref a13, .ref a14, .ref a15, .int (nI i16), .int (nI i17), .ref a18, .int (nI i19), .ref a20, .ref a21, .int (nI i22), .ref a23])), (a12, .inl (cI, 72, .inl (fun j => nI ((hkJ (hkI sy yd x r) yd x r k) j)))), (a13, .inl (cI, 8, .inl (fun j => nI (sl j)))), (a14, .inl (cI, 17, .inl (fun j => nI (yd j)))), (a15, .inl (cI, 8, .inl (fun j => nI (sp j))))] H → va_D A [(h, .inr (8, [.int (nI i0), .int (nI i1), .ref a2, .ref a3, .ref a4, .ref a5, .ref a6, .ref a7, .ref a8, .int (nI i9), .ref a10, .ref a11, .ref a12, .ref a13, .ref a14, .ref a15, .int (nI i16), .int (nI i17), .ref a18, .int (nI i19), .ref a20, .ref a21, .int (nI i22), .ref a23])), (a12, .inl (cI, 72, .inl (fun j => nI ((hkJ (hkI sy yd x r) yd x r k) j)))), (a13, .inl (cI, 8, .inl (fun j => nI (sl j)))), (a14, .inl (cI, 17, .inl (fun j => nI (yd j)))), (a15, .inl (cI, 8, .inl (fun j => nI (sp j))))] → va_S A H0 H locs → W p l e R s m args below meth c H locs cells slots Q (F0 m 9 ls []) := by
  obtain ⟨hx, hb, hml, hown, hts⟩ := id S
  refine up_loop (fun k hkk ih => ?_)
  intro ls H locs hl hP hD hS
  refine lv_iload_n hx hb d_m_spots_9 rfl (lv_at hl 3 rfl) ?_
  refine lv_iload_n hx hb d_m_spots_10 rfl (lv_at hl 1 rfl) ?_
  refine n_icmp_gt hx hb d_m_spots_11 (tgt := 40) rfl (by omega) (by omega) (fun g11 => ?_) (fun g11 => ?_)
  · skip
    obtain rfl : k = x + 1 := by omega
    exact kx ls H locs (lv_sub hl [0, 1, 2, 3] rfl) hP hD hS
  · skip
    refine lv_aload_n hx hb d_m_spots_14 rfl (lv_at hl 0 rfl) ?_
    refine n_get (C := R_Model) (T := F_Model) (N := 24) (v := .ref a12) hx hb hts u_Model_in hown hK hP 0 rfl rfl 12 (by decide) kw_788 rfl d_m_spots_15 ?_
    refine lv_iload_n hx hb d_m_spots_18 rfl (lv_at hl 1 rfl) ?_
    refine lv_iconst (v := nI 1) hx hb d_m_spots_19 (by decide) ?_
    refine n_iadd hx hb d_m_spots_20 ?_
    refine lv_iload_n hx hb d_m_spots_21 rfl (lv_at hl 2 rfl) ?_
    refine n_imul hx hb d_m_spots_22 ?_
    refine lv_iload_n hx hb d_m_spots_23 rfl (lv_at hl 3 rfl) ?_
    refine n_iadd hx hb d_m_spots_24 ?_
    refine lv_aload_n hx hb d_m_spots_25 rfl (lv_at hl 0 rfl) ?_
    refine n_get (C := R_Model) (T := F_Model) (N := 24) (v := .ref a14) hx hb hts u_Model_in hown hK hP 0 rfl rfl 14 (by decide) kw_790 rfl d_m_spots_26 ?_
    refine lv_iload_n hx hb d_m_spots_29 rfl (lv_at hl 2 rfl) ?_
    refine lv_iload_n hx hb d_m_spots_30 rfl (lv_at hl 3 rfl) ?_
    refine n_iadd hx hb d_m_spots_31 ?_
    refine n_iald hx hb hK hP 3 0 rfl rfl (by omega) (by decide) d_m_spots_32 ?_
    refine n_iast hx hb hK hP hD hS 1 0 rfl rfl (ix72 hx0 (by omega) (by omega)) (by decide) d_m_spots_33 (fun H locs hP hD hS => ?_)
    have hP : va_P D classes [(h, .inr (8, [.int (nI i0), .int (nI i1), .ref a2, .ref a3, .ref a4, .ref a5, .ref a6, .ref a7, .ref a8, .int (nI i9), .ref a10, .ref a11, .ref a12, .ref a13, .ref a14, .ref a15, .int (nI i16), .int (nI i17), .ref a18, .int (nI i19), .ref a20, .ref a21, .int (nI i22), .ref a23])), (a12, .inl (cI, 72, .inl (fun j => nI ((va_up (hkJ (hkI sy yd x r) yd x r k) (((x + 1) * r) + k) (yd (r + k))) j)))), (a13, .inl (cI, 8, .inl (fun j => nI (sl j)))), (a14, .inl (cI, 17, .inl (fun j => nI (yd j)))), (a15, .inl (cI, 8, .inl (fun j => nI (sp j))))] H := hP
    have hD : va_D A [(h, .inr (8, [.int (nI i0), .int (nI i1), .ref a2, .ref a3, .ref a4, .ref a5, .ref a6, .ref a7, .ref a8, .int (nI i9), .ref a10, .ref a11, .ref a12, .ref a13, .ref a14, .ref a15, .int (nI i16), .int (nI i17), .ref a18, .int (nI i19), .ref a20, .ref a21, .int (nI i22), .ref a23])), (a12, .inl (cI, 72, .inl (fun j => nI ((va_up (hkJ (hkI sy yd x r) yd x r k) (((x + 1) * r) + k) (yd (r + k))) j)))), (a13, .inl (cI, 8, .inl (fun j => nI (sl j)))), (a14, .inl (cI, 17, .inl (fun j => nI (yd j)))), (a15, .inl (cI, 8, .inl (fun j => nI (sp j))))] := hD
    rw [show va_up (hkJ (hkI sy yd x r) yd x r k) (((x + 1) * r) + k) (yd (r + k)) = hkJ (hkI sy yd x r) yd x r (k + 1) from rfl] at hP hD
    refine lv_iinc (k := 3) (v := nI (k + 1)) hx hb d_m_spots_34 hl rfl (nx_inc k 1) (Nat.le_of_ble_eq_true rfl) rfl (fun ls hl => ?_)
    have hl : lv_has ls 7 [(3, .int (nI (k + 1))), (0, .ref h), (1, .int (nI x)), (2, .int (nI r))] := hl
    refine lv_goto hx hb d_m_spots_37 (tgt := 9) rfl ?_
    exact ih (by omega) ls H locs (lv_sub hl [1, 2, 3, 0] rfl) hP hD hS
set_option maxHeartbeats 1000000 in
set_option maxRecDepth 100000 in
theorem lp_m_spots_ok_2 (cI cC : ClassId) (h i0 i1 a2 a3 a4 a5 a6 a7 a8 i9 a10 a11 a12 a13 a14 a15 i16 i17 a18 i19 a20 a21 i22 a23 : Nat) (sy sl yd sp : Nat → Nat) (x : Nat) (hx0 : x ≤ 8) (hsy : lt256 72 sy) (hyd : lt256 17 yd) (hpv : ∀ d, d < x → (pvW (slI (hkI sy yd x x) x d) x d (x - d) d) < x) (hrt : ∀ q, q ≤ 26 → spC (soL sl (slI (hkI sy yd x x) x x) x x) x q ≤ 8) (S : CallFix p m c b_m_spots 7 s args (cd_m_spots :: WS) R_Model) (hRf : 3 ≤ R.frames) (hRl : 73 ≤ R.locals) (hRc : cells ≤ R.cells ∧ slots ≤ R.slots) (hK : va_K D classes [(cI, .int), (cC, .char)] s) (hA : ∀ q, H0.size ≤ q → A q) (kx : ∀ (ls : Array Slot) (H : Heap) (locs : List Loc), lv_has ls 7 [(0, .ref h), (1, .int (nI x)), (2, .int (nI x))] → va_P D classes [(h, .inr (8, [.int (nI i0), .int (nI i1), .ref a2, .ref a3, .ref a4, .ref a5, .ref a6, .ref a7, .ref a8, .int (nI i9), .ref a10, .ref a11, .ref a12, .ref a13, .ref a14, .ref a15, .int (nI i16), .int (nI i17), .ref a18, .int (nI i19), .ref a20, .ref a21, .int (nI i22), .ref a23])), (a12, .inl (cI, 72, .inl (fun j => nI ((hkI sy yd x x) j)))), (a13, .inl (cI, 8, .inl (fun j => nI (sl j)))), (a14, .inl (cI, 17, .inl (fun j => nI (yd j)))), (a15, .inl (cI, 8, .inl (fun j => nI (sp j))))] H → va_D A [(h, .inr (8, [.int (nI i0), .int (nI i1), .ref a2, .ref a3, .ref a4, .ref a5, .ref a6, .ref a7, .ref a8, .int (nI i9), .ref a10, .ref a11, .ref a12, .ref a13, .ref a14, .ref a15, .int (nI i16), .int (nI i17), .ref a18, .int (nI i19), .ref a20, .ref a21, .int (nI i22), .ref a23])), (a12, .inl (cI, 72, .inl (fun j => nI ((hkI sy yd x x) j)))), (a13, .inl (cI, 8, .inl (fun j => nI (sl j)))), (a14, .inl (cI, 17, .inl (fun j => nI (yd j)))), (a15, .inl (cI, 8, .inl (fun j => nI (sp j))))] → va_S A H0 H locs → W p l e R s m args below meth c H locs cells slots Q (F0 m 46 ls [])) :
    ∀ r, r ≤ x → ∀ (ls : Array Slot) (H : Heap) (locs : List Loc), lv_has ls 7 [(0, .ref h), (1, .int (nI x)), (2, .int (nI r))] → va_P D classes [(h, .inr (8, [.int (nI i0), .int (nI i1), .ref a2, .ref a3, .ref a4, .ref a5, .ref a6, .ref a7, .ref a8, .int (nI i9), .ref a10, .ref a11, .ref a12, .ref a13, .ref a14, .ref a15, .int (nI i16), .int (nI i17), .ref a18, .int (nI i19), .ref a20, .ref a21, .int (nI i22), .ref a23])), (a12, .inl (cI, 72, .inl (fun j => nI ((hkI sy yd x r) j)))), (a13, .inl (cI, 8, .inl (fun j => nI (sl j)))), (a14, .inl (cI, 17, .inl (fun j => nI (yd j)))), (a15, .inl (cI, 8, .inl (fun j => nI (sp j))))] H → va_D A [(h, .inr (8, [.int (nI i0), .int (nI i1), .ref a2, .ref a3, .ref a4, .ref a5, .ref a6, .ref a7, .ref a8, .int (nI i9), .ref a10, .ref a11, .ref a12, .ref a13, .ref a14, .ref a15, .int (nI i16), .int (nI i17), .ref a18, .int (nI i19), .ref a20, .ref a21, .int (nI i22), .ref a23])), (a12, .inl (cI, 72, .inl (fun j => nI ((hkI sy yd x r) j)))), (a13, .inl (cI, 8, .inl (fun j => nI (sl j)))), (a14, .inl (cI, 17, .inl (fun j => nI (yd j)))), (a15, .inl (cI, 8, .inl (fun j => nI (sp j))))] → va_S A H0 H locs → W p l e R s m args below meth c H locs cells slots Q (F0 m 2 ls []) := by
  obtain ⟨hx, hb, hml, hown, hts⟩ := id S
  refine up_loop (fun r hkr ih => ?_)
  intro ls H locs hl hP hD hS
  refine lv_iload_n hx hb d_m_spots_2 rfl (lv_at hl 2 rfl) ?_
  refine lv_iload_n hx hb d_m_spots_3 rfl (lv_at hl 1 rfl) ?_
  refine n_icmp_ge hx hb d_m_spots_4 (tgt := 46) rfl (by omega) (by omega) (fun g4 => ?_) (fun g4 => ?_)
  · skip
    obtain rfl : r = x := by omega
    exact kx ls H locs (lv_sub hl [0, 1, 2] rfl) hP hD hS
  · skip
    refine lv_iconst (v := nI 0) hx hb d_m_spots_7 (by decide) ?_
    refine lv_istore_n hx hb d_m_spots_8 rfl hl (Nat.le_of_ble_eq_true rfl) rfl (fun ls hl => ?_)
    have hl : lv_has ls 7 [(3, .int (nI 0)), (0, .ref h), (1, .int (nI x)), (2, .int (nI r))] := hl
    refine lp_m_spots_ok_9 cI cC h i0 i1 a2 a3 a4 a5 a6 a7 a8 i9 a10 a11 a12 a13 a14 a15 i16 i17 a18 i19 a20 a21 i22 a23 sy sl yd sp x hx0 hsy hyd hpv hrt S hRf hRl hRc hK hA r (by omega) (fun ls H locs hl hP hD hS => ?_) 0 (by omega) ls H locs (lv_sub hl [1, 2, 3, 0] rfl) hP hD hS
    refine lv_iinc (k := 2) (v := nI (r + 1)) hx hb d_m_spots_40 hl rfl (nx_inc r 1) (Nat.le_of_ble_eq_true rfl) rfl (fun ls hl => ?_)
    have hl : lv_has ls 7 [(2, .int (nI (r + 1))), (0, .ref h), (1, .int (nI x)), (3, .int (nI (x + 1)))] := hl
    refine lv_goto hx hb d_m_spots_43 (tgt := 2) rfl ?_
    rw [show hkJ (hkI sy yd x r) yd x r (x + 1) = hkI sy yd x (r + 1) from rfl] at hP hD
    exact ih (by omega) ls H locs (lv_sub hl [1, 2, 0] rfl) hP hD hS
set_option maxHeartbeats 1000000 in
set_option maxRecDepth 100000 in
theorem lp_m_spots_ok_80 (cI cC : ClassId) (h i0 i1 a2 a3 a4 a5 a6 a7 a8 i9 a10 a11 a12 a13 a14 a15 i16 i17 a18 i19 a20 a21 i22 a23 : Nat) (sy sl yd sp : Nat → Nat) (x : Nat) (hx0 : x ≤ 8) (hsy : lt256 72 sy) (hyd : lt256 17 yd) (hpv : ∀ d, d < x → (pvW (slI (hkI sy yd x x) x d) x d (x - d) d) < x) (hrt : ∀ q, q ≤ 26 → spC (soL sl (slI (hkI sy yd x x) x x) x x) x q ≤ 8) (S : CallFix p m c b_m_spots 7 s args (cd_m_spots :: WS) R_Model) (hRf : 3 ≤ R.frames) (hRl : 73 ≤ R.locals) (hRc : cells ≤ R.cells ∧ slots ≤ R.slots) (hK : va_K D classes [(cI, .int), (cC, .char)] s) (hA : ∀ q, H0.size ≤ q → A q) (q : Nat) (hq : q < 26) (kx : ∀ (ls : Array Slot) (H : Heap) (locs : List Loc), lv_has ls 7 [(0, .ref h), (1, .int (nI x)), (2, .int (nI (spC (soL sl (slI (hkI sy yd x x) x x) x x) x q))), (3, .int (nI q)), (4, .int (nI (pw q))), (5, .int (nI (hvS (soL sl (slI (hkI sy yd x x) x x) x x) (pw q) x x))), (6, .int (-1))] → va_P D classes [(h, .inr (8, [.int (nI i0), .int (nI i1), .ref a2, .ref a3, .ref a4, .ref a5, .ref a6, .ref a7, .ref a8, .int (nI i9), .ref a10, .ref a11, .ref a12, .ref a13, .ref a14, .ref a15, .int (nI i16), .int (nI i17), .ref a18, .int (nI i19), .ref a20, .ref a21, .int (nI i22), .ref a23])), (a12, .inl (cI, 72, .inl (fun j => nI ((slI (hkI sy yd x x) x x) j)))), (a13, .inl (cI, 8, .inl (fun j => nI ((soL sl (slI (hkI sy yd x x) x x) x x) j)))), (a14, .inl (cI, 17, .inl (fun j => nI (yd j)))), (a15, .inl (cI, 8, .inl (fun j => nI ((spA sp (soL sl (slI (hkI sy yd x x) x x) x x) x q) j))))] H → va_D A [(h, .inr (8, [.int (nI i0), .int (nI i1), .ref a2, .ref a3, .ref a4, .ref a5, .ref a6, .ref a7, .ref a8, .int (nI i9), .ref a10, .ref a11, .ref a12, .ref a13, .ref a14, .ref a15, .int (nI i16), .int (nI i17), .ref a18, .int (nI i19), .ref a20, .ref a21, .int (nI i22), .ref a23])), (a12, .inl (cI, 72, .inl (fun j => nI ((slI (hkI sy yd x x) x x) j)))), (a13, .inl (cI, 8, .inl (fun j => nI ((soL sl (slI (hkI sy yd x x) x x) x x) j)))), (a14, .inl (cI, 17, .inl (fun j => nI (yd j)))), (a15, .inl (cI, 8, .inl (fun j => nI ((spA sp (soL sl (slI (hkI sy yd x x) x x) x x) x q) j))))] → va_S A H0 H locs → W p l e R s m args below meth c H locs cells slots Q (F0 m 108 ls [])) :
    ∀ i, i ≤ x → ∀ (ls : Array Slot) (H : Heap) (locs : List Loc), lv_has ls 7 [(0, .ref h), (1, .int (nI x)), (2, .int (nI (spC (soL sl (slI (hkI sy yd x x) x x) x x) x q))), (3, .int (nI q)), (4, .int (nI (pw q))), (5, .int (nI (hvS (soL sl (slI (hkI sy yd x x) x x) x x) (pw q) x i))), (6, .int (nI (x - i) - 1))] → va_P D classes [(h, .inr (8, [.int (nI i0), .int (nI i1), .ref a2, .ref a3, .ref a4, .ref a5, .ref a6, .ref a7, .ref a8, .int (nI i9), .ref a10, .ref a11, .ref a12, .ref a13, .ref a14, .ref a15, .int (nI i16), .int (nI i17), .ref a18, .int (nI i19), .ref a20, .ref a21, .int (nI i22), .ref a23])), (a12, .inl (cI, 72, .inl (fun j => nI ((slI (hkI sy yd x x) x x) j)))), (a13, .inl (cI, 8, .inl (fun j => nI ((soL sl (slI (hkI sy yd x x) x x) x x) j)))), (a14, .inl (cI, 17, .inl (fun j => nI (yd j)))), (a15, .inl (cI, 8, .inl (fun j => nI ((spA sp (soL sl (slI (hkI sy yd x x) x x) x x) x q) j))))] H → va_D A [(h, .inr (8, [.int (nI i0), .int (nI i1), .ref a2, .ref a3, .ref a4, .ref a5, .ref a6, .ref a7, .ref a8, .int (nI i9), .ref a10, .ref a11, .ref a12, .ref a13, .ref a14, .ref a15, .int (nI i16), .int (nI i17), .ref a18, .int (nI i19), .ref a20, .ref a21, .int (nI i22), .ref a23])), (a12, .inl (cI, 72, .inl (fun j => nI ((slI (hkI sy yd x x) x x) j)))), (a13, .inl (cI, 8, .inl (fun j => nI ((soL sl (slI (hkI sy yd x x) x x) x x) j)))), (a14, .inl (cI, 17, .inl (fun j => nI (yd j)))), (a15, .inl (cI, 8, .inl (fun j => nI ((spA sp (soL sl (slI (hkI sy yd x x) x x) x x) x q) j))))] → va_S A H0 H locs → W p l e R s m args below meth c H locs cells slots Q (F0 m 80 ls []) := by
  obtain ⟨hx, hb, hml, hown, hts⟩ := id S
  refine up_loop (fun i hki ih => ?_)
  intro ls H locs hl hP hD hS
  have hp := pw_lt q
  have hso := soL_lt (so := sl) hx0 (slI_lt hx0 (hkI_lt (x := x) (sy := sy) hx0 hsy hyd x (by omega)) x (by omega) (fun d9 h9 => hpv d9 (by omega)))
  have hv := hvS_lt hso (pw_lt q) i (by omega)
  rcases Nat.lt_or_ge i x with hdn | hdn
  · skip
    have hl : lv_has ls 7 [(0, .ref h), (1, .int (nI x)), (2, .int (nI (spC (soL sl (slI (hkI sy yd x x) x x) x x) x q))), (3, .int (nI q)), (4, .int (nI (pw q))), (5, .int (nI (hvS (soL sl (slI (hkI sy yd x x) x x) x x) (pw q) x i))), (6, .int (nI (x - (i + 1))))] := lv_re hl (by rw [nx_dn hdn])
    refine lv_iload hx hb d_m_spots_80 (lv_at hl 6 rfl) ?_
    refine n_if_lt hx hb d_m_spots_82 (tgt := 108) rfl (by omega) ?_
    refine lv_iload hx hb d_m_spots_85 (lv_at hl 5 rfl) ?_
    refine lv_iload hx hb d_m_spots_87 (lv_at hl 4 rfl) ?_
    refine q_pureS (n := 2) (As := [.int (nI (hvS (soL sl (slI (hkI sy yd x x) x x) x x) (pw q) x i)), .int (nI (pw q))]) (rest := []) S (c_m_times l (hvS (soL sl (slI (hkI sy yd x x) x x) x x) (pw q) x i) (pw q) (by omega) (by omega)) (q_goodS kw_890 kw_891 kw_10 kw_892) (by decide +kernel) rfl rfl ⟨Nat.le_trans (Nat.le_of_ble_eq_true rfl) hRf, Nat.le_trans (Nat.le_of_ble_eq_true rfl) hRl⟩ rfl hl.1 rfl (Nat.le_of_ble_eq_true rfl) d_m_spots_89 hRc hS (fun H locs hkp hS => ?_)
    replace hP := hP.kept (fun k q hq => hkp q.1 (hP k q hq).lt)
    refine lv_aload_n hx hb d_m_spots_92 rfl (lv_at hl 0 rfl) ?_
    refine n_get (C := R_Model) (T := F_Model) (N := 24) (v := .ref a13) hx hb hts u_Model_in hown hK hP 0 rfl rfl 13 (by decide) kw_789 rfl d_m_spots_93 ?_
    refine lv_iload hx hb d_m_spots_96 (lv_at hl 6 rfl) ?_
    refine n_iald hx hb hK hP 2 0 rfl rfl (by omega) (by decide) d_m_spots_98 ?_
    refine n_ixor hx hb d_m_spots_99 ?_
    refine n_topn (show (gm (hvS (soL sl (slI (hkI sy yd x x) x x) x x) (pw q) x i) (pw q)) ^^^ ((soL sl (slI (hkI sy yd x x) x x) x x) (x - (i + 1))) = hvS (soL sl (slI (hkI sy yd x x) x x) x x) (pw q) x (i + 1) from rfl) ?_
    refine lv_istore hx hb d_m_spots_100 hl (Nat.le_of_ble_eq_true rfl) rfl (fun ls hl => ?_)
    have hl : lv_has ls 7 [(5, .int (nI (hvS (soL sl (slI (hkI sy yd x x) x x) x x) (pw q) x (i + 1)))), (0, .ref h), (1, .int (nI x)), (2, .int (nI (spC (soL sl (slI (hkI sy yd x x) x x) x x) x q))), (3, .int (nI q)), (4, .int (nI (pw q))), (6, .int (nI (x - (i + 1))))] := hl
    refine lv_iinc (k := 6) (v := nI (x - (i + 1)) - 1) hx hb d_m_spots_102 hl rfl (nx_dec (x - (i + 1))) (Nat.le_of_ble_eq_true rfl) rfl (fun ls hl => ?_)
    have hl : lv_has ls 7 [(6, .int (nI (x - (i + 1)) - 1)), (5, .int (nI (hvS (soL sl (slI (hkI sy yd x x) x x) x x) (pw q) x (i + 1)))), (0, .ref h), (1, .int (nI x)), (2, .int (nI (spC (soL sl (slI (hkI sy yd x x) x x) x x) x q))), (3, .int (nI q)), (4, .int (nI (pw q)))] := hl
    refine lv_goto hx hb d_m_spots_105 (tgt := 80) rfl ?_
    exact ih (by omega) ls H locs (lv_sub hl [2, 3, 4, 5, 6, 1, 0] rfl) hP hD hS
  · skip
    have e9 : i = x := by omega
    have hl : lv_has ls 7 [(0, .ref h), (1, .int (nI x)), (2, .int (nI (spC (soL sl (slI (hkI sy yd x x) x x) x x) x q))), (3, .int (nI q)), (4, .int (nI (pw q))), (5, .int (nI (hvS (soL sl (slI (hkI sy yd x x) x x) x x) (pw q) x x))), (6, .int (-1))] := lv_re hl (by rw [e9, nx_dn0])
    refine lv_iload hx hb d_m_spots_80 (lv_at hl 6 rfl) ?_
    refine n_dn_lt hx hb d_m_spots_82 (tgt := 108) rfl ?_
    exact kx ls H locs (lv_sub hl [0, 1, 2, 3, 4, 5, 6] rfl) hP hD hS
set_option maxHeartbeats 1000000 in
set_option maxRecDepth 100000 in
theorem lp_m_spots_ok_60 (cI cC : ClassId) (h i0 i1 a2 a3 a4 a5 a6 a7 a8 i9 a10 a11 a12 a13 a14 a15 i16 i17 a18 i19 a20 a21 i22 a23 : Nat) (sy sl yd sp : Nat → Nat) (x : Nat) (hx0 : x ≤ 8) (hsy : lt256 72 sy) (hyd : lt256 17 yd) (hpv : ∀ d, d < x → (pvW (slI (hkI sy yd x x) x d) x d (x - d) d) < x) (hrt : ∀ q, q ≤ 26 → spC (soL sl (slI (hkI sy yd x x) x x) x x) x q ≤ 8) (S : CallFix p m c b_m_spots 7 s args (cd_m_spots :: WS) R_Model) (hRf : 3 ≤ R.frames) (hRl : 73 ≤ R.locals) (hRc : cells ≤ R.cells ∧ slots ≤ R.slots) (hK : va_K D classes [(cI, .int), (cC, .char)] s) (hA : ∀ q, H0.size ≤ q → A q) (kx : ∀ (ls : Array Slot) (H : Heap) (locs : List Loc), lv_has ls 7 [(0, .ref h), (1, .int (nI x)), (2, .int (nI (spC (soL sl (slI (hkI sy yd x x) x x) x x) x 26))), (3, .int (nI 26))] → va_P D classes [(h, .inr (8, [.int (nI i0), .int (nI i1), .ref a2, .ref a3, .ref a4, .ref a5, .ref a6, .ref a7, .ref a8, .int (nI i9), .ref a10, .ref a11, .ref a12, .ref a13, .ref a14, .ref a15, .int (nI i16), .int (nI i17), .ref a18, .int (nI i19), .ref a20, .ref a21, .int (nI i22), .ref a23])), (a12, .inl (cI, 72, .inl (fun j => nI ((slI (hkI sy yd x x) x x) j)))), (a13, .inl (cI, 8, .inl (fun j => nI ((soL sl (slI (hkI sy yd x x) x x) x x) j)))), (a14, .inl (cI, 17, .inl (fun j => nI (yd j)))), (a15, .inl (cI, 8, .inl (fun j => nI ((spA sp (soL sl (slI (hkI sy yd x x) x x) x x) x 26) j))))] H → va_D A [(h, .inr (8, [.int (nI i0), .int (nI i1), .ref a2, .ref a3, .ref a4, .ref a5, .ref a6, .ref a7, .ref a8, .int (nI i9), .ref a10, .ref a11, .ref a12, .ref a13, .ref a14, .ref a15, .int (nI i16), .int (nI i17), .ref a18, .int (nI i19), .ref a20, .ref a21, .int (nI i22), .ref a23])), (a12, .inl (cI, 72, .inl (fun j => nI ((slI (hkI sy yd x x) x x) j)))), (a13, .inl (cI, 8, .inl (fun j => nI ((soL sl (slI (hkI sy yd x x) x x) x x) j)))), (a14, .inl (cI, 17, .inl (fun j => nI (yd j)))), (a15, .inl (cI, 8, .inl (fun j => nI ((spA sp (soL sl (slI (hkI sy yd x x) x x) x x) x 26) j))))] → va_S A H0 H locs → W p l e R s m args below meth c H locs cells slots Q (F0 m 129 ls [])) :
    ∀ q, q ≤ 26 → ∀ (ls : Array Slot) (H : Heap) (locs : List Loc), lv_has ls 7 [(0, .ref h), (1, .int (nI x)), (2, .int (nI (spC (soL sl (slI (hkI sy yd x x) x x) x x) x q))), (3, .int (nI q))] → va_P D classes [(h, .inr (8, [.int (nI i0), .int (nI i1), .ref a2, .ref a3, .ref a4, .ref a5, .ref a6, .ref a7, .ref a8, .int (nI i9), .ref a10, .ref a11, .ref a12, .ref a13, .ref a14, .ref a15, .int (nI i16), .int (nI i17), .ref a18, .int (nI i19), .ref a20, .ref a21, .int (nI i22), .ref a23])), (a12, .inl (cI, 72, .inl (fun j => nI ((slI (hkI sy yd x x) x x) j)))), (a13, .inl (cI, 8, .inl (fun j => nI ((soL sl (slI (hkI sy yd x x) x x) x x) j)))), (a14, .inl (cI, 17, .inl (fun j => nI (yd j)))), (a15, .inl (cI, 8, .inl (fun j => nI ((spA sp (soL sl (slI (hkI sy yd x x) x x) x x) x q) j))))] H → va_D A [(h, .inr (8, [.int (nI i0), .int (nI i1), .ref a2, .ref a3, .ref a4, .ref a5, .ref a6, .ref a7, .ref a8, .int (nI i9), .ref a10, .ref a11, .ref a12, .ref a13, .ref a14, .ref a15, .int (nI i16), .int (nI i17), .ref a18, .int (nI i19), .ref a20, .ref a21, .int (nI i22), .ref a23])), (a12, .inl (cI, 72, .inl (fun j => nI ((slI (hkI sy yd x x) x x) j)))), (a13, .inl (cI, 8, .inl (fun j => nI ((soL sl (slI (hkI sy yd x x) x x) x x) j)))), (a14, .inl (cI, 17, .inl (fun j => nI (yd j)))), (a15, .inl (cI, 8, .inl (fun j => nI ((spA sp (soL sl (slI (hkI sy yd x x) x x) x x) x q) j))))] → va_S A H0 H locs → W p l e R s m args below meth c H locs cells slots Q (F0 m 60 ls []) := by
  obtain ⟨hx, hb, hml, hown, hts⟩ := id S
  refine up_loop (fun q hkq ih => ?_)
  intro ls H locs hl hP hD hS
  have hso := soL_lt (so := sl) hx0 (slI_lt hx0 (hkI_lt (x := x) (sy := sy) hx0 hsy hyd x (by omega)) x (by omega) (fun d9 h9 => hpv d9 (by omega)))
  have hq9 := hrt q (by omega)
  refine lv_iload_n hx hb d_m_spots_60 rfl (lv_at hl 3 rfl) ?_
  refine lv_bipush (v := nI 26) hx hb d_m_spots_61 (by decide) ?_
  refine n_icmp_ge hx hb d_m_spots_63 (tgt := 129) rfl (by omega) (by omega) (fun g63 => ?_) (fun g63 => ?_)
  · skip
    obtain rfl : q = 26 := by omega
    exact kx ls H locs (lv_sub hl [0, 1, 2, 3] rfl) hP hD hS
  · skip
    refine lv_iload_n hx hb d_m_spots_66 rfl (lv_at hl 3 rfl) ?_
    refine q_pureS (n := 1) (As := [.int (nI q)]) (rest := []) S (c_m_power l q (by omega)) (q_goodS kw_887 kw_888 kw_10 kw_889) (by decide +kernel) rfl rfl ⟨Nat.le_trans (Nat.le_of_ble_eq_true rfl) hRf, Nat.le_trans (Nat.le_of_ble_eq_true rfl) hRl⟩ rfl hl.1 rfl (Nat.le_of_ble_eq_true rfl) d_m_spots_67 hRc hS (fun H locs hkp hS => ?_)
    replace hP := hP.kept (fun k q hq => hkp q.1 (hP k q hq).lt)
    refine lv_istore hx hb d_m_spots_70 hl (Nat.le_of_ble_eq_true rfl) rfl (fun ls hl => ?_)
    have hl : lv_has ls 7 [(4, .int (nI (pw q))), (0, .ref h), (1, .int (nI x)), (2, .int (nI (spC (soL sl (slI (hkI sy yd x x) x x) x x) x q))), (3, .int (nI q))] := hl
    refine lv_iconst (v := nI 1) hx hb d_m_spots_72 (by decide) ?_
    refine lv_istore hx hb d_m_spots_73 hl (Nat.le_of_ble_eq_true rfl) rfl (fun ls hl => ?_)
    have hl : lv_has ls 7 [(5, .int (nI 1)), (4, .int (nI (pw q))), (0, .ref h), (1, .int (nI x)), (2, .int (nI (spC (soL sl (slI (hkI sy yd x x) x x) x x) x q))), (3, .int (nI q))] := hl
    refine lv_iload_n hx hb d_m_spots_75 rfl (lv_at hl 3 rfl) ?_
    refine lv_iconst (v := nI 1) hx hb d_m_spots_76 (by decide) ?_
    refine lv_isub hx hb d_m_spots_77 ?_
    refine n_top (show nI x - nI 1 = nI (x - 0) - 1 from nx_sub1 _) ?_
    refine lv_istore hx hb d_m_spots_78 hl (Nat.le_of_ble_eq_true rfl) rfl (fun ls hl => ?_)
    have hl : lv_has ls 7 [(6, .int (nI (x - 0) - 1)), (5, .int (nI 1)), (4, .int (nI (pw q))), (0, .ref h), (1, .int (nI x)), (2, .int (nI (spC (soL sl (slI (hkI sy yd x x) x x) x x) x q))), (3, .int (nI q))] := hl
    refine lp_m_spots_ok_80 cI cC h i0 i1 a2 a3 a4 a5 a6 a7 a8 i9 a10 a11 a12 a13 a14 a15 i16 i17 a18 i19 a20 a21 i22 a23 sy sl yd sp x hx0 hsy hyd hpv hrt S hRf hRl hRc hK hA q (by omega) (fun ls H locs hl hP hD hS => ?_) 0 (by omega) ls H locs (lv_sub hl [3, 4, 5, 6, 2, 1, 0] rfl) hP hD hS
    have hv := hvS_lt hso (pw_lt q) x (by omega)
    refine lv_iload hx hb d_m_spots_108 (lv_at hl 5 rfl) ?_
    refine n_if_ne hx hb d_m_spots_110 (tgt := 123) rfl (by omega) (fun g110 => ?_) (fun g110 => ?_)
    · skip
      refine lv_iinc (k := 3) (v := nI (q + 1)) hx hb d_m_spots_123 hl rfl (nx_inc q 1) (Nat.le_of_ble_eq_true rfl) rfl (fun ls hl => ?_)
      have hl : lv_has ls 7 [(3, .int (nI (q + 1))), (0, .ref h), (1, .int (nI x)), (2, .int (nI (spC (soL sl (slI (hkI sy yd x x) x x) x x) x q))), (4, .int (nI (pw q))), (5, .int (nI (hvS (soL sl (slI (hkI sy yd x x) x x) x x) (pw q) x x))), (6, .int (-1))] := hl
      refine lv_goto hx hb d_m_spots_126 (tgt := 60) rfl ?_
      have qb2 : spC (soL sl (slI (hkI sy yd x x) x x) x x) x q = spC (soL sl (slI (hkI sy yd x x) x x) x x) x (q + 1) := (spC_f g110).symm
      rw [show spA sp (soL sl (slI (hkI sy yd x x) x x) x x) x q = spA sp (soL sl (slI (hkI sy yd x x) x x) x x) x (q + 1) from (spA_f g110).symm] at hP hD
      exact ih (by omega) ls H locs (lv_re (l := [(0, .ref h), (1, .int (nI x)), (2, .int (nI (spC (soL sl (slI (hkI sy yd x x) x x) x x) x q))), (3, .int (nI (q + 1)))]) (lv_sub hl [1, 2, 3, 0] rfl) (by rw [qb2])) hP hD hS
    · skip
      have hq8 := hrt (q + 1) (by omega)
      rw [spC_t g110] at hq8
      refine lv_aload_n hx hb d_m_spots_113 rfl (lv_at hl 0 rfl) ?_
      refine n_get (C := R_Model) (T := F_Model) (N := 24) (v := .ref a15) hx hb hts u_Model_in hown hK hP 0 rfl rfl 15 (by decide) kw_791 rfl d_m_spots_114 ?_
      refine lv_iload_n hx hb d_m_spots_117 rfl (lv_at hl 2 rfl) ?_
      refine lv_iload_n hx hb d_m_spots_118 rfl (lv_at hl 3 rfl) ?_
      refine n_iast hx hb hK hP hD hS 4 0 rfl rfl (by omega) (by decide) d_m_spots_119 (fun H locs hP hD hS => ?_)
      have hP : va_P D classes [(h, .inr (8, [.int (nI i0), .int (nI i1), .ref a2, .ref a3, .ref a4, .ref a5, .ref a6, .ref a7, .ref a8, .int (nI i9), .ref a10, .ref a11, .ref a12, .ref a13, .ref a14, .ref a15, .int (nI i16), .int (nI i17), .ref a18, .int (nI i19), .ref a20, .ref a21, .int (nI i22), .ref a23])), (a12, .inl (cI, 72, .inl (fun j => nI ((slI (hkI sy yd x x) x x) j)))), (a13, .inl (cI, 8, .inl (fun j => nI ((soL sl (slI (hkI sy yd x x) x x) x x) j)))), (a14, .inl (cI, 17, .inl (fun j => nI (yd j)))), (a15, .inl (cI, 8, .inl (fun j => nI ((va_up (spA sp (soL sl (slI (hkI sy yd x x) x x) x x) x q) (spC (soL sl (slI (hkI sy yd x x) x x) x x) x q) q) j))))] H := hP
      have hD : va_D A [(h, .inr (8, [.int (nI i0), .int (nI i1), .ref a2, .ref a3, .ref a4, .ref a5, .ref a6, .ref a7, .ref a8, .int (nI i9), .ref a10, .ref a11, .ref a12, .ref a13, .ref a14, .ref a15, .int (nI i16), .int (nI i17), .ref a18, .int (nI i19), .ref a20, .ref a21, .int (nI i22), .ref a23])), (a12, .inl (cI, 72, .inl (fun j => nI ((slI (hkI sy yd x x) x x) j)))), (a13, .inl (cI, 8, .inl (fun j => nI ((soL sl (slI (hkI sy yd x x) x x) x x) j)))), (a14, .inl (cI, 17, .inl (fun j => nI (yd j)))), (a15, .inl (cI, 8, .inl (fun j => nI ((va_up (spA sp (soL sl (slI (hkI sy yd x x) x x) x x) x q) (spC (soL sl (slI (hkI sy yd x x) x x) x x) x q) q) j))))] := hD
      rw [show va_up (spA sp (soL sl (slI (hkI sy yd x x) x x) x x) x q) (spC (soL sl (slI (hkI sy yd x x) x x) x x) x q) q = spA sp (soL sl (slI (hkI sy yd x x) x x) x x) x (q + 1) from (spA_t g110).symm] at hP hD
      refine lv_iinc (k := 2) (v := nI (spC (soL sl (slI (hkI sy yd x x) x x) x x) x (q + 1))) hx hb d_m_spots_120 hl rfl ((nx_inc (spC (soL sl (slI (hkI sy yd x x) x x) x x) x q) 1).trans (congrArg nI (spC_t g110).symm)) (Nat.le_of_ble_eq_true rfl) rfl (fun ls hl => ?_)
      have hl : lv_has ls 7 [(2, .int (nI (spC (soL sl (slI (hkI sy yd x x) x x) x x) x (q + 1)))), (0, .ref h), (1, .int (nI x)), (3, .int (nI q)), (4, .int (nI (pw q))), (5, .int (nI (hvS (soL sl (slI (hkI sy yd x x) x x) x x) (pw q) x x))), (6, .int (-1))] := hl
      refine lv_iinc (k := 3) (v := nI (q + 1)) hx hb d_m_spots_123 hl rfl (nx_inc q 1) (Nat.le_of_ble_eq_true rfl) rfl (fun ls hl => ?_)
      have hl : lv_has ls 7 [(3, .int (nI (q + 1))), (2, .int (nI (spC (soL sl (slI (hkI sy yd x x) x x) x x) x (q + 1)))), (0, .ref h), (1, .int (nI x)), (4, .int (nI (pw q))), (5, .int (nI (hvS (soL sl (slI (hkI sy yd x x) x x) x x) (pw q) x x))), (6, .int (-1))] := hl
      refine lv_goto hx hb d_m_spots_126 (tgt := 60) rfl ?_
      exact ih (by omega) ls H locs (lv_sub hl [2, 3, 1, 0] rfl) hP hD hS
set_option maxHeartbeats 1000000 in
set_option maxRecDepth 100000 in
theorem bd_m_spots_ok (cI cC : ClassId) (h i0 i1 a2 a3 a4 a5 a6 a7 a8 i9 a10 a11 a12 a13 a14 a15 i16 i17 a18 i19 a20 a21 i22 a23 : Nat) (sy sl yd sp : Nat → Nat) (x : Nat) (hx0 : x ≤ 8) (hsy : lt256 72 sy) (hyd : lt256 17 yd) (hpv : ∀ d, d < x → (pvW (slI (hkI sy yd x x) x d) x d (x - d) d) < x) (hrt : ∀ q, q ≤ 26 → spC (soL sl (slI (hkI sy yd x x) x x) x x) x q ≤ 8) (S : CallFix p m c b_m_spots 7 s args (cd_m_spots :: WS) R_Model) (hRf : 3 ≤ R.frames) (hRl : 73 ≤ R.locals) (hRc : cells ≤ R.cells ∧ slots ≤ R.slots) (hK : va_K D classes [(cI, .int), (cC, .char)] s) (hA : ∀ q, H0.size ≤ q → A q) (kr : ∀ (pc : Nat) (ls : Array Slot) (H : Heap) (locs : List Loc), decode b_m_spots pc = .ok (.ireturn, 1) → va_P D classes [(h, .inr (8, [.int (nI i0), .int (nI i1), .ref a2, .ref a3, .ref a4, .ref a5, .ref a6, .ref a7, .ref a8, .int (nI i9), .ref a10, .ref a11, .ref a12, .ref a13, .ref a14, .ref a15, .int (nI i16), .int (nI i17), .ref a18, .int (nI i19), .ref a20, .ref a21, .int (nI i22), .ref a23])), (a12, .inl (cI, 72, .inl (fun j => nI ((slI (hkI sy yd x x) x x) j)))), (a13, .inl (cI, 8, .inl (fun j => nI ((soL sl (slI (hkI sy yd x x) x x) x x) j)))), (a14, .inl (cI, 17, .inl (fun j => nI (yd j)))), (a15, .inl (cI, 8, .inl (fun j => nI ((spA sp (soL sl (slI (hkI sy yd x x) x x) x x) x 26) j))))] H → va_D A [(h, .inr (8, [.int (nI i0), .int (nI i1), .ref a2, .ref a3, .ref a4, .ref a5, .ref a6, .ref a7, .ref a8, .int (nI i9), .ref a10, .ref a11, .ref a12, .ref a13, .ref a14, .ref a15, .int (nI i16), .int (nI i17), .ref a18, .int (nI i19), .ref a20, .ref a21, .int (nI i22), .ref a23])), (a12, .inl (cI, 72, .inl (fun j => nI ((slI (hkI sy yd x x) x x) j)))), (a13, .inl (cI, 8, .inl (fun j => nI ((soL sl (slI (hkI sy yd x x) x x) x x) j)))), (a14, .inl (cI, 17, .inl (fun j => nI (yd j)))), (a15, .inl (cI, 8, .inl (fun j => nI ((spA sp (soL sl (slI (hkI sy yd x x) x x) x x) x 26) j))))] → va_S A H0 H locs → W p l e R s m args below meth c H locs cells slots Q (F0 m pc ls [.int (nI (bN (spC (soL sl (slI (hkI sy yd x x) x x) x x) x 26 = x)))])) : ∀ (ls : Array Slot) (H : Heap) (locs : List Loc), lv_has ls 7 [(0, .ref h), (1, .int (nI x))] → va_P D classes [(h, .inr (8, [.int (nI i0), .int (nI i1), .ref a2, .ref a3, .ref a4, .ref a5, .ref a6, .ref a7, .ref a8, .int (nI i9), .ref a10, .ref a11, .ref a12, .ref a13, .ref a14, .ref a15, .int (nI i16), .int (nI i17), .ref a18, .int (nI i19), .ref a20, .ref a21, .int (nI i22), .ref a23])), (a12, .inl (cI, 72, .inl (fun j => nI (sy j)))), (a13, .inl (cI, 8, .inl (fun j => nI (sl j)))), (a14, .inl (cI, 17, .inl (fun j => nI (yd j)))), (a15, .inl (cI, 8, .inl (fun j => nI (sp j))))] H → va_D A [(h, .inr (8, [.int (nI i0), .int (nI i1), .ref a2, .ref a3, .ref a4, .ref a5, .ref a6, .ref a7, .ref a8, .int (nI i9), .ref a10, .ref a11, .ref a12, .ref a13, .ref a14, .ref a15, .int (nI i16), .int (nI i17), .ref a18, .int (nI i19), .ref a20, .ref a21, .int (nI i22), .ref a23])), (a12, .inl (cI, 72, .inl (fun j => nI (sy j)))), (a13, .inl (cI, 8, .inl (fun j => nI (sl j)))), (a14, .inl (cI, 17, .inl (fun j => nI (yd j)))), (a15, .inl (cI, 8, .inl (fun j => nI (sp j))))] → va_S A H0 H locs → W p l e R s m args below meth c H locs cells slots Q (F0 m 0 ls []) := by
  obtain ⟨hx, hb, hml, hown, hts⟩ := id S
  intro ls H locs hl hP hD hS
  refine lv_iconst (v := nI 0) hx hb d_m_spots_0 (by decide) ?_
  refine lv_istore_n hx hb d_m_spots_1 rfl hl (Nat.le_of_ble_eq_true rfl) rfl (fun ls hl => ?_)
  have hl : lv_has ls 7 [(2, .int (nI 0)), (0, .ref h), (1, .int (nI x))] := hl
  refine lp_m_spots_ok_2 cI cC h i0 i1 a2 a3 a4 a5 a6 a7 a8 i9 a10 a11 a12 a13 a14 a15 i16 i17 a18 i19 a20 a21 i22 a23 sy sl yd sp x hx0 hsy hyd hpv hrt S hRf hRl hRc hK hA  (fun ls H locs hl hP hD hS => ?_) 0 (by omega) ls H locs (lv_sub hl [1, 2, 0] rfl) hP hD hS
  have hhk := hkI_lt (x := x) (sy := sy) hx0 hsy hyd x (by omega)
  refine lv_aload_n hx hb d_m_spots_46 rfl (lv_at hl 0 rfl) ?_
  refine lv_iload_n hx hb d_m_spots_47 rfl (lv_at hl 1 rfl) ?_
  refine q_writeVi (n := 1) (As := [.int (nI x)]) (rest := []) (wc := [(h, .inr (8, [.int (nI i0), .int (nI i1), .ref a2, .ref a3, .ref a4, .ref a5, .ref a6, .ref a7, .ref a8, .int (nI i9), .ref a10, .ref a11, .ref a12, .ref a13, .ref a14, .ref a15, .int (nI i16), .int (nI i17), .ref a18, .int (nI i19), .ref a20, .ref a21, .int (nI i22), .ref a23])), (a12, .inl (cI, 72, .inl (fun j => nI ((hkI sy yd x x) j)))), (a13, .inl (cI, 8, .inl (fun j => nI (sl j))))]) (wr := [(a14, .inl (cI, 17, .inl (fun j => nI (yd j)))), (a15, .inl (cI, 8, .inl (fun j => nI (sp j))))]) (w1 := [(h, .inr (8, [.int (nI i0), .int (nI i1), .ref a2, .ref a3, .ref a4, .ref a5, .ref a6, .ref a7, .ref a8, .int (nI i9), .ref a10, .ref a11, .ref a12, .ref a13, .ref a14, .ref a15, .int (nI i16), .int (nI i17), .ref a18, .int (nI i19), .ref a20, .ref a21, .int (nI i22), .ref a23])), (a12, .inl (cI, 72, .inl (fun j => nI ((slI (hkI sy yd x x) x x) j)))), (a13, .inl (cI, 8, .inl (fun j => nI ((soL sl (slI (hkI sy yd x x) x x) x x) j))))]) S (c_m_solve_ok l D cI cC h i0 i1 a2 a3 a4 a5 a6 a7 a8 i9 a10 a11 a12 a13 a14 a15 i16 i17 a18 i19 a20 a21 i22 a23 (hkI sy yd x x) sl x (by omega) hhk hpv H.size) hK hP hD hA (q0 := 0) rfl rfl [0, 1, 2] [3, 4] rfl rfl rfl rfl (by decide) rfl (q_goodV kw_965 kw_967 ks_35 kw_10 kw_968) (by decide +kernel) rfl rfl rfl ⟨Nat.le_trans (Nat.le_of_ble_eq_true rfl) hRf, Nat.le_trans (Nat.le_of_ble_eq_true rfl) hRl⟩ rfl hl.1 rfl (Nat.le_of_ble_eq_true rfl) d_m_spots_48 hRc hS (fun H locs hP hD hS => ?_)
  replace hP : va_P D classes [(h, .inr (8, [.int (nI i0), .int (nI i1), .ref a2, .ref a3, .ref a4, .ref a5, .ref a6, .ref a7, .ref a8, .int (nI i9), .ref a10, .ref a11, .ref a12, .ref a13, .ref a14, .ref a15, .int (nI i16), .int (nI i17), .ref a18, .int (nI i19), .ref a20, .ref a21, .int (nI i22), .ref a23])), (a12, .inl (cI, 72, .inl (fun j => nI ((slI (hkI sy yd x x) x x) j)))), (a13, .inl (cI, 8, .inl (fun j => nI ((soL sl (slI (hkI sy yd x x) x x) x x) j)))), (a14, .inl (cI, 17, .inl (fun j => nI (yd j)))), (a15, .inl (cI, 8, .inl (fun j => nI (sp j))))] H := hP.sub [2, 3, 4, 0, 1] rfl
  replace hD : va_D A [(h, .inr (8, [.int (nI i0), .int (nI i1), .ref a2, .ref a3, .ref a4, .ref a5, .ref a6, .ref a7, .ref a8, .int (nI i9), .ref a10, .ref a11, .ref a12, .ref a13, .ref a14, .ref a15, .int (nI i16), .int (nI i17), .ref a18, .int (nI i19), .ref a20, .ref a21, .int (nI i22), .ref a23])), (a12, .inl (cI, 72, .inl (fun j => nI ((slI (hkI sy yd x x) x x) j)))), (a13, .inl (cI, 8, .inl (fun j => nI ((soL sl (slI (hkI sy yd x x) x x) x x) j)))), (a14, .inl (cI, 17, .inl (fun j => nI (yd j)))), (a15, .inl (cI, 8, .inl (fun j => nI (sp j))))] := hD.sub [2, 3, 4, 0, 1] rfl rfl
  refine n_if_ne hx hb d_m_spots_51 (tgt := 56) rfl (by omega) (fun g51 => ?_) (fun g51 => absurd g51 (by decide))
  refine lv_iconst (v := nI 0) hx hb d_m_spots_56 (by decide) ?_
  refine lv_istore_n hx hb d_m_spots_57 rfl hl (Nat.le_of_ble_eq_true rfl) rfl (fun ls hl => ?_)
  have hl : lv_has ls 7 [(2, .int (nI 0)), (0, .ref h), (1, .int (nI x))] := hl
  refine lv_iconst (v := nI 0) hx hb d_m_spots_58 (by decide) ?_
  refine lv_istore_n hx hb d_m_spots_59 rfl hl (Nat.le_of_ble_eq_true rfl) rfl (fun ls hl => ?_)
  have hl : lv_has ls 7 [(3, .int (nI 0)), (2, .int (nI 0)), (0, .ref h), (1, .int (nI x))] := hl
  refine lp_m_spots_ok_60 cI cC h i0 i1 a2 a3 a4 a5 a6 a7 a8 i9 a10 a11 a12 a13 a14 a15 i16 i17 a18 i19 a20 a21 i22 a23 sy sl yd sp x hx0 hsy hyd hpv hrt S hRf hRl hRc hK hA  (fun ls H locs hl hP hD hS => ?_) 0 (by omega) ls H locs (lv_sub hl [2, 3, 1, 0] rfl) hP hD hS
  have hq9 := hrt 26 (by omega)
  refine lv_iload_n hx hb d_m_spots_129 rfl (lv_at hl 2 rfl) ?_
  refine lv_iload_n hx hb d_m_spots_130 rfl (lv_at hl 1 rfl) ?_
  refine n_icmp_ne hx hb d_m_spots_131 (tgt := 138) rfl (by omega) (by omega) (fun g131 => ?_) (fun g131 => ?_)
  · skip
    refine lv_iconst (v := nI 0) hx hb d_m_spots_138 (by decide) ?_
    refine n_topn (show 0 = bN (spC (soL sl (slI (hkI sy yd x x) x x) x x) x 26 = x) from (by first | rfl | exact (bN_t g131).symm | exact (bN_f g131).symm)) ?_
    exact kr _ ls H locs d_m_spots_139 hP hD hS
  · skip
    refine lv_iconst (v := nI 1) hx hb d_m_spots_134 (by decide) ?_
    refine lv_goto hx hb d_m_spots_135 (tgt := 139) rfl ?_
    refine n_topn (show 1 = bN (spC (soL sl (slI (hkI sy yd x x) x x) x x) x 26 = x) from (by first | rfl | exact (bN_t g131).symm | exact (bN_f g131).symm)) ?_
    exact kr _ ls H locs d_m_spots_139 hP hD hS
set_option maxHeartbeats 1000000 in
set_option maxRecDepth 100000 in
theorem c_m_spots_ok (l : Launch) (D : va_G) (cI cC : ClassId) (h i0 i1 a2 a3 a4 a5 a6 a7 a8 i9 a10 a11 a12 a13 a14 a15 i16 i17 a18 i19 a20 a21 i22 a23 : Nat) (sy sl yd sp : Nat → Nat) (x : Nat) (hx0 : x ≤ 8) (hsy : lt256 72 sy) (hyd : lt256 17 yd) (hpv : ∀ d, d < x → (pvW (slI (hkI sy yd x x) x d) x d (x - d) d) < x) (hrt : ∀ q, q ≤ 26 → spC (soL sl (slI (hkI sy yd x x) x x) x x) x q ≤ 8) (sz : Nat) : Met l y_m_spots (cd_m_spots :: WS) { frames := 3, cells := 0, slots := 0, locals := 73 } (va_Pc [.ref h, .int (nI x)] (wP D [(h, .inr (8, [.int (nI i0), .int (nI i1), .ref a2, .ref a3, .ref a4, .ref a5, .ref a6, .ref a7, .ref a8, .int (nI i9), .ref a10, .ref a11, .ref a12, .ref a13, .ref a14, .ref a15, .int (nI i16), .int (nI i17), .ref a18, .int (nI i19), .ref a20, .ref a21, .int (nI i22), .ref a23])), (a12, .inl (cI, 72, .inl (fun j => nI (sy j)))), (a13, .inl (cI, 8, .inl (fun j => nI (sl j)))), (a14, .inl (cI, 17, .inl (fun j => nI (yd j)))), (a15, .inl (cI, 8, .inl (fun j => nI (sp j))))] [(cI, .int), (cC, .char)] sz)) (wQi D (nI (bN (spC (soL sl (slI (hkI sy yd x x) x x) x x) x 26 = x))) [(h, .inr (8, [.int (nI i0), .int (nI i1), .ref a2, .ref a3, .ref a4, .ref a5, .ref a6, .ref a7, .ref a8, .int (nI i9), .ref a10, .ref a11, .ref a12, .ref a13, .ref a14, .ref a15, .int (nI i16), .int (nI i17), .ref a18, .int (nI i19), .ref a20, .ref a21, .int (nI i22), .ref a23])), (a12, .inl (cI, 72, .inl (fun j => nI (sy j)))), (a13, .inl (cI, 8, .inl (fun j => nI (sl j)))), (a14, .inl (cI, 17, .inl (fun j => nI (yd j)))), (a15, .inl (cI, 8, .inl (fun j => nI (sp j))))] [(h, .inr (8, [.int (nI i0), .int (nI i1), .ref a2, .ref a3, .ref a4, .ref a5, .ref a6, .ref a7, .ref a8, .int (nI i9), .ref a10, .ref a11, .ref a12, .ref a13, .ref a14, .ref a15, .int (nI i16), .int (nI i17), .ref a18, .int (nI i19), .ref a20, .ref a21, .int (nI i22), .ref a23])), (a12, .inl (cI, 72, .inl (fun j => nI ((slI (hkI sy yd x x) x x) j)))), (a13, .inl (cI, 8, .inl (fun j => nI ((soL sl (slI (hkI sy yd x x) x x) x x) j)))), (a14, .inl (cI, 17, .inl (fun j => nI (yd j)))), (a15, .inl (cI, 8, .inl (fun j => nI ((spA sp (soL sl (slI (hkI sy yd x x) x x) x x) x 26) j))))] sz) 0 0 (va_A [(h, .inr (8, [.int (nI i0), .int (nI i1), .ref a2, .ref a3, .ref a4, .ref a5, .ref a6, .ref a7, .ref a8, .int (nI i9), .ref a10, .ref a11, .ref a12, .ref a13, .ref a14, .ref a15, .int (nI i16), .int (nI i17), .ref a18, .int (nI i19), .ref a20, .ref a21, .int (nI i22), .ref a23])), (a12, .inl (cI, 72, .inl (fun j => nI (sy j)))), (a13, .inl (cI, 8, .inl (fun j => nI (sl j)))), (a14, .inl (cI, 17, .inl (fun j => nI (yd j)))), (a15, .inl (cI, 8, .inl (fun j => nI (sp j))))] sz) := by
  refine Met.ofW (cc := b_m_spots) (maxL := 7) (ret := (some .boolean)) (by decide) rfl ?_
  intro p e s m args below meth c s₁ B hml hv0
  obtain ⟨rfl, hP, hK, hD0, hsz⟩ := hv0
  have hts := atoms_spec (ws := cd_m_spots :: WS) B.pre
  have hown : s.vm.findClass R_Model = some m.cls := findClass_of_methodNamed B.named
  have hlocks := B.notSynchronized
  subst hsz
  have hD := hD0.self (sz := s.heap.size)
  have hl := lv_entry ([.ref h, .int (nI x)]) (n := 7) (Nat.le_of_ble_eq_true rfl)
  rw [lg_entry_eq]
  generalize (lg_sl ([.ref h, .int (nI x)]) ++ List.replicate (7 - (lg_sl ([.ref h, .int (nI x)])).length) Slot.unset).toArray = ls at hl ⊢
  refine bd_m_spots_ok cI cC h i0 i1 a2 a3 a4 a5 a6 a7 a8 i9 a10 a11 a12 a13 a14 a15 i16 i17 a18 i19 a20 a21 i22 a23 sy sl yd sp x hx0 hsy hyd hpv hrt ⟨B.exec, B.bytes, hml, hown, hts⟩ (Nat.le_refl _) (Nat.le_refl _) ⟨Nat.le_refl _, Nat.le_refl _⟩ hK (fun q h => Or.inr h) (fun pc ls H locs hd hP hD hS => ?_) ls _ _ hl hP hD (va_S.rf)
  exact W.zret B.exec B.bytes B.returns (bN_fit _) (fun t ht _ => ⟨⟨_, (), rfl, rfl, (by have h9 := hP; rw [← ht] at h9; exact h9)⟩, hS.F ht⟩) hS.2.2 hd
end
