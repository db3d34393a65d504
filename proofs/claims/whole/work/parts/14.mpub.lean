theorem kw_910 : (Jvm.Cond.methodLink "SquareCodesModel" (130 : Nat) ({ cls := "SquareCodesModel", name := "runs", desc := "(I)I" } : Jvm.MethodName)) ∈ WS := WS_tbl 910 (by decide +kernel) rfl
theorem kw_912 : (Jvm.Cond.instanceMethod ({ cls := "SquareCodesModel", name := "runs", desc := "(I)I" } : Jvm.MethodName)) ∈ WS := WS_tbl 912 (by decide +kernel) rfl
theorem ks_27 : Cond.selects R_Model y_m_runs y_m_runs ∈ WS := WS_sel 27 (by decide +kernel) rfl
set_option maxRecDepth 1000000 in
theorem kw_913 : cd_m_runs ∈ WS := WS_tbl 913 rfl rfl
theorem kw_918 : (Jvm.Cond.methodLink "SquareCodesModel" (133 : Nat) ({ cls := "SquareCodesModel", name := "marks", desc := "(I)I" } : Jvm.MethodName)) ∈ WS := WS_tbl 918 (by decide +kernel) rfl
theorem kw_920 : (Jvm.Cond.instanceMethod ({ cls := "SquareCodesModel", name := "marks", desc := "(I)I" } : Jvm.MethodName)) ∈ WS := WS_tbl 920 (by decide +kernel) rfl
theorem ks_29 : Cond.selects R_Model y_m_marks y_m_marks ∈ WS := WS_sel 29 (by decide +kernel) rfl
set_option maxRecDepth 1000000 in
theorem kw_921 : cd_m_marks ∈ WS := WS_tbl 921 rfl rfl
theorem kw_930 : (Jvm.Cond.methodLink "SquareCodesModel" (136 : Nat) ({ cls := "SquareCodesModel", name := "isModule", desc := "(II)Z" } : Jvm.MethodName)) ∈ WS := WS_tbl 930 (by decide +kernel) rfl
theorem kw_931 : (Jvm.Cond.static ({ cls := "SquareCodesModel", name := "isModule", desc := "(II)Z" } : Jvm.MethodName)) ∈ WS := WS_tbl 931 (by decide +kernel) rfl
set_option maxRecDepth 1000000 in
theorem kw_932 : cd_m_isModule ∈ WS := WS_tbl 932 rfl rfl
theorem kw_779 : (Jvm.Cond.fieldLink "SquareCodesModel" (13 : Nat) "SquareCodesModel" "grid" "[I") ∈ WS := WS_tbl 779 (by decide +kernel) rfl
theorem kw_861 : (Jvm.Cond.methodLink "SquareCodesModel" (103 : Nat) ({ cls := "SquareCodesModel", name := "when", desc := "(ZI)Z" } : Jvm.MethodName)) ∈ WS := WS_tbl 861 (by decide +kernel) rfl
theorem kw_863 : (Jvm.Cond.instanceMethod ({ cls := "SquareCodesModel", name := "when", desc := "(ZI)Z" } : Jvm.MethodName)) ∈ WS := WS_tbl 863 (by decide +kernel) rfl
theorem ks_20 : Cond.selects R_Model y_m_when y_m_when ∈ WS := WS_sel 20 (by decide +kernel) rfl
set_option maxRecDepth 1000000 in
theorem kw_864 : cd_m_when ∈ WS := WS_tbl 864 rfl rfl
theorem kw_795 : (Jvm.Cond.fieldLink "SquareCodesModel" (190 : Nat) "SquareCodesModel" "length" "I") ∈ WS := WS_tbl 795 (by decide +kernel) rfl
theorem kw_796 : (Jvm.Cond.fieldLink "SquareCodesModel" (52 : Nat) "SquareCodesModel" "known" "[I") ∈ WS := WS_tbl 796 (by decide +kernel) rfl
theorem kw_798 : (Jvm.Cond.fieldLink "SquareCodesModel" (186 : Nat) "SquareCodesModel" "any" "Z") ∈ WS := WS_tbl 798 (by decide +kernel) rfl
theorem kw_797 : (Jvm.Cond.fieldLink "SquareCodesModel" (55 : Nat) "SquareCodesModel" "about" "[I") ∈ WS := WS_tbl 797 (by decide +kernel) rfl
theorem kw_799 : (Jvm.Cond.fieldLink "SquareCodesModel" (58 : Nat) "SquareCodesModel" "kept" "[I") ∈ WS := WS_tbl 799 (by decide +kernel) rfl
section
theorem d_m_ugly_0 : decode b_m_ugly 0 = .ok (.iconst 0, 1) := by decide +kernel
theorem d_m_ugly_1 : decode b_m_ugly 1 = .ok (.istore_n 1, 1) := by decide +kernel
theorem d_m_ugly_2 : decode b_m_ugly 2 = .ok (.iconst 0, 1) := by decide +kernel
theorem d_m_ugly_3 : decode b_m_ugly 3 = .ok (.istore_n 2, 1) := by decide +kernel
theorem d_m_ugly_4 : decode b_m_ugly 4 = .ok (.iconst 0, 1) := by decide +kernel
theorem d_m_ugly_5 : decode b_m_ugly 5 = .ok (.istore_n 3, 1) := by decide +kernel
theorem d_m_ugly_6 : decode b_m_ugly 6 = .ok (.iload_n 3, 1) := by decide +kernel
theorem d_m_ugly_7 : decode b_m_ugly 7 = .ok (.bipush 42, 2) := by decide +kernel
theorem d_m_ugly_9 : decode b_m_ugly 9 = .ok (.if_icmp .ge 23, 3) := by decide +kernel
theorem d_m_ugly_12 : decode b_m_ugly 12 = .ok (.iload_n 1, 1) := by decide +kernel
theorem d_m_ugly_13 : decode b_m_ugly 13 = .ok (.aload_n 0, 1) := by decide +kernel
theorem d_m_ugly_14 : decode b_m_ugly 14 = .ok (.iload_n 3, 1) := by decide +kernel
theorem d_m_ugly_15 : decode b_m_ugly 15 = .ok (.invokevirtual 130, 3) := by decide +kernel
theorem d_m_ugly_18 : decode b_m_ugly 18 = .ok (.aload_n 0, 1) := by decide +kernel
theorem d_m_ugly_19 : decode b_m_ugly 19 = .ok (.iload_n 3, 1) := by decide +kernel
theorem d_m_ugly_20 : decode b_m_ugly 20 = .ok (.invokevirtual 133, 3) := by decide +kernel
theorem d_m_ugly_23 : decode b_m_ugly 23 = .ok (.iadd, 1) := by decide +kernel
theorem d_m_ugly_24 : decode b_m_ugly 24 = .ok (.iadd, 1) := by decide +kernel
theorem d_m_ugly_25 : decode b_m_ugly 25 = .ok (.istore_n 1, 1) := by decide +kernel
theorem d_m_ugly_26 : decode b_m_ugly 26 = .ok (.iinc 3 1, 3) := by decide +kernel
theorem d_m_ugly_29 : decode b_m_ugly 29 = .ok (.goto (-23), 3) := by decide +kernel
theorem d_m_ugly_32 : decode b_m_ugly 32 = .ok (.iconst 0, 1) := by decide +kernel
theorem d_m_ugly_33 : decode b_m_ugly 33 = .ok (.istore_n 3, 1) := by decide +kernel
theorem d_m_ugly_34 : decode b_m_ugly 34 = .ok (.iload_n 3, 1) := by decide +kernel
theorem d_m_ugly_35 : decode b_m_ugly 35 = .ok (.sipush 441, 3) := by decide +kernel
theorem d_m_ugly_38 : decode b_m_ugly 38 = .ok (.if_icmp .ge 109, 3) := by decide +kernel
theorem d_m_ugly_41 : decode b_m_ugly 41 = .ok (.iload_n 2, 1) := by decide +kernel
theorem d_m_ugly_42 : decode b_m_ugly 42 = .ok (.aload_n 0, 1) := by decide +kernel
theorem d_m_ugly_43 : decode b_m_ugly 43 = .ok (.getfield 16, 3) := by decide +kernel
theorem d_m_ugly_46 : decode b_m_ugly 46 = .ok (.iload_n 3, 1) := by decide +kernel
theorem d_m_ugly_47 : decode b_m_ugly 47 = .ok (.iaload, 1) := by decide +kernel
theorem d_m_ugly_48 : decode b_m_ugly 48 = .ok (.iadd, 1) := by decide +kernel
theorem d_m_ugly_49 : decode b_m_ugly 49 = .ok (.istore_n 2, 1) := by decide +kernel
theorem d_m_ugly_50 : decode b_m_ugly 50 = .ok (.iload_n 3, 1) := by decide +kernel
theorem d_m_ugly_51 : decode b_m_ugly 51 = .ok (.bipush 21, 2) := by decide +kernel
theorem d_m_ugly_53 : decode b_m_ugly 53 = .ok (.irem, 1) := by decide +kernel
theorem d_m_ugly_54 : decode b_m_ugly 54 = .ok (.bipush 20, 2) := by decide +kernel
theorem d_m_ugly_56 : decode b_m_ugly 56 = .ok (.if_icmp .ge 16, 3) := by decide +kernel
theorem d_m_ugly_59 : decode b_m_ugly 59 = .ok (.iload_n 3, 1) := by decide +kernel
theorem d_m_ugly_60 : decode b_m_ugly 60 = .ok (.bipush 21, 2) := by decide +kernel
theorem d_m_ugly_62 : decode b_m_ugly 62 = .ok (.idiv, 1) := by decide +kernel
theorem d_m_ugly_63 : decode b_m_ugly 63 = .ok (.bipush 20, 2) := by decide +kernel
theorem d_m_ugly_65 : decode b_m_ugly 65 = .ok (.if_icmp .ge 7, 3) := by decide +kernel
theorem d_m_ugly_68 : decode b_m_ugly 68 = .ok (.iconst 1, 1) := by decide +kernel
theorem d_m_ugly_69 : decode b_m_ugly 69 = .ok (.goto 4, 3) := by decide +kernel
theorem d_m_ugly_72 : decode b_m_ugly 72 = .ok (.iconst 0, 1) := by decide +kernel
theorem d_m_ugly_73 : decode b_m_ugly 73 = .ok (.istore 4, 2) := by decide +kernel
theorem d_m_ugly_75 : decode b_m_ugly 75 = .ok (.iload_n 1, 1) := by decide +kernel
theorem d_m_ugly_76 : decode b_m_ugly 76 = .ok (.iload 4, 2) := by decide +kernel
theorem d_m_ugly_78 : decode b_m_ugly 78 = .ok (.ifCond .eq 60, 3) := by decide +kernel
theorem d_m_ugly_81 : decode b_m_ugly 81 = .ok (.aload_n 0, 1) := by decide +kernel
theorem d_m_ugly_82 : decode b_m_ugly 82 = .ok (.getfield 16, 3) := by decide +kernel
theorem d_m_ugly_85 : decode b_m_ugly 85 = .ok (.iload_n 3, 1) := by decide +kernel
theorem d_m_ugly_86 : decode b_m_ugly 86 = .ok (.iaload, 1) := by decide +kernel
theorem d_m_ugly_87 : decode b_m_ugly 87 = .ok (.aload_n 0, 1) := by decide +kernel
theorem d_m_ugly_88 : decode b_m_ugly 88 = .ok (.getfield 16, 3) := by decide +kernel
theorem d_m_ugly_91 : decode b_m_ugly 91 = .ok (.iload_n 3, 1) := by decide +kernel
theorem d_m_ugly_92 : decode b_m_ugly 92 = .ok (.iconst 1, 1) := by decide +kernel
theorem d_m_ugly_93 : decode b_m_ugly 93 = .ok (.iadd, 1) := by decide +kernel
theorem d_m_ugly_94 : decode b_m_ugly 94 = .ok (.iaload, 1) := by decide +kernel
theorem d_m_ugly_95 : decode b_m_ugly 95 = .ok (.if_icmp .ne 43, 3) := by decide +kernel
theorem d_m_ugly_98 : decode b_m_ugly 98 = .ok (.aload_n 0, 1) := by decide +kernel
theorem d_m_ugly_99 : decode b_m_ugly 99 = .ok (.getfield 16, 3) := by decide +kernel
theorem d_m_ugly_102 : decode b_m_ugly 102 = .ok (.iload_n 3, 1) := by decide +kernel
theorem d_m_ugly_103 : decode b_m_ugly 103 = .ok (.iaload, 1) := by decide +kernel
theorem d_m_ugly_104 : decode b_m_ugly 104 = .ok (.aload_n 0, 1) := by decide +kernel
theorem d_m_ugly_105 : decode b_m_ugly 105 = .ok (.getfield 16, 3) := by decide +kernel
theorem d_m_ugly_108 : decode b_m_ugly 108 = .ok (.iload_n 3, 1) := by decide +kernel
theorem d_m_ugly_109 : decode b_m_ugly 109 = .ok (.bipush 21, 2) := by decide +kernel
theorem d_m_ugly_111 : decode b_m_ugly 111 = .ok (.iadd, 1) := by decide +kernel
theorem d_m_ugly_112 : decode b_m_ugly 112 = .ok (.iaload, 1) := by decide +kernel
theorem d_m_ugly_113 : decode b_m_ugly 113 = .ok (.if_icmp .ne 25, 3) := by decide +kernel
theorem d_m_ugly_116 : decode b_m_ugly 116 = .ok (.aload_n 0, 1) := by decide +kernel
theorem d_m_ugly_117 : decode b_m_ugly 117 = .ok (.getfield 16, 3) := by decide +kernel
theorem d_m_ugly_120 : decode b_m_ugly 120 = .ok (.iload_n 3, 1) := by decide +kernel
theorem d_m_ugly_121 : decode b_m_ugly 121 = .ok (.iaload, 1) := by decide +kernel
theorem d_m_ugly_122 : decode b_m_ugly 122 = .ok (.aload_n 0, 1) := by decide +kernel
theorem d_m_ugly_123 : decode b_m_ugly 123 = .ok (.getfield 16, 3) := by decide +kernel
theorem d_m_ugly_126 : decode b_m_ugly 126 = .ok (.iload_n 3, 1) := by decide +kernel
theorem d_m_ugly_127 : decode b_m_ugly 127 = .ok (.bipush 22, 2) := by decide +kernel
theorem d_m_ugly_129 : decode b_m_ugly 129 = .ok (.iadd, 1) := by decide +kernel
theorem d_m_ugly_130 : decode b_m_ugly 130 = .ok (.iaload, 1) := by decide +kernel
theorem d_m_ugly_131 : decode b_m_ugly 131 = .ok (.if_icmp .ne 7, 3) := by decide +kernel
theorem d_m_ugly_134 : decode b_m_ugly 134 = .ok (.iconst 3, 1) := by decide +kernel
theorem d_m_ugly_135 : decode b_m_ugly 135 = .ok (.goto 4, 3) := by decide +kernel
theorem d_m_ugly_138 : decode b_m_ugly 138 = .ok (.iconst 0, 1) := by decide +kernel
theorem d_m_ugly_139 : decode b_m_ugly 139 = .ok (.iadd, 1) := by decide +kernel
theorem d_m_ugly_140 : decode b_m_ugly 140 = .ok (.istore_n 1, 1) := by decide +kernel
theorem d_m_ugly_141 : decode b_m_ugly 141 = .ok (.iinc 3 1, 3) := by decide +kernel
theorem d_m_ugly_144 : decode b_m_ugly 144 = .ok (.goto (-110), 3) := by decide +kernel
theorem d_m_ugly_147 : decode b_m_ugly 147 = .ok (.bipush 20, 2) := by decide +kernel
theorem d_m_ugly_149 : decode b_m_ugly 149 = .ok (.iload_n 2, 1) := by decide +kernel
theorem d_m_ugly_150 : decode b_m_ugly 150 = .ok (.imul, 1) := by decide +kernel
theorem d_m_ugly_151 : decode b_m_ugly 151 = .ok (.sipush 4410, 3) := by decide +kernel
theorem d_m_ugly_154 : decode b_m_ugly 154 = .ok (.isub, 1) := by decide +kernel
theorem d_m_ugly_155 : decode b_m_ugly 155 = .ok (.istore_n 3, 1) := by decide +kernel
theorem d_m_ugly_156 : decode b_m_ugly 156 = .ok (.iload_n 1, 1) := by decide +kernel
theorem d_m_ugly_157 : decode b_m_ugly 157 = .ok (.bipush 10, 2) := by decide +kernel
theorem d_m_ugly_159 : decode b_m_ugly 159 = .ok (.iload_n 3, 1) := by decide +kernel
theorem d_m_ugly_160 : decode b_m_ugly 160 = .ok (.ifCond .ge 8, 3) := by decide +kernel
theorem d_m_ugly_163 : decode b_m_ugly 163 = .ok (.iload_n 3, 1) := by decide +kernel
theorem d_m_ugly_164 : decode b_m_ugly 164 = .ok (.ineg, 1) := by decide +kernel
theorem d_m_ugly_165 : decode b_m_ugly 165 = .ok (.goto 4, 3) := by decide +kernel
theorem d_m_ugly_168 : decode b_m_ugly 168 = .ok (.iload_n 3, 1) := by decide +kernel
theorem d_m_ugly_169 : decode b_m_ugly 169 = .ok (.sipush 441, 3) := by decide +kernel
theorem d_m_ugly_172 : decode b_m_ugly 172 = .ok (.idiv, 1) := by decide +kernel
theorem d_m_ugly_173 : decode b_m_ugly 173 = .ok (.imul, 1) := by decide +kernel
theorem d_m_ugly_174 : decode b_m_ugly 174 = .ok (.iadd, 1) := by decide +kernel
theorem d_m_ugly_175 : decode b_m_ugly 175 = .ok (.ireturn, 1) := by decide +kernel
end
section
variable {p : Program} {l : Launch} {e : Env} {R : Room} {s : State} {m : MethodId} {args : Array Value} {below : List Frame} {meth : Method} {c : Code} {cells slots : Nat} {Q : State → Prop} {A : Nat → Prop} {H0 : Heap} {D : va_G}
set_option maxHeartbeats 1000000 in
set_option maxRecDepth 100000 in
theorem lp_m_ugly_34 (cI cC : ClassId) (h i0 i1 a2 a3 a4 a5 a6 a7 a8 i9 a10 a11 a12 a13 a14 a15 i16 i17 a18 i19 a20 a21 i22 a23 : Nat) (dr : Nat → Nat) (hdr : ∀ j, j < 441 → dr j ≤ 1) (S : CallFix p m c b_m_ugly 5 s args (cd_m_ugly :: WS) R_Model) (hRf : 2 ≤ R.frames) (hRl : 47 ≤ R.locals) (hRc : cells ≤ R.cells ∧ slots ≤ R.slots) (hK : va_K D classes [(cI, .int), (cC, .char)] s) (kx : ∀ (ls : Array Slot) (H : Heap) (locs : List Loc), lv_has ls 5 [(0, .ref h), (1, .int (nI (sqL dr 441))), (2, .int (nI (dkL dr 441))), (3, .int (nI 441))] → va_P D classes [(h, .inr (8, [.int (nI i0), .int (nI i1), .ref a2, .ref a3, .ref a4, .ref a5, .ref a6, .ref a7, .ref a8, .int (nI i9), .ref a10, .ref a11, .ref a12, .ref a13, .ref a14, .ref a15, .int (nI i16), .int (nI i17), .ref a18, .int (nI i19), .ref a20, .ref a21, .int (nI i22), .ref a23])), (a4, .inl (cI, 441, .inl (fun j => nI (dr j))))] H → va_S A H0 H locs → W p l e R s m args below meth c H locs cells slots Q (F0 m 147 ls [])) :
    ∀ k, k ≤ 441 → ∀ (ls : Array Slot) (H : Heap) (locs : List Loc), lv_has ls 5 [(0, .ref h), (1, .int (nI (sqL dr k))), (2, .int (nI (dkL dr k))), (3, .int (nI k))] → va_P D classes [(h, .inr (8, [.int (nI i0), .int (nI i1), .ref a2, .ref a3, .ref a4, .ref a5, .ref a6, .ref a7, .ref a8, .int (nI i9), .ref a10, .ref a11, .ref a12, .ref a13, .ref a14, .ref a15, .int (nI i16), .int (nI i17), .ref a18, .int (nI i19), .ref a20, .ref a21, .int (nI i22), .ref a23])), (a4, .inl (cI, 441, .inl (fun j => nI (dr j))))] H → va_S A H0 H locs → W p l e R s m args below meth c H locs cells slots Q (F0 m 34 ls []) := by
  obtain ⟨hx, hb, hml, hown, hts⟩ := id S
  refine up_loop (fun k hkk ih => ?_)
  intro ls H locs hl hP hS
  have hdl := dkL_le hdr k (by omega)
  refine lv_iload_n hx hb d_m_ugly_34 rfl (lv_at hl 3 rfl) ?_
  refine lv_sipush (v := nI 441) hx hb d_m_ugly_35 (by decide) ?_
  refine n_icmp_ge hx hb d_m_ugly_38 (tgt := 147) rfl (by omega) (by omega) (fun g38 => ?_) (fun g38 => ?_)
  · skip
    obtain rfl : k = 441 := by omega
    exact kx ls H locs (lv_sub hl [0, 1, 2, 3] rfl) hP hS
  · skip
    refine lv_iload_n hx hb d_m_ugly_41 rfl (lv_at hl 2 rfl) ?_
    refine lv_aload_n hx hb d_m_ugly_42 rfl (lv_at hl 0 rfl) ?_
    refine n_get (C := R_Model) (T := F_Model) (N := 24) (v := .ref a4) hx hb hts u_Model_in hown hK hP 0 rfl rfl 4 (by decide) kw_780 rfl d_m_ugly_43 ?_
    refine lv_iload_n hx hb d_m_ugly_46 rfl (lv_at hl 3 rfl) ?_
    refine n_iald hx hb hK hP 1 0 rfl rfl (by omega) (by decide) d_m_ugly_47 ?_
    refine n_iadd hx hb d_m_ugly_48 ?_
    refine n_topn (show (dkL dr k) + (dr k) = dkL dr (k + 1) from rfl) ?_
    refine lv_istore_n hx hb d_m_ugly_49 rfl hl (Nat.le_of_ble_eq_true rfl) rfl (fun ls hl => ?_)
    have hl : lv_has ls 5 [(2, .int (nI (dkL dr (k + 1)))), (0, .ref h), (1, .int (nI (sqL dr k))), (3, .int (nI k))] := hl
    refine lv_iload_n hx hb d_m_ugly_50 rfl (lv_at hl 3 rfl) ?_
    refine lv_bipush (v := nI 21) hx hb d_m_ugly_51 (by decide) ?_
    refine n_irem hx hb d_m_ugly_53 (by omega) (by omega) (by omega) ?_
    refine lv_bipush (v := nI 20) hx hb d_m_ugly_54 (by decide) ?_
    refine n_icmp_ge hx hb d_m_ugly_56 (tgt := 72) rfl (by omega) (by omega) (fun g56 => ?_) (fun g56 => ?_)
    · skip
      refine lv_iconst (v := nI 0) hx hb d_m_ugly_72 (by decide) ?_
      refine lv_istore hx hb d_m_ugly_73 hl (Nat.le_of_ble_eq_true rfl) rfl (fun ls hl => ?_)
      have hl : lv_has ls 5 [(4, .int (nI 0)), (2, .int (nI (dkL dr (k + 1)))), (0, .ref h), (1, .int (nI (sqL dr k))), (3, .int (nI k))] := hl
      refine lv_iload_n hx hb d_m_ugly_75 rfl (lv_at hl 3 rfl) ?_
      refine lv_iload hx hb d_m_ugly_76 (lv_at hl 0 rfl) ?_
      refine n_if_eq hx hb d_m_ugly_78 (tgt := 138) rfl (by omega) (fun g78 => ?_) (fun g78 => absurd g78 (by decide))
      refine lv_iconst (v := nI 0) hx hb d_m_ugly_138 (by decide) ?_
      refine n_iadd hx hb d_m_ugly_139 ?_
      refine n_topn (show (sqL dr k) + 0 = sqL dr (k + 1) from (by first | exact (sqL_t (by omega) (by omega) g95 g113 g131).symm | exact (sqL_f (fun q => by omega)).symm)) ?_
      refine lv_istore_n hx hb d_m_ugly_140 rfl hl (Nat.le_of_ble_eq_true rfl) rfl (fun ls hl => ?_)
      have hl : lv_has ls 5 [(1, .int (nI (sqL dr (k + 1)))), (4, .int (nI 0)), (2, .int (nI (dkL dr (k + 1)))), (0, .ref h), (3, .int (nI k))] := hl
      refine lv_iinc (k := 4) (v := nI (k + 1)) hx hb d_m_ugly_141 hl rfl (nx_inc k 1) (Nat.le_of_ble_eq_true rfl) rfl (fun ls hl => ?_)
      have hl : lv_has ls 5 [(3, .int (nI (k + 1))), (1, .int (nI (sqL dr (k + 1)))), (4, .int (nI 0)), (2, .int (nI (dkL dr (k + 1)))), (0, .ref h)] := hl
      refine lv_goto hx hb d_m_ugly_144 (tgt := 34) rfl ?_
      exact ih (by omega) ls H locs (lv_sub hl [4, 1, 3, 0] rfl) hP hS
    · skip
      refine lv_iload_n hx hb d_m_ugly_59 rfl (lv_at hl 3 rfl) ?_
      refine lv_bipush (v := nI 21) hx hb d_m_ugly_60 (by decide) ?_
      refine n_idiv hx hb d_m_ugly_62 (by omega) (by omega) (by omega) ?_
      refine lv_bipush (v := nI 20) hx hb d_m_ugly_63 (by decide) ?_
      refine n_icmp_ge hx hb d_m_ugly_65 (tgt := 72) rfl (by omega) (by omega) (fun g65 => ?_) (fun g65 => ?_)
      · skip
        refine lv_iconst (v := nI 0) hx hb d_m_ugly_72 (by decide) ?_
        refine lv_istore hx hb d_m_ugly_73 hl (Nat.le_of_ble_eq_true rfl) rfl (fun ls hl => ?_)
        have hl : lv_has ls 5 [(4, .int (nI 0)), (2, .int (nI (dkL dr (k + 1)))), (0, .ref h), (1, .int (nI (sqL dr k))), (3, .int (nI k))] := hl
        refine lv_iload_n hx hb d_m_ugly_75 rfl (lv_at hl 3 rfl) ?_
        refine lv_iload hx hb d_m_ugly_76 (lv_at hl 0 rfl) ?_
        refine n_if_eq hx hb d_m_ugly_78 (tgt := 138) rfl (by omega) (fun g78 => ?_) (fun g78 => absurd g78 (by decide))
        refine lv_iconst (v := nI 0) hx hb d_m_ugly_138 (by decide) ?_
        refine n_iadd hx hb d_m_ugly_139 ?_
        refine n_topn (show (sqL dr k) + 0 = sqL dr (k + 1) from (by first | exact (sqL_t (by omega) (by omega) g95 g113 g131).symm | exact (sqL_f (fun q => by omega)).symm)) ?_
        refine lv_istore_n hx hb d_m_ugly_140 rfl hl (Nat.le_of_ble_eq_true rfl) rfl (fun ls hl => ?_)
        have hl : lv_has ls 5 [(1, .int (nI (sqL dr (k + 1)))), (4, .int (nI 0)), (2, .int (nI (dkL dr (k + 1)))), (0, .ref h), (3, .int (nI k))] := hl
        refine lv_iinc (k := 4) (v := nI (k + 1)) hx hb d_m_ugly_141 hl rfl (nx_inc k 1) (Nat.le_of_ble_eq_true rfl) rfl (fun ls hl => ?_)
        have hl : lv_has ls 5 [(3, .int (nI (k + 1))), (1, .int (nI (sqL dr (k + 1)))), (4, .int (nI 0)), (2, .int (nI (dkL dr (k + 1)))), (0, .ref h)] := hl
        refine lv_goto hx hb d_m_ugly_144 (tgt := 34) rfl ?_
        exact ih (by omega) ls H locs (lv_sub hl [4, 1, 3, 0] rfl) hP hS
      · skip
        refine lv_iconst (v := nI 1) hx hb d_m_ugly_68 (by decide) ?_
        refine lv_goto hx hb d_m_ugly_69 (tgt := 73) rfl ?_
        refine lv_istore hx hb d_m_ugly_73 hl (Nat.le_of_ble_eq_true rfl) rfl (fun ls hl => ?_)
        have hl : lv_has ls 5 [(4, .int (nI 1)), (2, .int (nI (dkL dr (k + 1)))), (0, .ref h), (1, .int (nI (sqL dr k))), (3, .int (nI k))] := hl
        refine lv_iload_n hx hb d_m_ugly_75 rfl (lv_at hl 3 rfl) ?_
        refine lv_iload hx hb d_m_ugly_76 (lv_at hl 0 rfl) ?_
        refine n_if_eq hx hb d_m_ugly_78 (tgt := 138) rfl (by omega) (fun g78 => absurd g78 (by decide)) (fun g78 => ?_)
        have hv0 := hdr k (by omega)
        have hv1 := hdr (k + 1) (by omega)
        have hv2 := hdr (k + 21) (by omega)
        have hv3 := hdr (k + 22) (by omega)
        refine lv_aload_n hx hb d_m_ugly_81 rfl (lv_at hl 2 rfl) ?_
        refine n_get (C := R_Model) (T := F_Model) (N := 24) (v := .ref a4) hx hb hts u_Model_in hown hK hP 0 rfl rfl 4 (by decide) kw_780 rfl d_m_ugly_82 ?_
        refine lv_iload_n hx hb d_m_ugly_85 rfl (lv_at hl 4 rfl) ?_
        refine n_iald hx hb hK hP 1 0 rfl rfl (by omega) (by decide) d_m_ugly_86 ?_
        refine lv_aload_n hx hb d_m_ugly_87 rfl (lv_at hl 2 rfl) ?_
        refine n_get (C := R_Model) (T := F_Model) (N := 24) (v := .ref a4) hx hb hts u_Model_in hown hK hP 0 rfl rfl 4 (by decide) kw_780 rfl d_m_ugly_88 ?_
        refine lv_iload_n hx hb d_m_ugly_91 rfl (lv_at hl 4 rfl) ?_
        refine lv_iconst (v := nI 1) hx hb d_m_ugly_92 (by decide) ?_
        refine n_iadd hx hb d_m_ugly_93 ?_
        refine n_iald hx hb hK hP 1 0 rfl rfl (by omega) (by decide) d_m_ugly_94 ?_
        refine n_icmp_ne hx hb d_m_ugly_95 (tgt := 138) rfl (by omega) (by omega) (fun g95 => ?_) (fun g95 => ?_)
        · skip
          refine lv_iconst (v := nI 0) hx hb d_m_ugly_138 (by decide) ?_
          refine n_iadd hx hb d_m_ugly_139 ?_
          refine n_topn (show (sqL dr k) + 0 = sqL dr (k + 1) from (by first | exact (sqL_t (by omega) (by omega) g95 g113 g131).symm | exact (sqL_f (fun q => by omega)).symm)) ?_
          refine lv_istore_n hx hb d_m_ugly_140 rfl hl (Nat.le_of_ble_eq_true rfl) rfl (fun ls hl => ?_)
          have hl : lv_has ls 5 [(1, .int (nI (sqL dr (k + 1)))), (4, .int (nI 1)), (2, .int (nI (dkL dr (k + 1)))), (0, .ref h), (3, .int (nI k))] := hl
          refine lv_iinc (k := 4) (v := nI (k + 1)) hx hb d_m_ugly_141 hl rfl (nx_inc k 1) (Nat.le_of_ble_eq_true rfl) rfl (fun ls hl => ?_)
          have hl : lv_has ls 5 [(3, .int (nI (k + 1))), (1, .int (nI (sqL dr (k + 1)))), (4, .int (nI 1)), (2, .int (nI (dkL dr (k + 1)))), (0, .ref h)] := hl
          refine lv_goto hx hb d_m_ugly_144 (tgt := 34) rfl ?_
          exact ih (by omega) ls H locs (lv_sub hl [4, 1, 3, 0] rfl) hP hS
        · skip
          refine lv_aload_n hx hb d_m_ugly_98 rfl (lv_at hl 2 rfl) ?_
          refine n_get (C := R_Model) (T := F_Model) (N := 24) (v := .ref a4) hx hb hts u_Model_in hown hK hP 0 rfl rfl 4 (by decide) kw_780 rfl d_m_ugly_99 ?_
          refine lv_iload_n hx hb d_m_ugly_102 rfl (lv_at hl 4 rfl) ?_
          refine n_iald hx hb hK hP 1 0 rfl rfl (by omega) (by decide) d_m_ugly_103 ?_
          refine lv_aload_n hx hb d_m_ugly_104 rfl (lv_at hl 2 rfl) ?_
          refine n_get (C := R_Model) (T := F_Model) (N := 24) (v := .ref a4) hx hb hts u_Model_in hown hK hP 0 rfl rfl 4 (by decide) kw_780 rfl d_m_ugly_105 ?_
          refine lv_iload_n hx hb d_m_ugly_108 rfl (lv_at hl 4 rfl) ?_
          refine lv_bipush (v := nI 21) hx hb d_m_ugly_109 (by decide) ?_
          refine n_iadd hx hb d_m_ugly_111 ?_
          refine n_iald hx hb hK hP 1 0 rfl rfl (by omega) (by decide) d_m_ugly_112 ?_
          refine n_icmp_ne hx hb d_m_ugly_113 (tgt := 138) rfl (by omega) (by omega) (fun g113 => ?_) (fun g113 => ?_)
          · skip
            refine lv_iconst (v := nI 0) hx hb d_m_ugly_138 (by decide) ?_
            refine n_iadd hx hb d_m_ugly_139 ?_
            refine n_topn (show (sqL dr k) + 0 = sqL dr (k + 1) from (by first | exact (sqL_t (by omega) (by omega) g95 g113 g131).symm | exact (sqL_f (fun q => by omega)).symm)) ?_
            refine lv_istore_n hx hb d_m_ugly_140 rfl hl (Nat.le_of_ble_eq_true rfl) rfl (fun ls hl => ?_)
            have hl : lv_has ls 5 [(1, .int (nI (sqL dr (k + 1)))), (4, .int (nI 1)), (2, .int (nI (dkL dr (k + 1)))), (0, .ref h), (3, .int (nI k))] := hl
            refine lv_iinc (k := 4) (v := nI (k + 1)) hx hb d_m_ugly_141 hl rfl (nx_inc k 1) (Nat.le_of_ble_eq_true rfl) rfl (fun ls hl => ?_)
            have hl : lv_has ls 5 [(3, .int (nI (k + 1))), (1, .int (nI (sqL dr (k + 1)))), (4, .int (nI 1)), (2, .int (nI (dkL dr (k + 1)))), (0, .ref h)] := hl
            refine lv_goto hx hb d_m_ugly_144 (tgt := 34) rfl ?_
            exact ih (by omega) ls H locs (lv_sub hl [4, 1, 3, 0] rfl) hP hS
          · skip
            refine lv_aload_n hx hb d_m_ugly_116 rfl (lv_at hl 2 rfl) ?_
            refine n_get (C := R_Model) (T := F_Model) (N := 24) (v := .ref a4) hx hb hts u_Model_in hown hK hP 0 rfl rfl 4 (by decide) kw_780 rfl d_m_ugly_117 ?_
            refine lv_iload_n hx hb d_m_ugly_120 rfl (lv_at hl 4 rfl) ?_
            refine n_iald hx hb hK hP 1 0 rfl rfl (by omega) (by decide) d_m_ugly_121 ?_
            refine lv_aload_n hx hb d_m_ugly_122 rfl (lv_at hl 2 rfl) ?_
            refine n_get (C := R_Model) (T := F_Model) (N := 24) (v := .ref a4) hx hb hts u_Model_in hown hK hP 0 rfl rfl 4 (by decide) kw_780 rfl d_m_ugly_123 ?_
            refine lv_iload_n hx hb d_m_ugly_126 rfl (lv_at hl 4 rfl) ?_
            refine lv_bipush (v := nI 22) hx hb d_m_ugly_127 (by decide) ?_
            refine n_iadd hx hb d_m_ugly_129 ?_
            refine n_iald hx hb hK hP 1 0 rfl rfl (by omega) (by decide) d_m_ugly_130 ?_
            refine n_icmp_ne hx hb d_m_ugly_131 (tgt := 138) rfl (by omega) (by omega) (fun g131 => ?_) (fun g131 => ?_)
            · skip
              refine lv_iconst (v := nI 0) hx hb d_m_ugly_138 (by decide) ?_
              refine n_iadd hx hb d_m_ugly_139 ?_
              refine n_topn (show (sqL dr k) + 0 = sqL dr (k + 1) from (by first | exact (sqL_t (by omega) (by omega) g95 g113 g131).symm | exact (sqL_f (fun q => by omega)).symm)) ?_
              refine lv_istore_n hx hb d_m_ugly_140 rfl hl (Nat.le_of_ble_eq_true rfl) rfl (fun ls hl => ?_)
              have hl : lv_has ls 5 [(1, .int (nI (sqL dr (k + 1)))), (4, .int (nI 1)), (2, .int (nI (dkL dr (k + 1)))), (0, .ref h), (3, .int (nI k))] := hl
              refine lv_iinc (k := 4) (v := nI (k + 1)) hx hb d_m_ugly_141 hl rfl (nx_inc k 1) (Nat.le_of_ble_eq_true rfl) rfl (fun ls hl => ?_)
              have hl : lv_has ls 5 [(3, .int (nI (k + 1))), (1, .int (nI (sqL dr (k + 1)))), (4, .int (nI 1)), (2, .int (nI (dkL dr (k + 1)))), (0, .ref h)] := hl
              refine lv_goto hx hb d_m_ugly_144 (tgt := 34) rfl ?_
              exact ih (by omega) ls H locs (lv_sub hl [4, 1, 3, 0] rfl) hP hS
            · skip
              refine lv_iconst (v := nI 3) hx hb d_m_ugly_134 (by decide) ?_
              refine lv_goto hx hb d_m_ugly_135 (tgt := 139) rfl ?_
              refine n_iadd hx hb d_m_ugly_139 ?_
              refine n_topn (show (sqL dr k) + 3 = sqL dr (k + 1) from (by first | exact (sqL_t (by omega) (by omega) g95 g113 g131).symm | exact (sqL_f (fun q => by omega)).symm)) ?_
              refine lv_istore_n hx hb d_m_ugly_140 rfl hl (Nat.le_of_ble_eq_true rfl) rfl (fun ls hl => ?_)
              have hl : lv_has ls 5 [(1, .int (nI (sqL dr (k + 1)))), (4, .int (nI 1)), (2, .int (nI (dkL dr (k + 1)))), (0, .ref h), (3, .int (nI k))] := hl
              refine lv_iinc (k := 4) (v := nI (k + 1)) hx hb d_m_ugly_141 hl rfl (nx_inc k 1) (Nat.le_of_ble_eq_true rfl) rfl (fun ls hl => ?_)
              have hl : lv_has ls 5 [(3, .int (nI (k + 1))), (1, .int (nI (sqL dr (k + 1)))), (4, .int (nI 1)), (2, .int (nI (dkL dr (k + 1)))), (0, .ref h)] := hl
              refine lv_goto hx hb d_m_ugly_144 (tgt := 34) rfl ?_
              exact ih (by omega) ls H locs (lv_sub hl [4, 1, 3, 0] rfl) hP hS
set_option maxHeartbeats 1000000 in
set_option maxRecDepth 100000 in
theorem lp_m_ugly_6 (cI cC : ClassId) (h i0 i1 a2 a3 a4 a5 a6 a7 a8 i9 a10 a11 a12 a13 a14 a15 i16 i17 a18 i19 a20 a21 i22 a23 : Nat) (dr : Nat → Nat) (hdr : ∀ j, j < 441 → dr j ≤ 1) (S : CallFix p m c b_m_ugly 5 s args (cd_m_ugly :: WS) R_Model) (hRf : 2 ≤ R.frames) (hRl : 47 ≤ R.locals) (hRc : cells ≤ R.cells ∧ slots ≤ R.slots) (hK : va_K D classes [(cI, .int), (cC, .char)] s) (kx : ∀ (ls : Array Slot) (H : Heap) (locs : List Loc), lv_has ls 5 [(0, .ref h), (1, .int (nI (ulL dr 42))), (2, .int (nI 0)), (3, .int (nI 42))] → va_P D classes [(h, .inr (8, [.int (nI i0), .int (nI i1), .ref a2, .ref a3, .ref a4, .ref a5, .ref a6, .ref a7, .ref a8, .int (nI i9), .ref a10, .ref a11, .ref a12, .ref a13, .ref a14, .ref a15, .int (nI i16), .int (nI i17), .ref a18, .int (nI i19), .ref a20, .ref a21, .int (nI i22), .ref a23])), (a4, .inl (cI, 441, .inl (fun j => nI (dr j))))] H → va_S A H0 H locs → W p l e R s m args below meth c H locs cells slots Q (F0 m 32 ls [])) :
    ∀ k, k ≤ 42 → ∀ (ls : Array Slot) (H : Heap) (locs : List Loc), lv_has ls 5 [(0, .ref h), (1, .int (nI (ulL dr k))), (2, .int (nI 0)), (3, .int (nI k))] → va_P D classes [(h, .inr (8, [.int (nI i0), .int (nI i1), .ref a2, .ref a3, .ref a4, .ref a5, .ref a6, .ref a7, .ref a8, .int (nI i9), .ref a10, .ref a11, .ref a12, .ref a13, .ref a14, .ref a15, .int (nI i16), .int (nI i17), .ref a18, .int (nI i19), .ref a20, .ref a21, .int (nI i22), .ref a23])), (a4, .inl (cI, 441, .inl (fun j => nI (dr j))))] H → va_S A H0 H locs → W p l e R s m args below meth c H locs cells slots Q (F0 m 6 ls []) := by
  obtain ⟨hx, hb, hml, hown, hts⟩ := id S
  refine up_loop (fun k hkk ih => ?_)
  intro ls H locs hl hP hS
  refine lv_iload_n hx hb d_m_ugly_6 rfl (lv_at hl 3 rfl) ?_
  refine lv_bipush (v := nI 42) hx hb d_m_ugly_7 (by decide) ?_
  refine n_icmp_ge hx hb d_m_ugly_9 (tgt := 32) rfl (by omega) (by omega) (fun g9 => ?_) (fun g9 => ?_)
  · skip
    obtain rfl : k = 42 := by omega
    exact kx ls H locs (lv_sub hl [0, 1, 2, 3] rfl) hP hS
  · skip
    refine lv_iload_n hx hb d_m_ugly_12 rfl (lv_at hl 1 rfl) ?_
    refine lv_aload_n hx hb d_m_ugly_13 rfl (lv_at hl 0 rfl) ?_
    refine lv_iload_n hx hb d_m_ugly_14 rfl (lv_at hl 3 rfl) ?_
    refine q_readV (n := 1) (As := [.int (nI k)]) (rest := [.int (nI (ulL dr k))]) (wc := [(h, .inr (8, [.int (nI i0), .int (nI i1), .ref a2, .ref a3, .ref a4, .ref a5, .ref a6, .ref a7, .ref a8, .int (nI i9), .ref a10, .ref a11, .ref a12, .ref a13, .ref a14, .ref a15, .int (nI i16), .int (nI i17), .ref a18, .int (nI i19), .ref a20, .ref a21, .int (nI i22), .ref a23])), (a4, .inl (cI, 441, .inl (fun j => nI (dr j))))]) S (c_m_runs l D cI cC h i0 i1 a2 a3 a4 a5 a6 a7 a8 i9 a10 a11 a12 a13 a14 a15 i16 i17 a18 i19 a20 a21 i22 a23 dr k (by omega) hdr) hK hP (q0 := 0) rfl rfl [0, 1] rfl (q_goodV kw_910 kw_912 ks_27 kw_10 kw_913) (by decide +kernel) rfl rfl rfl ⟨Nat.le_trans (Nat.le_of_ble_eq_true rfl) hRf, Nat.le_trans (Nat.le_of_ble_eq_true rfl) hRl⟩ rfl hl.1 rfl (Nat.le_of_ble_eq_true rfl) d_m_ugly_15 hRc hS (fun H locs hP hS => ?_)
    refine lv_aload_n hx hb d_m_ugly_18 rfl (lv_at hl 0 rfl) ?_
    refine lv_iload_n hx hb d_m_ugly_19 rfl (lv_at hl 3 rfl) ?_
    refine q_readV (n := 1) (As := [.int (nI k)]) (rest := [.int (nI ((rnL (ilN dr k) 21).1)), .int (nI (ulL dr k))]) (wc := [(h, .inr (8, [.int (nI i0), .int (nI i1), .ref a2, .ref a3, .ref a4, .ref a5, .ref a6, .ref a7, .ref a8, .int (nI i9), .ref a10, .ref a11, .ref a12, .ref a13, .ref a14, .ref a15, .int (nI i16), .int (nI i17), .ref a18, .int (nI i19), .ref a20, .ref a21, .int (nI i22), .ref a23])), (a4, .inl (cI, 441, .inl (fun j => nI (dr j))))]) S (c_m_marks l D cI cC h i0 i1 a2 a3 a4 a5 a6 a7 a8 i9 a10 a11 a12 a13 a14 a15 i16 i17 a18 i19 a20 a21 i22 a23 dr k (by omega) hdr) hK hP (q0 := 0) rfl rfl [0, 1] rfl (q_goodV kw_918 kw_920 ks_29 kw_10 kw_921) (by decide +kernel) rfl rfl rfl ⟨Nat.le_trans (Nat.le_of_ble_eq_true rfl) hRf, Nat.le_trans (Nat.le_of_ble_eq_true rfl) hRl⟩ rfl hl.1 rfl (Nat.le_of_ble_eq_true rfl) d_m_ugly_20 hRc hS (fun H locs hP hS => ?_)
    refine n_iadd hx hb d_m_ugly_23 ?_
    refine n_iadd hx hb d_m_ugly_24 ?_
    refine n_topn (show (ulL dr k) + (((rnL (ilN dr k) 21).1) + (mkL (ilN dr k) 11)) = ulL dr (k + 1) from rfl) ?_
    refine lv_istore_n hx hb d_m_ugly_25 rfl hl (Nat.le_of_ble_eq_true rfl) rfl (fun ls hl => ?_)
    have hl : lv_has ls 5 [(1, .int (nI (ulL dr (k + 1)))), (0, .ref h), (2, .int (nI 0)), (3, .int (nI k))] := hl
    refine lv_iinc (k := 3) (v := nI (k + 1)) hx hb d_m_ugly_26 hl rfl (nx_inc k 1) (Nat.le_of_ble_eq_true rfl) rfl (fun ls hl => ?_)
    have hl : lv_has ls 5 [(3, .int (nI (k + 1))), (1, .int (nI (ulL dr (k + 1)))), (0, .ref h), (2, .int (nI 0))] := hl
    refine lv_goto hx hb d_m_ugly_29 (tgt := 6) rfl ?_
    exact ih (by omega) ls H locs (lv_sub hl [2, 1, 3, 0] rfl) hP hS
set_option maxHeartbeats 1000000 in
set_option maxRecDepth 100000 in
theorem bd_m_ugly (cI cC : ClassId) (h i0 i1 a2 a3 a4 a5 a6 a7 a8 i9 a10 a11 a12 a13 a14 a15 i16 i17 a18 i19 a20 a21 i22 a23 : Nat) (dr : Nat → Nat) (hdr : ∀ j, j < 441 → dr j ≤ 1) (S : CallFix p m c b_m_ugly 5 s args (cd_m_ugly :: WS) R_Model) (hRf : 2 ≤ R.frames) (hRl : 47 ≤ R.locals) (hRc : cells ≤ R.cells ∧ slots ≤ R.slots) (hK : va_K D classes [(cI, .int), (cC, .char)] s) (kr : ∀ (pc : Nat) (ls : Array Slot) (H : Heap) (locs : List Loc), decode b_m_ugly pc = .ok (.ireturn, 1) → va_P D classes [(h, .inr (8, [.int (nI i0), .int (nI i1), .ref a2, .ref a3, .ref a4, .ref a5, .ref a6, .ref a7, .ref a8, .int (nI i9), .ref a10, .ref a11, .ref a12, .ref a13, .ref a14, .ref a15, .int (nI i16), .int (nI i17), .ref a18, .int (nI i19), .ref a20, .ref a21, .int (nI i22), .ref a23])), (a4, .inl (cI, 441, .inl (fun j => nI (dr j))))] H → va_S A H0 H locs → W p l e R s m args below meth c H locs cells slots Q (F0 m pc ls [.int (nI (ugN dr))])) : ∀ (ls : Array Slot) (H : Heap) (locs : List Loc), lv_has ls 5 [(0, .ref h)] → va_P D classes [(h, .inr (8, [.int (nI i0), .int (nI i1), .ref a2, .ref a3, .ref a4, .ref a5, .ref a6, .ref a7, .ref a8, .int (nI i9), .ref a10, .ref a11, .ref a12, .ref a13, .ref a14, .ref a15, .int (nI i16), .int (nI i17), .ref a18, .int (nI i19), .ref a20, .ref a21, .int (nI i22), .ref a23])), (a4, .inl (cI, 441, .inl (fun j => nI (dr j))))] H → va_S A H0 H locs → W p l e R s m args below meth c H locs cells slots Q (F0 m 0 ls []) := by
  obtain ⟨hx, hb, hml, hown, hts⟩ := id S
  intro ls H locs hl hP hS
  refine lv_iconst (v := nI 0) hx hb d_m_ugly_0 (by decide) ?_
  refine lv_istore_n hx hb d_m_ugly_1 rfl hl (Nat.le_of_ble_eq_true rfl) rfl (fun ls hl => ?_)
  have hl : lv_has ls 5 [(1, .int (nI 0)), (0, .ref h)] := hl
  refine lv_iconst (v := nI 0) hx hb d_m_ugly_2 (by decide) ?_
  refine lv_istore_n hx hb d_m_ugly_3 rfl hl (Nat.le_of_ble_eq_true rfl) rfl (fun ls hl => ?_)
  have hl : lv_has ls 5 [(2, .int (nI 0)), (1, .int (nI 0)), (0, .ref h)] := hl
  refine lv_iconst (v := nI 0) hx hb d_m_ugly_4 (by decide) ?_
  refine lv_istore_n hx hb d_m_ugly_5 rfl hl (Nat.le_of_ble_eq_true rfl) rfl (fun ls hl => ?_)
  have hl : lv_has ls 5 [(3, .int (nI 0)), (2, .int (nI 0)), (1, .int (nI 0)), (0, .ref h)] := hl
  refine lp_m_ugly_6 cI cC h i0 i1 a2 a3 a4 a5 a6 a7 a8 i9 a10 a11 a12 a13 a14 a15 i16 i17 a18 i19 a20 a21 i22 a23 dr hdr S hRf hRl hRc hK  (fun ls H locs hl hP hS => ?_) 0 (by omega) ls H locs (lv_sub hl [3, 2, 1, 0] rfl) hP hS
  refine lv_iconst (v := nI 0) hx hb d_m_ugly_32 (by decide) ?_
  refine lv_istore_n hx hb d_m_ugly_33 rfl hl (Nat.le_of_ble_eq_true rfl) rfl (fun ls hl => ?_)
  have hl : lv_has ls 5 [(3, .int (nI 0)), (0, .ref h), (1, .int (nI (ulL dr 42))), (2, .int (nI 0))] := hl
  refine lp_m_ugly_34 cI cC h i0 i1 a2 a3 a4 a5 a6 a7 a8 i9 a10 a11 a12 a13 a14 a15 i16 i17 a18 i19 a20 a21 i22 a23 dr hdr S hRf hRl hRc hK  (fun ls H locs hl hP hS => ?_) 0 (by omega) ls H locs (lv_sub hl [1, 2, 3, 0] rfl) hP hS
  have hdl := dkL_le hdr 441 (by omega)
  refine lv_bipush (v := nI 20) hx hb d_m_ugly_147 (by decide) ?_
  refine lv_iload_n hx hb d_m_ugly_149 rfl (lv_at hl 2 rfl) ?_
  refine n_imul hx hb d_m_ugly_150 ?_
  refine lv_sipush (v := nI 4410) hx hb d_m_ugly_151 (by decide) ?_
  rcases Nat.lt_or_ge (20 * (dkL dr 441)) 4410 with h154 | h154
  · skip
    refine lv_isub hx hb d_m_ugly_154 ?_
    refine lv_istore_n hx hb d_m_ugly_155 rfl hl (Nat.le_of_ble_eq_true rfl) rfl (fun ls hl => ?_)
    have hl : lv_has ls 5 [(3, .int (nI (20 * (dkL dr 441)) - nI 4410)), (0, .ref h), (1, .int (nI (sqL dr 441))), (2, .int (nI (dkL dr 441)))] := hl
    refine lv_iload_n hx hb d_m_ugly_156 rfl (lv_at hl 2 rfl) ?_
    refine lv_bipush (v := nI 10) hx hb d_m_ugly_157 (by decide) ?_
    refine lv_iload_n hx hb d_m_ugly_159 rfl (lv_at hl 0 rfl) ?_
    refine lv_if_ge hx hb d_m_ugly_160 (tgt := 168) rfl (fun g160 => absurd g160 (nx_nge0 h154 (by decide))) (fun g160 => ?_)
    refine lv_iload_n hx hb d_m_ugly_163 rfl (lv_at hl 0 rfl) ?_
    refine lv_ineg hx hb d_m_ugly_164 ?_
    refine n_top (show -(nI (20 * (dkL dr 441)) - nI 4410) = (nI (4410 - 20 * dkL dr 441)) from (nx_negsub (by omega))) ?_
    refine lv_goto hx hb d_m_ugly_165 (tgt := 169) rfl ?_
    refine lv_sipush (v := nI 441) hx hb d_m_ugly_169 (by decide) ?_
    refine n_idiv hx hb d_m_ugly_172 (by omega) (by omega) (by omega) ?_
    refine n_imul hx hb d_m_ugly_173 ?_
    refine n_iadd hx hb d_m_ugly_174 ?_
    refine n_topn (show (sqL dr 441) + (10 * ((4410 - 20 * dkL dr 441) / 441)) = ugN dr from (by first | exact (ugN_t h154).symm | exact (ugN_f h154).symm)) ?_
    exact kr _ ls H locs d_m_ugly_175 hP hS
  · skip
    refine n_isub hx hb d_m_ugly_154 h154 ?_
    refine lv_istore_n hx hb d_m_ugly_155 rfl hl (Nat.le_of_ble_eq_true rfl) rfl (fun ls hl => ?_)
    have hl : lv_has ls 5 [(3, .int (nI (20 * (dkL dr 441) - 4410))), (0, .ref h), (1, .int (nI (sqL dr 441))), (2, .int (nI (dkL dr 441)))] := hl
    refine lv_iload_n hx hb d_m_ugly_156 rfl (lv_at hl 2 rfl) ?_
    refine lv_bipush (v := nI 10) hx hb d_m_ugly_157 (by decide) ?_
    refine lv_iload_n hx hb d_m_ugly_159 rfl (lv_at hl 0 rfl) ?_
    refine n_if_ge hx hb d_m_ugly_160 (tgt := 168) rfl (by omega) ?_
    refine lv_iload_n hx hb d_m_ugly_168 rfl (lv_at hl 0 rfl) ?_
    refine lv_sipush (v := nI 441) hx hb d_m_ugly_169 (by decide) ?_
    refine n_idiv hx hb d_m_ugly_172 (by omega) (by omega) (by omega) ?_
    refine n_imul hx hb d_m_ugly_173 ?_
    refine n_iadd hx hb d_m_ugly_174 ?_
    refine n_topn (show (sqL dr 441) + (10 * ((20 * (dkL dr 441) - 4410) / 441)) = ugN dr from (by first | exact (ugN_t h154).symm | exact (ugN_f h154).symm)) ?_
    exact kr _ ls H locs d_m_ugly_175 hP hS
set_option maxHeartbeats 1000000 in
set_option maxRecDepth 100000 in
theorem c_m_ugly (l : Launch) (D : va_G) (cI cC : ClassId) (h i0 i1 a2 a3 a4 a5 a6 a7 a8 i9 a10 a11 a12 a13 a14 a15 i16 i17 a18 i19 a20 a21 i22 a23 : Nat) (dr : Nat → Nat) (hdr : ∀ j, j < 441 → dr j ≤ 1) : Met l y_m_ugly (cd_m_ugly :: WS) { frames := 2, cells := 0, slots := 0, locals := 47 } (va_Pc [.ref h] (rP D [(h, .inr (8, [.int (nI i0), .int (nI i1), .ref a2, .ref a3, .ref a4, .ref a5, .ref a6, .ref a7, .ref a8, .int (nI i9), .ref a10, .ref a11, .ref a12, .ref a13, .ref a14, .ref a15, .int (nI i16), .int (nI i17), .ref a18, .int (nI i19), .ref a20, .ref a21, .int (nI i22), .ref a23])), (a4, .inl (cI, 441, .inl (fun j => nI (dr j))))] [(cI, .int), (cC, .char)])) (pQ (nI (ugN dr))) 0 0 noA := by
  refine Met.ofW (cc := b_m_ugly) (maxL := 5) (ret := (some .int)) (by decide) rfl ?_
  intro p e s m args below meth c s₁ B hml hv0
  obtain ⟨rfl, hP, hK⟩ := hv0
  have hts := atoms_spec (ws := cd_m_ugly :: WS) B.pre
  have hown : s.vm.findClass R_Model = some m.cls := findClass_of_methodNamed B.named
  have hlocks := B.notSynchronized
  have hl := lv_entry ([.ref h]) (n := 5) (Nat.le_of_ble_eq_true rfl)
  rw [lg_entry_eq]
  generalize (lg_sl ([.ref h]) ++ List.replicate (5 - (lg_sl ([.ref h])).length) Slot.unset).toArray = ls at hl ⊢
  refine bd_m_ugly cI cC h i0 i1 a2 a3 a4 a5 a6 a7 a8 i9 a10 a11 a12 a13 a14 a15 i16 i17 a18 i19 a20 a21 i22 a23 dr hdr ⟨B.exec, B.bytes, hml, hown, hts⟩ (Nat.le_refl _) (Nat.le_refl _) ⟨Nat.le_refl _, Nat.le_refl _⟩ hK (fun pc ls H locs hd hP hS => ?_) ls _ _ hl hP (va_S.rf (A := noA))
  exact W.iret B.exec B.bytes B.returns (fun t ht _ => ⟨⟨_, (), rfl, rfl, trivial⟩, hS.F ht⟩) hS.2.2 hd
end
section
theorem d_m_type_0 : decode b_m_type 0 = .ok (.aload_n 0, 1) := by decide +kernel
theorem d_m_type_1 : decode b_m_type 1 = .ok (.iconst 0, 1) := by decide +kernel
theorem d_m_type_2 : decode b_m_type 2 = .ok (.putfield 65, 3) := by decide +kernel
theorem d_m_type_5 : decode b_m_type 5 = .ok (.iload_n 1, 1) := by decide +kernel
theorem d_m_type_6 : decode b_m_type 6 = .ok (.bipush 32, 2) := by decide +kernel
theorem d_m_type_8 : decode b_m_type 8 = .ok (.if_icmp .lt 18, 3) := by decide +kernel
theorem d_m_type_11 : decode b_m_type 11 = .ok (.iload_n 1, 1) := by decide +kernel
theorem d_m_type_12 : decode b_m_type 12 = .ok (.bipush 126, 2) := by decide +kernel
theorem d_m_type_14 : decode b_m_type 14 = .ok (.if_icmp .gt 12, 3) := by decide +kernel
theorem d_m_type_17 : decode b_m_type 17 = .ok (.aload_n 0, 1) := by decide +kernel
theorem d_m_type_18 : decode b_m_type 18 = .ok (.getfield 76, 3) := by decide +kernel
theorem d_m_type_21 : decode b_m_type 21 = .ok (.bipush 45, 2) := by decide +kernel
theorem d_m_type_23 : decode b_m_type 23 = .ok (.if_icmp .ne 5, 3) := by decide +kernel
theorem d_m_type_26 : decode b_m_type 26 = .ok (.iconst 0, 1) := by decide +kernel
theorem d_m_type_27 : decode b_m_type 27 = .ok (.ireturn, 1) := by decide +kernel
theorem d_m_type_28 : decode b_m_type 28 = .ok (.aload_n 0, 1) := by decide +kernel
theorem d_m_type_29 : decode b_m_type 29 = .ok (.getfield 7, 3) := by decide +kernel
theorem d_m_type_32 : decode b_m_type 32 = .ok (.aload_n 0, 1) := by decide +kernel
theorem d_m_type_33 : decode b_m_type 33 = .ok (.getfield 76, 3) := by decide +kernel
theorem d_m_type_36 : decode b_m_type 36 = .ok (.iload_n 1, 1) := by decide +kernel
theorem d_m_type_37 : decode b_m_type 37 = .ok (.iastore, 1) := by decide +kernel
theorem d_m_type_38 : decode b_m_type 38 = .ok (.aload_n 0, 1) := by decide +kernel
theorem d_m_type_39 : decode b_m_type 39 = .ok (.dup, 1) := by decide +kernel
theorem d_m_type_40 : decode b_m_type 40 = .ok (.getfield 76, 3) := by decide +kernel
theorem d_m_type_43 : decode b_m_type 43 = .ok (.iconst 1, 1) := by decide +kernel
theorem d_m_type_44 : decode b_m_type 44 = .ok (.iadd, 1) := by decide +kernel
theorem d_m_type_45 : decode b_m_type 45 = .ok (.putfield 76, 3) := by decide +kernel
theorem d_m_type_48 : decode b_m_type 48 = .ok (.iconst 1, 1) := by decide +kernel
theorem d_m_type_49 : decode b_m_type 49 = .ok (.ireturn, 1) := by decide +kernel
end
section
variable {p : Program} {l : Launch} {e : Env} {R : Room} {s : State} {m : MethodId} {args : Array Value} {below : List Frame} {meth : Method} {c : Code} {cells slots : Nat} {Q : State → Prop} {A : Nat → Prop} {H0 : Heap} {D : va_G}
set_option maxHeartbeats 1000000 in
set_option maxRecDepth 100000 in
theorem bd_m_type_no (cI cC : ClassId) (h i0 i1 a2 a3 a4 a5 a6 a7 a8 i9 a10 a11 a12 a13 a14 a15 i16 i17 a18 i19 a20 a21 i22 a23 : Nat) (tx : Nat → Nat) (x : Nat) (hx0 : x < 65536) (hi1 : i1 ≤ 45) (hno : x < 32 ∨ 126 < x ∨ i1 = 45) (S : CallFix p m c b_m_type 2 s args (cd_m_type :: WS) R_Model) (hRf : 0 ≤ R.frames) (hRl : 0 ≤ R.locals) (hRc : cells ≤ R.cells ∧ slots ≤ R.slots) (hK : va_K D classes [(cI, .int), (cC, .char)] s) (hA : ∀ q, H0.size ≤ q → A q) (kr : ∀ (pc : Nat) (ls : Array Slot) (H : Heap) (locs : List Loc), decode b_m_type pc = .ok (.ireturn, 1) → va_P D classes [(h, .inr (8, [.int (nI 0), .int (nI i1), .ref a2, .ref a3, .ref a4, .ref a5, .ref a6, .ref a7, .ref a8, .int (nI i9), .ref a10, .ref a11, .ref a12, .ref a13, .ref a14, .ref a15, .int (nI i16), .int (nI i17), .ref a18, .int (nI i19), .ref a20, .ref a21, .int (nI i22), .ref a23])), (a2, .inl (cI, 45, .inl (fun j => nI (tx j))))] H → va_D A [(h, .inr (8, [.int (nI 0), .int (nI i1), .ref a2, .ref a3, .ref a4, .ref a5, .ref a6, .ref a7, .ref a8, .int (nI i9), .ref a10, .ref a11, .ref a12, .ref a13, .ref a14, .ref a15, .int (nI i16), .int (nI i17), .ref a18, .int (nI i19), .ref a20, .ref a21, .int (nI i22), .ref a23])), (a2, .inl (cI, 45, .inl (fun j => nI (tx j))))] → va_S A H0 H locs → W p l e R s m args below meth c H locs cells slots Q (F0 m pc ls [.int (nI 0)])) : ∀ (ls : Array Slot) (H : Heap) (locs : List Loc), lv_has ls 2 [(0, .ref h), (1, .int (nI x))] → va_P D classes [(h, .inr (8, [.int (nI i0), .int (nI i1), .ref a2, .ref a3, .ref a4, .ref a5, .ref a6, .ref a7, .ref a8, .int (nI i9), .ref a10, .ref a11, .ref a12, .ref a13, .ref a14, .ref a15, .int (nI i16), .int (nI i17), .ref a18, .int (nI i19), .ref a20, .ref a21, .int (nI i22), .ref a23])), (a2, .inl (cI, 45, .inl (fun j => nI (tx j))))] H → va_D A [(h, .inr (8, [.int (nI i0), .int (nI i1), .ref a2, .ref a3, .ref a4, .ref a5, .ref a6, .ref a7, .ref a8, .int (nI i9), .ref a10, .ref a11, .ref a12, .ref a13, .ref a14, .ref a15, .int (nI i16), .int (nI i17), .ref a18, .int (nI i19), .ref a20, .ref a21, .int (nI i22), .ref a23])), (a2, .inl (cI, 45, .inl (fun j => nI (tx j))))] → va_S A H0 H locs → W p l e R s m args below meth c H locs cells slots Q (F0 m 0 ls []) := by
  obtain ⟨hx, hb, hml, hown, hts⟩ := id S
  intro ls H locs hl hP hD hS
  refine lv_aload_n hx hb d_m_type_0 rfl (lv_at hl 0 rfl) ?_
  refine lv_iconst (v := nI 0) hx hb d_m_type_1 (by decide) ?_
  refine n_put (C := R_Model) (T := F_Model) (N := 24) (v := .int (nI 0)) hx hb hts u_Model_in t_Model t_Model_ok n_Model hown hK hP hD hS 0 rfl rfl 0 (by decide) kw_776 rfl rfl rfl (Nat.le_of_ble_eq_true rfl) d_m_type_2 (fun H locs hP hD hS => ?_)
  have hP : va_P D classes [(h, .inr (8, [.int (nI 0), .int (nI i1), .ref a2, .ref a3, .ref a4, .ref a5, .ref a6, .ref a7, .ref a8, .int (nI i9), .ref a10, .ref a11, .ref a12, .ref a13, .ref a14, .ref a15, .int (nI i16), .int (nI i17), .ref a18, .int (nI i19), .ref a20, .ref a21, .int (nI i22), .ref a23])), (a2, .inl (cI, 45, .inl (fun j => nI (tx j))))] H := hP
  have hD : va_D A [(h, .inr (8, [.int (nI 0), .int (nI i1), .ref a2, .ref a3, .ref a4, .ref a5, .ref a6, .ref a7, .ref a8, .int (nI i9), .ref a10, .ref a11, .ref a12, .ref a13, .ref a14, .ref a15, .int (nI i16), .int (nI i17), .ref a18, .int (nI i19), .ref a20, .ref a21, .int (nI i22), .ref a23])), (a2, .inl (cI, 45, .inl (fun j => nI (tx j))))] := hD
  refine lv_iload_n hx hb d_m_type_5 rfl (lv_at hl 1 rfl) ?_
  refine lv_bipush (v := nI 32) hx hb d_m_type_6 (by decide) ?_
  refine n_icmp_lt hx hb d_m_type_8 (tgt := 26) rfl (by omega) (by omega) (fun g8 => ?_) (fun g8 => ?_)
  · skip
    refine lv_iconst (v := nI 0) hx hb d_m_type_26 (by decide) ?_
    exact kr _ ls H locs d_m_type_27 hP hD hS
  · skip
    refine lv_iload_n hx hb d_m_type_11 rfl (lv_at hl 1 rfl) ?_
    refine lv_bipush (v := nI 126) hx hb d_m_type_12 (by decide) ?_
    refine n_icmp_gt hx hb d_m_type_14 (tgt := 26) rfl (by omega) (by omega) (fun g14 => ?_) (fun g14 => ?_)
    · skip
      refine lv_iconst (v := nI 0) hx hb d_m_type_26 (by decide) ?_
      exact kr _ ls H locs d_m_type_27 hP hD hS
    · skip
      refine lv_aload_n hx hb d_m_type_17 rfl (lv_at hl 0 rfl) ?_
      refine n_get (C := R_Model) (T := F_Model) (N := 24) (v := .int (nI i1)) hx hb hts u_Model_in hown hK hP 0 rfl rfl 1 (by decide) kw_777 rfl d_m_type_18 ?_
      refine lv_bipush (v := nI 45) hx hb d_m_type_21 (by decide) ?_
      refine n_icmp_ne hx hb d_m_type_23 (tgt := 28) rfl (by omega) (by omega) (fun g23 => absurd g23 (by omega)) (fun g23 => ?_)
      refine lv_iconst (v := nI 0) hx hb d_m_type_26 (by decide) ?_
      exact kr _ ls H locs d_m_type_27 hP hD hS
set_option maxHeartbeats 1000000 in
set_option maxRecDepth 100000 in
theorem c_m_type_no (l : Launch) (D : va_G) (cI cC : ClassId) (h i0 i1 a2 a3 a4 a5 a6 a7 a8 i9 a10 a11 a12 a13 a14 a15 i16 i17 a18 i19 a20 a21 i22 a23 : Nat) (tx : Nat → Nat) (x : Nat) (hx0 : x < 65536) (hi1 : i1 ≤ 45) (hno : x < 32 ∨ 126 < x ∨ i1 = 45) (sz : Nat) : Met l y_m_type (cd_m_type :: WS) { frames := 0, cells := 0, slots := 0, locals := 0 } (va_Pc [.ref h, .int (nI x)] (wP D [(h, .inr (8, [.int (nI i0), .int (nI i1), .ref a2, .ref a3, .ref a4, .ref a5, .ref a6, .ref a7, .ref a8, .int (nI i9), .ref a10, .ref a11, .ref a12, .ref a13, .ref a14, .ref a15, .int (nI i16), .int (nI i17), .ref a18, .int (nI i19), .ref a20, .ref a21, .int (nI i22), .ref a23])), (a2, .inl (cI, 45, .inl (fun j => nI (tx j))))] [(cI, .int), (cC, .char)] sz)) (wQi D (nI 0) [(h, .inr (8, [.int (nI i0), .int (nI i1), .ref a2, .ref a3, .ref a4, .ref a5, .ref a6, .ref a7, .ref a8, .int (nI i9), .ref a10, .ref a11, .ref a12, .ref a13, .ref a14, .ref a15, .int (nI i16), .int (nI i17), .ref a18, .int (nI i19), .ref a20, .ref a21, .int (nI i22), .ref a23])), (a2, .inl (cI, 45, .inl (fun j => nI (tx j))))] [(h, .inr (8, [.int (nI 0), .int (nI i1), .ref a2, .ref a3, .ref a4, .ref a5, .ref a6, .ref a7, .ref a8, .int (nI i9), .ref a10, .ref a11, .ref a12, .ref a13, .ref a14, .ref a15, .int (nI i16), .int (nI i17), .ref a18, .int (nI i19), .ref a20, .ref a21, .int (nI i22), .ref a23])), (a2, .inl (cI, 45, .inl (fun j => nI (tx j))))] sz) 0 0 (va_A [(h, .inr (8, [.int (nI i0), .int (nI i1), .ref a2, .ref a3, .ref a4, .ref a5, .ref a6, .ref a7, .ref a8, .int (nI i9), .ref a10, .ref a11, .ref a12, .ref a13, .ref a14, .ref a15, .int (nI i16), .int (nI i17), .ref a18, .int (nI i19), .ref a20, .ref a21, .int (nI i22), .ref a23])), (a2, .inl (cI, 45, .inl (fun j => nI (tx j))))] sz) := by
  refine Met.ofW (cc := b_m_type) (maxL := 2) (ret := (some .boolean)) (by decide) rfl ?_
  intro p e s m args below meth c s₁ B hml hv0
  obtain ⟨rfl, hP, hK, hD0, hsz⟩ := hv0
  have hts := atoms_spec (ws := cd_m_type :: WS) B.pre
  have hown : s.vm.findClass R_Model = some m.cls := findClass_of_methodNamed B.named
  have hlocks := B.notSynchronized
  subst hsz
  have hD := hD0.self (sz := s.heap.size)
  have hl := lv_entry ([.ref h, .int (nI x)]) (n := 2) (Nat.le_of_ble_eq_true rfl)
  rw [lg_entry_eq]
  generalize (lg_sl ([.ref h, .int (nI x)]) ++ List.replicate (2 - (lg_sl ([.ref h, .int (nI x)])).length) Slot.unset).toArray = ls at hl ⊢
  refine bd_m_type_no cI cC h i0 i1 a2 a3 a4 a5 a6 a7 a8 i9 a10 a11 a12 a13 a14 a15 i16 i17 a18 i19 a20 a21 i22 a23 tx x hx0 hi1 hno ⟨B.exec, B.bytes, hml, hown, hts⟩ (Nat.le_refl _) (Nat.le_refl _) ⟨Nat.le_refl _, Nat.le_refl _⟩ hK (fun q h => Or.inr h) (fun pc ls H locs hd hP hD hS => ?_) ls _ _ hl hP hD (va_S.rf)
  exact W.zret B.exec B.bytes B.returns rfl (fun t ht _ => ⟨⟨_, (), rfl, rfl, (by have h9 := hP; rw [← ht] at h9; exact h9)⟩, hS.F ht⟩) hS.2.2 hd
end
section
variable {p : Program} {l : Launch} {e : Env} {R : Room} {s : State} {m : MethodId} {args : Array Value} {below : List Frame} {meth : Method} {c : Code} {cells slots : Nat} {Q : State → Prop} {A : Nat → Prop} {H0 : Heap} {D : va_G}
set_option maxHeartbeats 1000000 in
set_option maxRecDepth 100000 in
theorem bd_m_type_yes (cI cC : ClassId) (h i0 i1 a2 a3 a4 a5 a6 a7 a8 i9 a10 a11 a12 a13 a14 a15 i16 i17 a18 i19 a20 a21 i22 a23 : Nat) (tx : Nat → Nat) (x : Nat) (hx0 : 32 ≤ x) (hx1 : x ≤ 126) (hi1 : i1 < 45) (S : CallFix p m c b_m_type 2 s args (cd_m_type :: WS) R_Model) (hRf : 0 ≤ R.frames) (hRl : 0 ≤ R.locals) (hRc : cells ≤ R.cells ∧ slots ≤ R.slots) (hK : va_K D classes [(cI, .int), (cC, .char)] s) (hA : ∀ q, H0.size ≤ q → A q) (kr : ∀ (pc : Nat) (ls : Array Slot) (H : Heap) (locs : List Loc), decode b_m_type pc = .ok (.ireturn, 1) → va_P D classes [(h, .inr (8, [.int (nI 0), .int (nI (i1 + 1)), .ref a2, .ref a3, .ref a4, .ref a5, .ref a6, .ref a7, .ref a8, .int (nI i9), .ref a10, .ref a11, .ref a12, .ref a13, .ref a14, .ref a15, .int (nI i16), .int (nI i17), .ref a18, .int (nI i19), .ref a20, .ref a21, .int (nI i22), .ref a23])), (a2, .inl (cI, 45, .inl (fun j => nI ((va_up tx i1 x) j))))] H → va_D A [(h, .inr (8, [.int (nI 0), .int (nI (i1 + 1)), .ref a2, .ref a3, .ref a4, .ref a5, .ref a6, .ref a7, .ref a8, .int (nI i9), .ref a10, .ref a11, .ref a12, .ref a13, .ref a14, .ref a15, .int (nI i16), .int (nI i17), .ref a18, .int (nI i19), .ref a20, .ref a21, .int (nI i22), .ref a23])), (a2, .inl (cI, 45, .inl (fun j => nI ((va_up tx i1 x) j))))] → va_S A H0 H locs → W p l e R s m args below meth c H locs cells slots Q (F0 m pc ls [.int (nI 1)])) : ∀ (ls : Array Slot) (H : Heap) (locs : List Loc), lv_has ls 2 [(0, .ref h), (1, .int (nI x))] → va_P D classes [(h, .inr (8, [.int (nI i0), .int (nI i1), .ref a2, .ref a3, .ref a4, .ref a5, .ref a6, .ref a7, .ref a8, .int (nI i9), .ref a10, .ref a11, .ref a12, .ref a13, .ref a14, .ref a15, .int (nI i16), .int (nI i17), .ref a18, .int (nI i19), .ref a20, .ref a21, .int (nI i22), .ref a23])), (a2, .inl (cI, 45, .inl (fun j => nI (tx j))))] H → va_D A [(h, .inr (8, [.int (nI i0), .int (nI i1), .ref a2, .ref a3, .ref a4, .ref a5, .ref a6, .ref a7, .ref a8, .int (nI i9), .ref a10, .ref a11, .ref a12, .ref a13, .ref a14, .ref a15, .int (nI i16), .int (nI i17), .ref a18, .int (nI i19), .ref a20, .ref a21, .int (nI i22), .ref a23])), (a2, .inl (cI, 45, .inl (fun j => nI (tx j))))] → va_S A H0 H locs → W p l e R s m args below meth c H locs cells slots Q (F0 m 0 ls []) := by
  obtain ⟨hx, hb, hml, hown, hts⟩ := id S
  intro ls H locs hl hP hD hS
  refine lv_aload_n hx hb d_m_type_0 rfl (lv_at hl 0 rfl) ?_
  refine lv_iconst (v := nI 0) hx hb d_m_type_1 (by decide) ?_
  refine n_put (C := R_Model) (T := F_Model) (N := 24) (v := .int (nI 0)) hx hb hts u_Model_in t_Model t_Model_ok n_Model hown hK hP hD hS 0 rfl rfl 0 (by decide) kw_776 rfl rfl rfl (Nat.le_of_ble_eq_true rfl) d_m_type_2 (fun H locs hP hD hS => ?_)
  have hP : va_P D classes [(h, .inr (8, [.int (nI 0), .int (nI i1), .ref a2, .ref a3, .ref a4, .ref a5, .ref a6, .ref a7, .ref a8, .int (nI i9), .ref a10, .ref a11, .ref a12, .ref a13, .ref a14, .ref a15, .int (nI i16), .int (nI i17), .ref a18, .int (nI i19), .ref a20, .ref a21, .int (nI i22), .ref a23])), (a2, .inl (cI, 45, .inl (fun j => nI (tx j))))] H := hP
  have hD : va_D A [(h, .inr (8, [.int (nI 0), .int (nI i1), .ref a2, .ref a3, .ref a4, .ref a5, .ref a6, .ref a7, .ref a8, .int (nI i9), .ref a10, .ref a11, .ref a12, .ref a13, .ref a14, .ref a15, .int (nI i16), .int (nI i17), .ref a18, .int (nI i19), .ref a20, .ref a21, .int (nI i22), .ref a23])), (a2, .inl (cI, 45, .inl (fun j => nI (tx j))))] := hD
  refine lv_iload_n hx hb d_m_type_5 rfl (lv_at hl 1 rfl) ?_
  refine lv_bipush (v := nI 32) hx hb d_m_type_6 (by decide) ?_
  refine n_icmp_lt hx hb d_m_type_8 (tgt := 26) rfl (by omega) (by omega) (fun g8 => absurd g8 (by omega)) (fun g8 => ?_)
  refine lv_iload_n hx hb d_m_type_11 rfl (lv_at hl 1 rfl) ?_
  refine lv_bipush (v := nI 126) hx hb d_m_type_12 (by decide) ?_
  refine n_icmp_gt hx hb d_m_type_14 (tgt := 26) rfl (by omega) (by omega) (fun g14 => absurd g14 (by omega)) (fun g14 => ?_)
  refine lv_aload_n hx hb d_m_type_17 rfl (lv_at hl 0 rfl) ?_
  refine n_get (C := R_Model) (T := F_Model) (N := 24) (v := .int (nI i1)) hx hb hts u_Model_in hown hK hP 0 rfl rfl 1 (by decide) kw_777 rfl d_m_type_18 ?_
  refine lv_bipush (v := nI 45) hx hb d_m_type_21 (by decide) ?_
  refine n_icmp_ne hx hb d_m_type_23 (tgt := 28) rfl (by omega) (by omega) (fun g23 => ?_) (fun g23 => absurd g23 (by omega))
  refine lv_aload_n hx hb d_m_type_28 rfl (lv_at hl 0 rfl) ?_
  refine n_get (C := R_Model) (T := F_Model) (N := 24) (v := .ref a2) hx hb hts u_Model_in hown hK hP 0 rfl rfl 2 (by decide) kw_778 rfl d_m_type_29 ?_
  refine lv_aload_n hx hb d_m_type_32 rfl (lv_at hl 0 rfl) ?_
  refine n_get (C := R_Model) (T := F_Model) (N := 24) (v := .int (nI i1)) hx hb hts u_Model_in hown hK hP 0 rfl rfl 1 (by decide) kw_777 rfl d_m_type_33 ?_
  refine lv_iload_n hx hb d_m_type_36 rfl (lv_at hl 1 rfl) ?_
  refine n_iast hx hb hK hP hD hS 1 0 rfl rfl (by omega) (by decide) d_m_type_37 (fun H locs hP hD hS => ?_)
  have hP : va_P D classes [(h, .inr (8, [.int (nI 0), .int (nI i1), .ref a2, .ref a3, .ref a4, .ref a5, .ref a6, .ref a7, .ref a8, .int (nI i9), .ref a10, .ref a11, .ref a12, .ref a13, .ref a14, .ref a15, .int (nI i16), .int (nI i17), .ref a18, .int (nI i19), .ref a20, .ref a21, .int (nI i22), .ref a23])), (a2, .inl (cI, 45, .inl (fun j => nI ((va_up tx i1 x) j))))] H := hP
  have hD : va_D A [(h, .inr (8, [.int (nI 0), .int (nI i1), .ref a2, .ref a3, .ref a4, .ref a5, .ref a6, .ref a7, .ref a8, .int (nI i9), .ref a10, .ref a11, .ref a12, .ref a13, .ref a14, .ref a15, .int (nI i16), .int (nI i17), .ref a18, .int (nI i19), .ref a20, .ref a21, .int (nI i22), .ref a23])), (a2, .inl (cI, 45, .inl (fun j => nI ((va_up tx i1 x) j))))] := hD
  refine lv_aload_n hx hb d_m_type_38 rfl (lv_at hl 0 rfl) ?_
  refine lv_dup hx hb d_m_type_39 rfl ?_
  refine n_get (C := R_Model) (T := F_Model) (N := 24) (v := .int (nI i1)) hx hb hts u_Model_in hown hK hP 0 rfl rfl 1 (by decide) kw_777 rfl d_m_type_40 ?_
  refine lv_iconst (v := nI 1) hx hb d_m_type_43 (by decide) ?_
  refine n_iadd hx hb d_m_type_44 ?_
  refine n_put (C := R_Model) (T := F_Model) (N := 24) (v := .int (nI (i1 + 1))) hx hb hts u_Model_in t_Model t_Model_ok n_Model hown hK hP hD hS 0 rfl rfl 1 (by decide) kw_777 rfl rfl rfl (Nat.le_of_ble_eq_true rfl) d_m_type_45 (fun H locs hP hD hS => ?_)
  have hP : va_P D classes [(h, .inr (8, [.int (nI 0), .int (nI (i1 + 1)), .ref a2, .ref a3, .ref a4, .ref a5, .ref a6, .ref a7, .ref a8, .int (nI i9), .ref a10, .ref a11, .ref a12, .ref a13, .ref a14, .ref a15, .int (nI i16), .int (nI i17), .ref a18, .int (nI i19), .ref a20, .ref a21, .int (nI i22), .ref a23])), (a2, .inl (cI, 45, .inl (fun j => nI ((va_up tx i1 x) j))))] H := hP
  have hD : va_D A [(h, .inr (8, [.int (nI 0), .int (nI (i1 + 1)), .ref a2, .ref a3, .ref a4, .ref a5, .ref a6, .ref a7, .ref a8, .int (nI i9), .ref a10, .ref a11, .ref a12, .ref a13, .ref a14, .ref a15, .int (nI i16), .int (nI i17), .ref a18, .int (nI i19), .ref a20, .ref a21, .int (nI i22), .ref a23])), (a2, .inl (cI, 45, .inl (fun j => nI ((va_up tx i1 x) j))))] := hD
  refine lv_iconst (v := nI 1) hx hb d_m_type_48 (by decide) ?_
  exact kr _ ls H locs d_m_type_49 hP hD hS
set_option maxHeartbeats 1000000 in
set_option maxRecDepth 100000 in
theorem c_m_type_yes (l : Launch) (D : va_G) (cI cC : ClassId) (h i0 i1 a2 a3 a4 a5 a6 a7 a8 i9 a10 a11 a12 a13 a14 a15 i16 i17 a18 i19 a20 a21 i22 a23 : Nat) (tx : Nat → Nat) (x : Nat) (hx0 : 32 ≤ x) (hx1 : x ≤ 126) (hi1 : i1 < 45) (sz : Nat) : Met l y_m_type (cd_m_type :: WS) { frames := 0, cells := 0, slots := 0, locals := 0 } (va_Pc [.ref h, .int (nI x)] (wP D [(h, .inr (8, [.int (nI i0), .int (nI i1), .ref a2, .ref a3, .ref a4, .ref a5, .ref a6, .ref a7, .ref a8, .int (nI i9), .ref a10, .ref a11, .ref a12, .ref a13, .ref a14, .ref a15, .int (nI i16), .int (nI i17), .ref a18, .int (nI i19), .ref a20, .ref a21, .int (nI i22), .ref a23])), (a2, .inl (cI, 45, .inl (fun j => nI (tx j))))] [(cI, .int), (cC, .char)] sz)) (wQi D (nI 1) [(h, .inr (8, [.int (nI i0), .int (nI i1), .ref a2, .ref a3, .ref a4, .ref a5, .ref a6, .ref a7, .ref a8, .int (nI i9), .ref a10, .ref a11, .ref a12, .ref a13, .ref a14, .ref a15, .int (nI i16), .int (nI i17), .ref a18, .int (nI i19), .ref a20, .ref a21, .int (nI i22), .ref a23])), (a2, .inl (cI, 45, .inl (fun j => nI (tx j))))] [(h, .inr (8, [.int (nI 0), .int (nI (i1 + 1)), .ref a2, .ref a3, .ref a4, .ref a5, .ref a6, .ref a7, .ref a8, .int (nI i9), .ref a10, .ref a11, .ref a12, .ref a13, .ref a14, .ref a15, .int (nI i16), .int (nI i17), .ref a18, .int (nI i19), .ref a20, .ref a21, .int (nI i22), .ref a23])), (a2, .inl (cI, 45, .inl (fun j => nI ((va_up tx i1 x) j))))] sz) 0 0 (va_A [(h, .inr (8, [.int (nI i0), .int (nI i1), .ref a2, .ref a3, .ref a4, .ref a5, .ref a6, .ref a7, .ref a8, .int (nI i9), .ref a10, .ref a11, .ref a12, .ref a13, .ref a14, .ref a15, .int (nI i16), .int (nI i17), .ref a18, .int (nI i19), .ref a20, .ref a21, .int (nI i22), .ref a23])), (a2, .inl (cI, 45, .inl (fun j => nI (tx j))))] sz) := by
  refine Met.ofW (cc := b_m_type) (maxL := 2) (ret := (some .boolean)) (by decide) rfl ?_
  intro p e s m args below meth c s₁ B hml hv0
  obtain ⟨rfl, hP, hK, hD0, hsz⟩ := hv0
  have hts := atoms_spec (ws := cd_m_type :: WS) B.pre
  have hown : s.vm.findClass R_Model = some m.cls := findClass_of_methodNamed B.named
  have hlocks := B.notSynchronized
  subst hsz
  have hD := hD0.self (sz := s.heap.size)
  have hl := lv_entry ([.ref h, .int (nI x)]) (n := 2) (Nat.le_of_ble_eq_true rfl)
  rw [lg_entry_eq]
  generalize (lg_sl ([.ref h, .int (nI x)]) ++ List.replicate (2 - (lg_sl ([.ref h, .int (nI x)])).length) Slot.unset).toArray = ls at hl ⊢
  refine bd_m_type_yes cI cC h i0 i1 a2 a3 a4 a5 a6 a7 a8 i9 a10 a11 a12 a13 a14 a15 i16 i17 a18 i19 a20 a21 i22 a23 tx x hx0 hx1 hi1 ⟨B.exec, B.bytes, hml, hown, hts⟩ (Nat.le_refl _) (Nat.le_refl _) ⟨Nat.le_refl _, Nat.le_refl _⟩ hK (fun q h => Or.inr h) (fun pc ls H locs hd hP hD hS => ?_) ls _ _ hl hP hD (va_S.rf)
  exact W.zret B.exec B.bytes B.returns rfl (fun t ht _ => ⟨⟨_, (), rfl, rfl, (by have h9 := hP; rw [← ht] at h9; exact h9)⟩, hS.F ht⟩) hS.2.2 hd
end
section
theorem d_m_module_0 : decode b_m_module 0 = .ok (.aload_n 0, 1) := by decide +kernel
theorem d_m_module_1 : decode b_m_module 1 = .ok (.iconst 0, 1) := by decide +kernel
theorem d_m_module_2 : decode b_m_module 2 = .ok (.putfield 65, 3) := by decide +kernel
theorem d_m_module_5 : decode b_m_module 5 = .ok (.iload_n 1, 1) := by decide +kernel
theorem d_m_module_6 : decode b_m_module 6 = .ok (.iload_n 2, 1) := by decide +kernel
theorem d_m_module_7 : decode b_m_module 7 = .ok (.invokestatic 136, 3) := by decide +kernel
theorem d_m_module_10 : decode b_m_module 10 = .ok (.ifCond .eq 17, 3) := by decide +kernel
theorem d_m_module_13 : decode b_m_module 13 = .ok (.aload_n 0, 1) := by decide +kernel
theorem d_m_module_14 : decode b_m_module 14 = .ok (.getfield 13, 3) := by decide +kernel
theorem d_m_module_17 : decode b_m_module 17 = .ok (.bipush 21, 2) := by decide +kernel
theorem d_m_module_19 : decode b_m_module 19 = .ok (.iload_n 1, 1) := by decide +kernel
theorem d_m_module_20 : decode b_m_module 20 = .ok (.imul, 1) := by decide +kernel
theorem d_m_module_21 : decode b_m_module 21 = .ok (.iload_n 2, 1) := by decide +kernel
theorem d_m_module_22 : decode b_m_module 22 = .ok (.iadd, 1) := by decide +kernel
theorem d_m_module_23 : decode b_m_module 23 = .ok (.iaload, 1) := by decide +kernel
theorem d_m_module_24 : decode b_m_module 24 = .ok (.goto 4, 3) := by decide +kernel
theorem d_m_module_27 : decode b_m_module 27 = .ok (.iconst (-1), 1) := by decide +kernel
theorem d_m_module_28 : decode b_m_module 28 = .ok (.ireturn, 1) := by decide +kernel
end
section
variable {p : Program} {l : Launch} {e : Env} {R : Room} {s : State} {m : MethodId} {args : Array Value} {below : List Frame} {meth : Method} {c : Code} {cells slots : Nat} {Q : State → Prop} {A : Nat → Prop} {H0 : Heap} {D : va_G}
set_option maxHeartbeats 1000000 in
set_option maxRecDepth 100000 in
theorem bd_m_module_in (cI cC : ClassId) (h i0 i1 a2 a3 a4 a5 a6 a7 a8 i9 a10 a11 a12 a13 a14 a15 i16 i17 a18 i19 a20 a21 i22 a23 : Nat) (gr : Nat → Nat) (r d : Nat) (hr : r < 21) (hd0 : d < 21) (S : CallFix p m c b_m_module 3 s args (cd_m_module :: WS) R_Model) (hRf : 1 ≤ R.frames) (hRl : 21 ≤ R.locals) (hRc : cells ≤ R.cells ∧ slots ≤ R.slots) (hK : va_K D classes [(cI, .int), (cC, .char)] s) (hA : ∀ q, H0.size ≤ q → A q) (kr : ∀ (pc : Nat) (ls : Array Slot) (H : Heap) (locs : List Loc), decode b_m_module pc = .ok (.ireturn, 1) → va_P D classes [(h, .inr (8, [.int (nI 0), .int (nI i1), .ref a2, .ref a3, .ref a4, .ref a5, .ref a6, .ref a7, .ref a8, .int (nI i9), .ref a10, .ref a11, .ref a12, .ref a13, .ref a14, .ref a15, .int (nI i16), .int (nI i17), .ref a18, .int (nI i19), .ref a20, .ref a21, .int (nI i22), .ref a23])), (a3, .inl (cI, 441, .inl (fun j => nI (gr j))))] H → va_D A [(h, .inr (8, [.int (nI 0), .int (nI i1), .ref a2, .ref a3, .ref a4, .ref a5, .ref a6, .ref a7, .ref a8, .int (nI i9), .ref a10, .ref a11, .ref a12, .ref a13, .ref a14, .ref a15, .int (nI i16), .int (nI i17), .ref a18, .int (nI i19), .ref a20, .ref a21, .int (nI i22), .ref a23])), (a3, .inl (cI, 441, .inl (fun j => nI (gr j))))] → va_S A H0 H locs → W p l e R s m args below meth c H locs cells slots Q (F0 m pc ls [.int (nI (gr (21 * r + d)))])) : ∀ (ls : Array Slot) (H : Heap) (locs : List Loc), lv_has ls 3 [(0, .ref h), (1, .int (nI r)), (2, .int (nI d))] → va_P D classes [(h, .inr (8, [.int (nI i0), .int (nI i1), .ref a2, .ref a3, .ref a4, .ref a5, .ref a6, .ref a7, .ref a8, .int (nI i9), .ref a10, .ref a11, .ref a12, .ref a13, .ref a14, .ref a15, .int (nI i16), .int (nI i17), .ref a18, .int (nI i19), .ref a20, .ref a21, .int (nI i22), .ref a23])), (a3, .inl (cI, 441, .inl (fun j => nI (gr j))))] H → va_D A [(h, .inr (8, [.int (nI i0), .int (nI i1), .ref a2, .ref a3, .ref a4, .ref a5, .ref a6, .ref a7, .ref a8, .int (nI i9), .ref a10, .ref a11, .ref a12, .ref a13, .ref a14, .ref a15, .int (nI i16), .int (nI i17), .ref a18, .int (nI i19), .ref a20, .ref a21, .int (nI i22), .ref a23])), (a3, .inl (cI, 441, .inl (fun j => nI (gr j))))] → va_S A H0 H locs → W p l e R s m args below meth c H locs cells slots Q (F0 m 0 ls []) := by
  obtain ⟨hx, hb, hml, hown, hts⟩ := id S
  intro ls H locs hl hP hD hS
  refine lv_aload_n hx hb d_m_module_0 rfl (lv_at hl 0 rfl) ?_
  refine lv_iconst (v := nI 0) hx hb d_m_module_1 (by decide) ?_
  refine n_put (C := R_Model) (T := F_Model) (N := 24) (v := .int (nI 0)) hx hb hts u_Model_in t_Model t_Model_ok n_Model hown hK hP hD hS 0 rfl rfl 0 (by decide) kw_776 rfl rfl rfl (Nat.le_of_ble_eq_true rfl) d_m_module_2 (fun H locs hP hD hS => ?_)
  have hP : va_P D classes [(h, .inr (8, [.int (nI 0), .int (nI i1), .ref a2, .ref a3, .ref a4, .ref a5, .ref a6, .ref a7, .ref a8, .int (nI i9), .ref a10, .ref a11, .ref a12, .ref a13, .ref a14, .ref a15, .int (nI i16), .int (nI i17), .ref a18, .int (nI i19), .ref a20, .ref a21, .int (nI i22), .ref a23])), (a3, .inl (cI, 441, .inl (fun j => nI (gr j))))] H := hP
  have hD : va_D A [(h, .inr (8, [.int (nI 0), .int (nI i1), .ref a2, .ref a3, .ref a4, .ref a5, .ref a6, .ref a7, .ref a8, .int (nI i9), .ref a10, .ref a11, .ref a12, .ref a13, .ref a14, .ref a15, .int (nI i16), .int (nI i17), .ref a18, .int (nI i19), .ref a20, .ref a21, .int (nI i22), .ref a23])), (a3, .inl (cI, 441, .inl (fun j => nI (gr j))))] := hD
  refine lv_iload_n hx hb d_m_module_5 rfl (lv_at hl 1 rfl) ?_
  refine lv_iload_n hx hb d_m_module_6 rfl (lv_at hl 2 rfl) ?_
  refine q_pureS (n := 2) (As := [.int (nI r), .int (nI d)]) (rest := []) S (c_m_isModule l (nI r) (nI d)) (q_goodS kw_930 kw_931 kw_10 kw_932) (by decide +kernel) rfl rfl ⟨Nat.le_trans (Nat.le_of_ble_eq_true rfl) hRf, Nat.le_trans (Nat.le_of_ble_eq_true rfl) hRl⟩ rfl hl.1 rfl (Nat.le_of_ble_eq_true rfl) d_m_module_7 hRc hS (fun H locs hkp hS => ?_)
  replace hP := hP.kept (fun k q hq => hkp q.1 (hP k q hq).lt)
  refine n_topn (show bN (isM (nI r) (nI d)) = 1 from (bN_t (isM_nI hr hd0))) ?_
  refine n_if_eq hx hb d_m_module_10 (tgt := 27) rfl (by omega) (fun g10 => absurd g10 (by decide)) (fun g10 => ?_)
  refine lv_aload_n hx hb d_m_module_13 rfl (lv_at hl 0 rfl) ?_
  refine n_get (C := R_Model) (T := F_Model) (N := 24) (v := .ref a3) hx hb hts u_Model_in hown hK hP 0 rfl rfl 3 (by decide) kw_779 rfl d_m_module_14 ?_
  refine lv_bipush (v := nI 21) hx hb d_m_module_17 (by decide) ?_
  refine lv_iload_n hx hb d_m_module_19 rfl (lv_at hl 1 rfl) ?_
  refine n_imul hx hb d_m_module_20 ?_
  refine lv_iload_n hx hb d_m_module_21 rfl (lv_at hl 2 rfl) ?_
  refine n_iadd hx hb d_m_module_22 ?_
  refine n_iald hx hb hK hP 1 0 rfl rfl (by omega) (by decide) d_m_module_23 ?_
  refine lv_goto hx hb d_m_module_24 (tgt := 28) rfl ?_
  refine n_topn (show gr ((21 * r) + d) = gr (21 * r + d) from rfl) ?_
  exact kr _ ls H locs d_m_module_28 hP hD hS
set_option maxHeartbeats 1000000 in
set_option maxRecDepth 100000 in
theorem c_m_module_in (l : Launch) (D : va_G) (cI cC : ClassId) (h i0 i1 a2 a3 a4 a5 a6 a7 a8 i9 a10 a11 a12 a13 a14 a15 i16 i17 a18 i19 a20 a21 i22 a23 : Nat) (gr : Nat → Nat) (r d : Nat) (hr : r < 21) (hd0 : d < 21) (sz : Nat) : Met l y_m_module (cd_m_module :: WS) { frames := 1, cells := 0, slots := 0, locals := 21 } (va_Pc [.ref h, .int (nI r), .int (nI d)] (wP D [(h, .inr (8, [.int (nI i0), .int (nI i1), .ref a2, .ref a3, .ref a4, .ref a5, .ref a6, .ref a7, .ref a8, .int (nI i9), .ref a10, .ref a11, .ref a12, .ref a13, .ref a14, .ref a15, .int (nI i16), .int (nI i17), .ref a18, .int (nI i19), .ref a20, .ref a21, .int (nI i22), .ref a23])), (a3, .inl (cI, 441, .inl (fun j => nI (gr j))))] [(cI, .int), (cC, .char)] sz)) (wQi D (nI (gr (21 * r + d))) [(h, .inr (8, [.int (nI i0), .int (nI i1), .ref a2, .ref a3, .ref a4, .ref a5, .ref a6, .ref a7, .ref a8, .int (nI i9), .ref a10, .ref a11, .ref a12, .ref a13, .ref a14, .ref a15, .int (nI i16), .int (nI i17), .ref a18, .int (nI i19), .ref a20, .ref a21, .int (nI i22), .ref a23])), (a3, .inl (cI, 441, .inl (fun j => nI (gr j))))] [(h, .inr (8, [.int (nI 0), .int (nI i1), .ref a2, .ref a3, .ref a4, .ref a5, .ref a6, .ref a7, .ref a8, .int (nI i9), .ref a10, .ref a11, .ref a12, .ref a13, .ref a14, .ref a15, .int (nI i16), .int (nI i17), .ref a18, .int (nI i19), .ref a20, .ref a21, .int (nI i22), .ref a23])), (a3, .inl (cI, 441, .inl (fun j => nI (gr j))))] sz) 0 0 (va_A [(h, .inr (8, [.int (nI i0), .int (nI i1), .ref a2, .ref a3, .ref a4, .ref a5, .ref a6, .ref a7, .ref a8, .int (nI i9), .ref a10, .ref a11, .ref a12, .ref a13, .ref a14, .ref a15, .int (nI i16), .int (nI i17), .ref a18, .int (nI i19), .ref a20, .ref a21, .int (nI i22), .ref a23])), (a3, .inl (cI, 441, .inl (fun j => nI (gr j))))] sz) := by
  refine Met.ofW (cc := b_m_module) (maxL := 3) (ret := (some .int)) (by decide) rfl ?_
  intro p e s m args below meth c s₁ B hml hv0
  obtain ⟨rfl, hP, hK, hD0, hsz⟩ := hv0
  have hts := atoms_spec (ws := cd_m_module :: WS) B.pre
  have hown : s.vm.findClass R_Model = some m.cls := findClass_of_methodNamed B.named
  have hlocks := B.notSynchronized
  subst hsz
  have hD := hD0.self (sz := s.heap.size)
  have hl := lv_entry ([.ref h, .int (nI r), .int (nI d)]) (n := 3) (Nat.le_of_ble_eq_true rfl)
  rw [lg_entry_eq]
  generalize (lg_sl ([.ref h, .int (nI r), .int (nI d)]) ++ List.replicate (3 - (lg_sl ([.ref h, .int (nI r), .int (nI d)])).length) Slot.unset).toArray = ls at hl ⊢
  refine bd_m_module_in cI cC h i0 i1 a2 a3 a4 a5 a6 a7 a8 i9 a10 a11 a12 a13 a14 a15 i16 i17 a18 i19 a20 a21 i22 a23 gr r d hr hd0 ⟨B.exec, B.bytes, hml, hown, hts⟩ (Nat.le_refl _) (Nat.le_refl _) ⟨Nat.le_refl _, Nat.le_refl _⟩ hK (fun q h => Or.inr h) (fun pc ls H locs hd hP hD hS => ?_) ls _ _ hl hP hD (va_S.rf)
  exact W.iret B.exec B.bytes B.returns (fun t ht _ => ⟨⟨_, (), rfl, rfl, (by have h9 := hP; rw [← ht] at h9; exact h9)⟩, hS.F ht⟩) hS.2.2 hd
end
section
variable {p : Program} {l : Launch} {e : Env} {R : Room} {s : State} {m : MethodId} {args : Array Value} {below : List Frame} {meth : Method} {c : Code} {cells slots : Nat} {Q : State → Prop} {A : Nat → Prop} {H0 : Heap} {D : va_G}
set_option maxHeartbeats 1000000 in
set_option maxRecDepth 100000 in
theorem bd_m_module_out (cI cC : ClassId) (h i0 i1 a2 a3 a4 a5 a6 a7 a8 i9 a10 a11 a12 a13 a14 a15 i16 i17 a18 i19 a20 a21 i22 a23 : Nat) (gr : Nat → Nat) (r d : Int32) (ho : ¬ isM r d) (S : CallFix p m c b_m_module 3 s args (cd_m_module :: WS) R_Model) (hRf : 1 ≤ R.frames) (hRl : 21 ≤ R.locals) (hRc : cells ≤ R.cells ∧ slots ≤ R.slots) (hK : va_K D classes [(cI, .int), (cC, .char)] s) (hA : ∀ q, H0.size ≤ q → A q) (kr : ∀ (pc : Nat) (ls : Array Slot) (H : Heap) (locs : List Loc), decode b_m_module pc = .ok (.ireturn, 1) → va_P D classes [(h, .inr (8, [.int (nI 0), .int (nI i1), .ref a2, .ref a3, .ref a4, .ref a5, .ref a6, .ref a7, .ref a8, .int (nI i9), .ref a10, .ref a11, .ref a12, .ref a13, .ref a14, .ref a15, .int (nI i16), .int (nI i17), .ref a18, .int (nI i19), .ref a20, .ref a21, .int (nI i22), .ref a23])), (a3, .inl (cI, 441, .inl (fun j => nI (gr j))))] H → va_D A [(h, .inr (8, [.int (nI 0), .int (nI i1), .ref a2, .ref a3, .ref a4, .ref a5, .ref a6, .ref a7, .ref a8, .int (nI i9), .ref a10, .ref a11, .ref a12, .ref a13, .ref a14, .ref a15, .int (nI i16), .int (nI i17), .ref a18, .int (nI i19), .ref a20, .ref a21, .int (nI i22), .ref a23])), (a3, .inl (cI, 441, .inl (fun j => nI (gr j))))] → va_S A H0 H locs → W p l e R s m args below meth c H locs cells slots Q (F0 m pc ls [.int (-1)])) : ∀ (ls : Array Slot) (H : Heap) (locs : List Loc), lv_has ls 3 [(0, .ref h), (1, .int r), (2, .int d)] → va_P D classes [(h, .inr (8, [.int (nI i0), .int (nI i1), .ref a2, .ref a3, .ref a4, .ref a5, .ref a6, .ref a7, .ref a8, .int (nI i9), .ref a10, .ref a11, .ref a12, .ref a13, .ref a14, .ref a15, .int (nI i16), .int (nI i17), .ref a18, .int (nI i19), .ref a20, .ref a21, .int (nI i22), .ref a23])), (a3, .inl (cI, 441, .inl (fun j => nI (gr j))))] H → va_D A [(h, .inr (8, [.int (nI i0), .int (nI i1), .ref a2, .ref a3, .ref a4, .ref a5, .ref a6, .ref a7, .ref a8, .int (nI i9), .ref a10, .ref a11, .ref a12, .ref a13, .ref a14, .ref a15, .int (nI i16), .int (nI i17), .ref a18, .int (nI i19), .ref a20, .ref a21, .int (nI i22), .ref a23])), (a3, .inl (cI, 441, .inl (fun j => nI (gr j))))] → va_S A H0 H locs → W p l e R s m args below meth c H locs cells slots Q (F0 m 0 ls []) := by
  obtain ⟨hx, hb, hml, hown, hts⟩ := id S
  intro ls H locs hl hP hD hS
  refine lv_aload_n hx hb d_m_module_0 rfl (lv_at hl 0 rfl) ?_
  refine lv_iconst (v := nI 0) hx hb d_m_module_1 (by decide) ?_
  refine n_put (C := R_Model) (T := F_Model) (N := 24) (v := .int (nI 0)) hx hb hts u_Model_in t_Model t_Model_ok n_Model hown hK hP hD hS 0 rfl rfl 0 (by decide) kw_776 rfl rfl rfl (Nat.le_of_ble_eq_true rfl) d_m_module_2 (fun H locs hP hD hS => ?_)
  have hP : va_P D classes [(h, .inr (8, [.int (nI 0), .int (nI i1), .ref a2, .ref a3, .ref a4, .ref a5, .ref a6, .ref a7, .ref a8, .int (nI i9), .ref a10, .ref a11, .ref a12, .ref a13, .ref a14, .ref a15, .int (nI i16), .int (nI i17), .ref a18, .int (nI i19), .ref a20, .ref a21, .int (nI i22), .ref a23])), (a3, .inl (cI, 441, .inl (fun j => nI (gr j))))] H := hP
  have hD : va_D A [(h, .inr (8, [.int (nI 0), .int (nI i1), .ref a2, .ref a3, .ref a4, .ref a5, .ref a6, .ref a7, .ref a8, .int (nI i9), .ref a10, .ref a11, .ref a12, .ref a13, .ref a14, .ref a15, .int (nI i16), .int (nI i17), .ref a18, .int (nI i19), .ref a20, .ref a21, .int (nI i22), .ref a23])), (a3, .inl (cI, 441, .inl (fun j => nI (gr j))))] := hD
  refine lv_iload_n hx hb d_m_module_5 rfl (lv_at hl 1 rfl) ?_
  refine lv_iload_n hx hb d_m_module_6 rfl (lv_at hl 2 rfl) ?_
  refine q_pureS (n := 2) (As := [.int r, .int d]) (rest := []) S (c_m_isModule l r d) (q_goodS kw_930 kw_931 kw_10 kw_932) (by decide +kernel) rfl rfl ⟨Nat.le_trans (Nat.le_of_ble_eq_true rfl) hRf, Nat.le_trans (Nat.le_of_ble_eq_true rfl) hRl⟩ rfl hl.1 rfl (Nat.le_of_ble_eq_true rfl) d_m_module_7 hRc hS (fun H locs hkp hS => ?_)
  replace hP := hP.kept (fun k q hq => hkp q.1 (hP k q hq).lt)
  refine n_topn (show bN (isM r d) = 0 from (bN_f ho)) ?_
  refine n_if_eq hx hb d_m_module_10 (tgt := 27) rfl (by omega) (fun g10 => ?_) (fun g10 => absurd g10 (by decide))
  refine lv_iconst (v := (-1)) hx hb d_m_module_27 (by decide) ?_
  exact kr _ ls H locs d_m_module_28 hP hD hS
set_option maxHeartbeats 1000000 in
set_option maxRecDepth 100000 in
theorem c_m_module_out (l : Launch) (D : va_G) (cI cC : ClassId) (h i0 i1 a2 a3 a4 a5 a6 a7 a8 i9 a10 a11 a12 a13 a14 a15 i16 i17 a18 i19 a20 a21 i22 a23 : Nat) (gr : Nat → Nat) (r d : Int32) (ho : ¬ isM r d) (sz : Nat) : Met l y_m_module (cd_m_module :: WS) { frames := 1, cells := 0, slots := 0, locals := 21 } (va_Pc [.ref h, .int r, .int d] (wP D [(h, .inr (8, [.int (nI i0), .int (nI i1), .ref a2, .ref a3, .ref a4, .ref a5, .ref a6, .ref a7, .ref a8, .int (nI i9), .ref a10, .ref a11, .ref a12, .ref a13, .ref a14, .ref a15, .int (nI i16), .int (nI i17), .ref a18, .int (nI i19), .ref a20, .ref a21, .int (nI i22), .ref a23])), (a3, .inl (cI, 441, .inl (fun j => nI (gr j))))] [(cI, .int), (cC, .char)] sz)) (wQi D (-1) [(h, .inr (8, [.int (nI i0), .int (nI i1), .ref a2, .ref a3, .ref a4, .ref a5, .ref a6, .ref a7, .ref a8, .int (nI i9), .ref a10, .ref a11, .ref a12, .ref a13, .ref a14, .ref a15, .int (nI i16), .int (nI i17), .ref a18, .int (nI i19), .ref a20, .ref a21, .int (nI i22), .ref a23])), (a3, .inl (cI, 441, .inl (fun j => nI (gr j))))] [(h, .inr (8, [.int (nI 0), .int (nI i1), .ref a2, .ref a3, .ref a4, .ref a5, .ref a6, .ref a7, .ref a8, .int (nI i9), .ref a10, .ref a11, .ref a12, .ref a13, .ref a14, .ref a15, .int (nI i16), .int (nI i17), .ref a18, .int (nI i19), .ref a20, .ref a21, .int (nI i22), .ref a23])), (a3, .inl (cI, 441, .inl (fun j => nI (gr j))))] sz) 0 0 (va_A [(h, .inr (8, [.int (nI i0), .int (nI i1), .ref a2, .ref a3, .ref a4, .ref a5, .ref a6, .ref a7, .ref a8, .int (nI i9), .ref a10, .ref a11, .ref a12, .ref a13, .ref a14, .ref a15, .int (nI i16), .int (nI i17), .ref a18, .int (nI i19), .ref a20, .ref a21, .int (nI i22), .ref a23])), (a3, .inl (cI, 441, .inl (fun j => nI (gr j))))] sz) := by
  refine Met.ofW (cc := b_m_module) (maxL := 3) (ret := (some .int)) (by decide) rfl ?_
  intro p e s m args below meth c s₁ B hml hv0
  obtain ⟨rfl, hP, hK, hD0, hsz⟩ := hv0
  have hts := atoms_spec (ws := cd_m_module :: WS) B.pre
  have hown : s.vm.findClass R_Model = some m.cls := findClass_of_methodNamed B.named
  have hlocks := B.notSynchronized
  subst hsz
  have hD := hD0.self (sz := s.heap.size)
  have hl := lv_entry ([.ref h, .int r, .int d]) (n := 3) (Nat.le_of_ble_eq_true rfl)
  rw [lg_entry_eq]
  generalize (lg_sl ([.ref h, .int r, .int d]) ++ List.replicate (3 - (lg_sl ([.ref h, .int r, .int d])).length) Slot.unset).toArray = ls at hl ⊢
  refine bd_m_module_out cI cC h i0 i1 a2 a3 a4 a5 a6 a7 a8 i9 a10 a11 a12 a13 a14 a15 i16 i17 a18 i19 a20 a21 i22 a23 gr r d ho ⟨B.exec, B.bytes, hml, hown, hts⟩ (Nat.le_refl _) (Nat.le_refl _) ⟨Nat.le_refl _, Nat.le_refl _⟩ hK (fun q h => Or.inr h) (fun pc ls H locs hd hP hD hS => ?_) ls _ _ hl hP hD (va_S.rf)
  exact W.iret B.exec B.bytes B.returns (fun t ht _ => ⟨⟨_, (), rfl, rfl, (by have h9 := hP; rw [← ht] at h9; exact h9)⟩, hS.F ht⟩) hS.2.2 hd
end
section
theorem d_m_flip_0 : decode b_m_flip 0 = .ok (.aload_n 0, 1) := by decide +kernel
theorem d_m_flip_1 : decode b_m_flip 1 = .ok (.iload_n 1, 1) := by decide +kernel
theorem d_m_flip_2 : decode b_m_flip 2 = .ok (.iload_n 2, 1) := by decide +kernel
theorem d_m_flip_3 : decode b_m_flip 3 = .ok (.invokestatic 136, 3) := by decide +kernel
theorem d_m_flip_6 : decode b_m_flip 6 = .ok (.iconst 1, 1) := by decide +kernel
theorem d_m_flip_7 : decode b_m_flip 7 = .ok (.invokevirtual 103, 3) := by decide +kernel
theorem d_m_flip_10 : decode b_m_flip 10 = .ok (.ifCond .ne 5, 3) := by decide +kernel
theorem d_m_flip_13 : decode b_m_flip 13 = .ok (.iconst 0, 1) := by decide +kernel
theorem d_m_flip_14 : decode b_m_flip 14 = .ok (.ireturn, 1) := by decide +kernel
theorem d_m_flip_15 : decode b_m_flip 15 = .ok (.aload_n 0, 1) := by decide +kernel
theorem d_m_flip_16 : decode b_m_flip 16 = .ok (.getfield 13, 3) := by decide +kernel
theorem d_m_flip_19 : decode b_m_flip 19 = .ok (.bipush 21, 2) := by decide +kernel
theorem d_m_flip_21 : decode b_m_flip 21 = .ok (.iload_n 1, 1) := by decide +kernel
theorem d_m_flip_22 : decode b_m_flip 22 = .ok (.imul, 1) := by decide +kernel
theorem d_m_flip_23 : decode b_m_flip 23 = .ok (.iload_n 2, 1) := by decide +kernel
theorem d_m_flip_24 : decode b_m_flip 24 = .ok (.iadd, 1) := by decide +kernel
theorem d_m_flip_25 : decode b_m_flip 25 = .ok (.iconst 1, 1) := by decide +kernel
theorem d_m_flip_26 : decode b_m_flip 26 = .ok (.aload_n 0, 1) := by decide +kernel
theorem d_m_flip_27 : decode b_m_flip 27 = .ok (.getfield 13, 3) := by decide +kernel
theorem d_m_flip_30 : decode b_m_flip 30 = .ok (.bipush 21, 2) := by decide +kernel
theorem d_m_flip_32 : decode b_m_flip 32 = .ok (.iload_n 1, 1) := by decide +kernel
theorem d_m_flip_33 : decode b_m_flip 33 = .ok (.imul, 1) := by decide +kernel
theorem d_m_flip_34 : decode b_m_flip 34 = .ok (.iload_n 2, 1) := by decide +kernel
theorem d_m_flip_35 : decode b_m_flip 35 = .ok (.iadd, 1) := by decide +kernel
theorem d_m_flip_36 : decode b_m_flip 36 = .ok (.iaload, 1) := by decide +kernel
theorem d_m_flip_37 : decode b_m_flip 37 = .ok (.isub, 1) := by decide +kernel
theorem d_m_flip_38 : decode b_m_flip 38 = .ok (.iastore, 1) := by decide +kernel
theorem d_m_flip_39 : decode b_m_flip 39 = .ok (.aload_n 0, 1) := by decide +kernel
theorem d_m_flip_40 : decode b_m_flip 40 = .ok (.getfield 13, 3) := by decide +kernel
theorem d_m_flip_43 : decode b_m_flip 43 = .ok (.bipush 21, 2) := by decide +kernel
theorem d_m_flip_45 : decode b_m_flip 45 = .ok (.iload_n 1, 1) := by decide +kernel
theorem d_m_flip_46 : decode b_m_flip 46 = .ok (.imul, 1) := by decide +kernel
theorem d_m_flip_47 : decode b_m_flip 47 = .ok (.iload_n 2, 1) := by decide +kernel
theorem d_m_flip_48 : decode b_m_flip 48 = .ok (.iadd, 1) := by decide +kernel
theorem d_m_flip_49 : decode b_m_flip 49 = .ok (.iaload, 1) := by decide +kernel
theorem d_m_flip_50 : decode b_m_flip 50 = .ok (.ireturn, 1) := by decide +kernel
end
section
variable {p : Program} {l : Launch} {e : Env} {R : Room} {s : State} {m : MethodId} {args : Array Value} {below : List Frame} {meth : Method} {c : Code} {cells slots : Nat} {Q : State → Prop} {A : Nat → Prop} {H0 : Heap} {D : va_G}
set_option maxHeartbeats 1000000 in
set_option maxRecDepth 100000 in
theorem bd_m_flip_in (cI cC : ClassId) (h i0 i1 a2 a3 a4 a5 a6 a7 a8 i9 a10 a11 a12 a13 a14 a15 i16 i17 a18 i19 a20 a21 i22 a23 : Nat) (gr : Nat → Nat) (r d : Nat) (hr : r < 21) (hd0 : d < 21) (hgr : ∀ j, j < 441 → gr j ≤ 1) (S : CallFix p m c b_m_flip 3 s args (cd_m_flip :: WS) R_Model) (hRf : 1 ≤ R.frames) (hRl : 22 ≤ R.locals) (hRc : cells ≤ R.cells ∧ slots ≤ R.slots) (hK : va_K D classes [(cI, .int), (cC, .char)] s) (hA : ∀ q, H0.size ≤ q → A q) (kr : ∀ (pc : Nat) (ls : Array Slot) (H : Heap) (locs : List Loc), decode b_m_flip pc = .ok (.ireturn, 1) → va_P D classes [(h, .inr (8, [.int (nI 0), .int (nI i1), .ref a2, .ref a3, .ref a4, .ref a5, .ref a6, .ref a7, .ref a8, .int (nI i9), .ref a10, .ref a11, .ref a12, .ref a13, .ref a14, .ref a15, .int (nI i16), .int (nI i17), .ref a18, .int (nI i19), .ref a20, .ref a21, .int (nI i22), .ref a23])), (a3, .inl (cI, 441, .inl (fun j => nI ((va_up gr (21 * r + d) (1 - gr (21 * r + d))) j))))] H → va_D A [(h, .inr (8, [.int (nI 0), .int (nI i1), .ref a2, .ref a3, .ref a4, .ref a5, .ref a6, .ref a7, .ref a8, .int (nI i9), .ref a10, .ref a11, .ref a12, .ref a13, .ref a14, .ref a15, .int (nI i16), .int (nI i17), .ref a18, .int (nI i19), .ref a20, .ref a21, .int (nI i22), .ref a23])), (a3, .inl (cI, 441, .inl (fun j => nI ((va_up gr (21 * r + d) (1 - gr (21 * r + d))) j))))] → va_S A H0 H locs → W p l e R s m args below meth c H locs cells slots Q (F0 m pc ls [.int (nI (1 - gr (21 * r + d)))])) : ∀ (ls : Array Slot) (H : Heap) (locs : List Loc), lv_has ls 3 [(0, .ref h), (1, .int (nI r)), (2, .int (nI d))] → va_P D classes [(h, .inr (8, [.int (nI i0), .int (nI i1), .ref a2, .ref a3, .ref a4, .ref a5, .ref a6, .ref a7, .ref a8, .int (nI i9), .ref a10, .ref a11, .ref a12, .ref a13, .ref a14, .ref a15, .int (nI i16), .int (nI i17), .ref a18, .int (nI i19), .ref a20, .ref a21, .int (nI i22), .ref a23])), (a3, .inl (cI, 441, .inl (fun j => nI (gr j))))] H → va_D A [(h, .inr (8, [.int (nI i0), .int (nI i1), .ref a2, .ref a3, .ref a4, .ref a5, .ref a6, .ref a7, .ref a8, .int (nI i9), .ref a10, .ref a11, .ref a12, .ref a13, .ref a14, .ref a15, .int (nI i16), .int (nI i17), .ref a18, .int (nI i19), .ref a20, .ref a21, .int (nI i22), .ref a23])), (a3, .inl (cI, 441, .inl (fun j => nI (gr j))))] → va_S A H0 H locs → W p l e R s m args below meth c H locs cells slots Q (F0 m 0 ls []) := by
  obtain ⟨hx, hb, hml, hown, hts⟩ := id S
  intro ls H locs hl hP hD hS
  refine lv_aload_n hx hb d_m_flip_0 rfl (lv_at hl 0 rfl) ?_
  refine lv_iload_n hx hb d_m_flip_1 rfl (lv_at hl 1 rfl) ?_
  refine lv_iload_n hx hb d_m_flip_2 rfl (lv_at hl 2 rfl) ?_
  refine q_pureS (n := 2) (As := [.int (nI r), .int (nI d)]) (rest := [.ref h]) S (c_m_isModule l (nI r) (nI d)) (q_goodS kw_930 kw_931 kw_10 kw_932) (by decide +kernel) rfl rfl ⟨Nat.le_trans (Nat.le_of_ble_eq_true rfl) hRf, Nat.le_trans (Nat.le_of_ble_eq_true rfl) hRl⟩ rfl hl.1 rfl (Nat.le_of_ble_eq_true rfl) d_m_flip_3 hRc hS (fun H locs hkp hS => ?_)
  replace hP := hP.kept (fun k q hq => hkp q.1 (hP k q hq).lt)
  refine n_topn (show bN (isM (nI r) (nI d)) = 1 from (bN_t (isM_nI hr hd0))) ?_
  refine lv_iconst (v := nI 1) hx hb d_m_flip_6 (by decide) ?_
  refine q_writeVi (n := 2) (As := [.int (nI 1), .int (nI 1)]) (rest := []) (wc := [(h, .inr (8, [.int (nI i0), .int (nI i1), .ref a2, .ref a3, .ref a4, .ref a5, .ref a6, .ref a7, .ref a8, .int (nI i9), .ref a10, .ref a11, .ref a12, .ref a13, .ref a14, .ref a15, .int (nI i16), .int (nI i17), .ref a18, .int (nI i19), .ref a20, .ref a21, .int (nI i22), .ref a23]))]) (wr := [(a3, .inl (cI, 441, .inl (fun j => nI (gr j))))]) (w1 := [(h, .inr (8, [.int (nI (whN 1 1)), .int (nI i1), .ref a2, .ref a3, .ref a4, .ref a5, .ref a6, .ref a7, .ref a8, .int (nI i9), .ref a10, .ref a11, .ref a12, .ref a13, .ref a14, .ref a15, .int (nI i16), .int (nI i17), .ref a18, .int (nI i19), .ref a20, .ref a21, .int (nI i22), .ref a23]))]) S (c_m_when l D cI cC h i0 i1 a2 a3 a4 a5 a6 a7 a8 i9 a10 a11 a12 a13 a14 a15 i16 i17 a18 i19 a20 a21 i22 a23 1 1 (by omega) H.size) hK hP hD hA (q0 := 0) rfl rfl [0] [1] rfl rfl rfl rfl (by decide) rfl (q_goodV kw_861 kw_863 ks_20 kw_10 kw_864) (by decide +kernel) rfl rfl rfl ⟨Nat.le_trans (Nat.le_of_ble_eq_true rfl) hRf, Nat.le_trans (Nat.le_of_ble_eq_true rfl) hRl⟩ rfl hl.1 rfl (Nat.le_of_ble_eq_true rfl) d_m_flip_7 hRc hS (fun H locs hP hD hS => ?_)
  replace hP : va_P D classes [(h, .inr (8, [.int (nI (whN 1 1)), .int (nI i1), .ref a2, .ref a3, .ref a4, .ref a5, .ref a6, .ref a7, .ref a8, .int (nI i9), .ref a10, .ref a11, .ref a12, .ref a13, .ref a14, .ref a15, .int (nI i16), .int (nI i17), .ref a18, .int (nI i19), .ref a20, .ref a21, .int (nI i22), .ref a23])), (a3, .inl (cI, 441, .inl (fun j => nI (gr j))))] H := hP.sub [1, 0] rfl
  replace hD : va_D A [(h, .inr (8, [.int (nI (whN 1 1)), .int (nI i1), .ref a2, .ref a3, .ref a4, .ref a5, .ref a6, .ref a7, .ref a8, .int (nI i9), .ref a10, .ref a11, .ref a12, .ref a13, .ref a14, .ref a15, .int (nI i16), .int (nI i17), .ref a18, .int (nI i19), .ref a20, .ref a21, .int (nI i22), .ref a23])), (a3, .inl (cI, 441, .inl (fun j => nI (gr j))))] := hD.sub [1, 0] rfl rfl
  refine n_if_ne hx hb d_m_flip_10 (tgt := 15) rfl (by omega) (fun g10 => ?_) (fun g10 => absurd g10 (by decide))
  have hg1 := hgr (21 * r + d) (by omega)
  replace hP : va_P D classes [(h, .inr (8, [.int (nI 0), .int (nI i1), .ref a2, .ref a3, .ref a4, .ref a5, .ref a6, .ref a7, .ref a8, .int (nI i9), .ref a10, .ref a11, .ref a12, .ref a13, .ref a14, .ref a15, .int (nI i16), .int (nI i17), .ref a18, .int (nI i19), .ref a20, .ref a21, .int (nI i22), .ref a23])), (a3, .inl (cI, 441, .inl (fun j => nI (gr j))))] H := hP
  replace hD : va_D A [(h, .inr (8, [.int (nI 0), .int (nI i1), .ref a2, .ref a3, .ref a4, .ref a5, .ref a6, .ref a7, .ref a8, .int (nI i9), .ref a10, .ref a11, .ref a12, .ref a13, .ref a14, .ref a15, .int (nI i16), .int (nI i17), .ref a18, .int (nI i19), .ref a20, .ref a21, .int (nI i22), .ref a23])), (a3, .inl (cI, 441, .inl (fun j => nI (gr j))))] := hD
  refine lv_aload_n hx hb d_m_flip_15 rfl (lv_at hl 0 rfl) ?_
  refine n_get (C := R_Model) (T := F_Model) (N := 24) (v := .ref a3) hx hb hts u_Model_in hown hK hP 0 rfl rfl 3 (by decide) kw_779 rfl d_m_flip_16 ?_
  refine lv_bipush (v := nI 21) hx hb d_m_flip_19 (by decide) ?_
  refine lv_iload_n hx hb d_m_flip_21 rfl (lv_at hl 1 rfl) ?_
  refine n_imul hx hb d_m_flip_22 ?_
  refine lv_iload_n hx hb d_m_flip_23 rfl (lv_at hl 2 rfl) ?_
  refine n_iadd hx hb d_m_flip_24 ?_
  refine lv_iconst (v := nI 1) hx hb d_m_flip_25 (by decide) ?_
  refine lv_aload_n hx hb d_m_flip_26 rfl (lv_at hl 0 rfl) ?_
  refine n_get (C := R_Model) (T := F_Model) (N := 24) (v := .ref a3) hx hb hts u_Model_in hown hK hP 0 rfl rfl 3 (by decide) kw_779 rfl d_m_flip_27 ?_
  refine lv_bipush (v := nI 21) hx hb d_m_flip_30 (by decide) ?_
  refine lv_iload_n hx hb d_m_flip_32 rfl (lv_at hl 1 rfl) ?_
  refine n_imul hx hb d_m_flip_33 ?_
  refine lv_iload_n hx hb d_m_flip_34 rfl (lv_at hl 2 rfl) ?_
  refine n_iadd hx hb d_m_flip_35 ?_
  refine n_iald hx hb hK hP 1 0 rfl rfl (by omega) (by decide) d_m_flip_36 ?_
  refine n_isub hx hb d_m_flip_37 (by omega) ?_
  refine n_iast hx hb hK hP hD hS 1 0 rfl rfl (by omega) (by decide) d_m_flip_38 (fun H locs hP hD hS => ?_)
  have hP : va_P D classes [(h, .inr (8, [.int (nI 0), .int (nI i1), .ref a2, .ref a3, .ref a4, .ref a5, .ref a6, .ref a7, .ref a8, .int (nI i9), .ref a10, .ref a11, .ref a12, .ref a13, .ref a14, .ref a15, .int (nI i16), .int (nI i17), .ref a18, .int (nI i19), .ref a20, .ref a21, .int (nI i22), .ref a23])), (a3, .inl (cI, 441, .inl (fun j => nI ((va_up gr ((21 * r) + d) (1 - (gr ((21 * r) + d)))) j))))] H := hP
  have hD : va_D A [(h, .inr (8, [.int (nI 0), .int (nI i1), .ref a2, .ref a3, .ref a4, .ref a5, .ref a6, .ref a7, .ref a8, .int (nI i9), .ref a10, .ref a11, .ref a12, .ref a13, .ref a14, .ref a15, .int (nI i16), .int (nI i17), .ref a18, .int (nI i19), .ref a20, .ref a21, .int (nI i22), .ref a23])), (a3, .inl (cI, 441, .inl (fun j => nI ((va_up gr ((21 * r) + d) (1 - (gr ((21 * r) + d)))) j))))] := hD
  refine lv_aload_n hx hb d_m_flip_39 rfl (lv_at hl 0 rfl) ?_
  refine n_get (C := R_Model) (T := F_Model) (N := 24) (v := .ref a3) hx hb hts u_Model_in hown hK hP 0 rfl rfl 3 (by decide) kw_779 rfl d_m_flip_40 ?_
  refine lv_bipush (v := nI 21) hx hb d_m_flip_43 (by decide) ?_
  refine lv_iload_n hx hb d_m_flip_45 rfl (lv_at hl 1 rfl) ?_
  refine n_imul hx hb d_m_flip_46 ?_
  refine lv_iload_n hx hb d_m_flip_47 rfl (lv_at hl 2 rfl) ?_
  refine n_iadd hx hb d_m_flip_48 ?_
  refine n_iald hx hb hK hP 1 0 rfl rfl (by omega) (by decide) d_m_flip_49 ?_
  refine n_topn (show (va_up gr ((21 * r) + d) (1 - (gr ((21 * r) + d)))) ((21 * r) + d) = 1 - gr (21 * r + d) from (va_up_self _ _ _)) ?_
  exact kr _ ls H locs d_m_flip_50 hP hD hS
set_option maxHeartbeats 1000000 in
set_option maxRecDepth 100000 in
theorem c_m_flip_in (l : Launch) (D : va_G) (cI cC : ClassId) (h i0 i1 a2 a3 a4 a5 a6 a7 a8 i9 a10 a11 a12 a13 a14 a15 i16 i17 a18 i19 a20 a21 i22 a23 : Nat) (gr : Nat → Nat) (r d : Nat) (hr : r < 21) (hd0 : d < 21) (hgr : ∀ j, j < 441 → gr j ≤ 1) (sz : Nat) : Met l y_m_flip (cd_m_flip :: WS) { frames := 1, cells := 0, slots := 0, locals := 22 } (va_Pc [.ref h, .int (nI r), .int (nI d)] (wP D [(h, .inr (8, [.int (nI i0), .int (nI i1), .ref a2, .ref a3, .ref a4, .ref a5, .ref a6, .ref a7, .ref a8, .int (nI i9), .ref a10, .ref a11, .ref a12, .ref a13, .ref a14, .ref a15, .int (nI i16), .int (nI i17), .ref a18, .int (nI i19), .ref a20, .ref a21, .int (nI i22), .ref a23])), (a3, .inl (cI, 441, .inl (fun j => nI (gr j))))] [(cI, .int), (cC, .char)] sz)) (wQi D (nI (1 - gr (21 * r + d))) [(h, .inr (8, [.int (nI i0), .int (nI i1), .ref a2, .ref a3, .ref a4, .ref a5, .ref a6, .ref a7, .ref a8, .int (nI i9), .ref a10, .ref a11, .ref a12, .ref a13, .ref a14, .ref a15, .int (nI i16), .int (nI i17), .ref a18, .int (nI i19), .ref a20, .ref a21, .int (nI i22), .ref a23])), (a3, .inl (cI, 441, .inl (fun j => nI (gr j))))] [(h, .inr (8, [.int (nI 0), .int (nI i1), .ref a2, .ref a3, .ref a4, .ref a5, .ref a6, .ref a7, .ref a8, .int (nI i9), .ref a10, .ref a11, .ref a12, .ref a13, .ref a14, .ref a15, .int (nI i16), .int (nI i17), .ref a18, .int (nI i19), .ref a20, .ref a21, .int (nI i22), .ref a23])), (a3, .inl (cI, 441, .inl (fun j => nI ((va_up gr (21 * r + d) (1 - gr (21 * r + d))) j))))] sz) 0 0 (va_A [(h, .inr (8, [.int (nI i0), .int (nI i1), .ref a2, .ref a3, .ref a4, .ref a5, .ref a6, .ref a7, .ref a8, .int (nI i9), .ref a10, .ref a11, .ref a12, .ref a13, .ref a14, .ref a15, .int (nI i16), .int (nI i17), .ref a18, .int (nI i19), .ref a20, .ref a21, .int (nI i22), .ref a23])), (a3, .inl (cI, 441, .inl (fun j => nI (gr j))))] sz) := by
  refine Met.ofW (cc := b_m_flip) (maxL := 3) (ret := (some .int)) (by decide) rfl ?_
  intro p e s m args below meth c s₁ B hml hv0
  obtain ⟨rfl, hP, hK, hD0, hsz⟩ := hv0
  have hts := atoms_spec (ws := cd_m_flip :: WS) B.pre
  have hown : s.vm.findClass R_Model = some m.cls := findClass_of_methodNamed B.named
  have hlocks := B.notSynchronized
  subst hsz
  have hD := hD0.self (sz := s.heap.size)
  have hl := lv_entry ([.ref h, .int (nI r), .int (nI d)]) (n := 3) (Nat.le_of_ble_eq_true rfl)
  rw [lg_entry_eq]
  generalize (lg_sl ([.ref h, .int (nI r), .int (nI d)]) ++ List.replicate (3 - (lg_sl ([.ref h, .int (nI r), .int (nI d)])).length) Slot.unset).toArray = ls at hl ⊢
  refine bd_m_flip_in cI cC h i0 i1 a2 a3 a4 a5 a6 a7 a8 i9 a10 a11 a12 a13 a14 a15 i16 i17 a18 i19 a20 a21 i22 a23 gr r d hr hd0 hgr ⟨B.exec, B.bytes, hml, hown, hts⟩ (Nat.le_refl _) (Nat.le_refl _) ⟨Nat.le_refl _, Nat.le_refl _⟩ hK (fun q h => Or.inr h) (fun pc ls H locs hd hP hD hS => ?_) ls _ _ hl hP hD (va_S.rf)
  exact W.iret B.exec B.bytes B.returns (fun t ht _ => ⟨⟨_, (), rfl, rfl, (by have h9 := hP; rw [← ht] at h9; exact h9)⟩, hS.F ht⟩) hS.2.2 hd
end
section
variable {p : Program} {l : Launch} {e : Env} {R : Room} {s : State} {m : MethodId} {args : Array Value} {below : List Frame} {meth : Method} {c : Code} {cells slots : Nat} {Q : State → Prop} {A : Nat → Prop} {H0 : Heap} {D : va_G}
set_option maxHeartbeats 1000000 in
set_option maxRecDepth 100000 in
theorem bd_m_flip_out (cI cC : ClassId) (h i0 i1 a2 a3 a4 a5 a6 a7 a8 i9 a10 a11 a12 a13 a14 a15 i16 i17 a18 i19 a20 a21 i22 a23 : Nat) (gr : Nat → Nat) (r d : Int32) (ho : ¬ isM r d) (S : CallFix p m c b_m_flip 3 s args (cd_m_flip :: WS) R_Model) (hRf : 1 ≤ R.frames) (hRl : 22 ≤ R.locals) (hRc : cells ≤ R.cells ∧ slots ≤ R.slots) (hK : va_K D classes [(cI, .int), (cC, .char)] s) (hA : ∀ q, H0.size ≤ q → A q) (kr : ∀ (pc : Nat) (ls : Array Slot) (H : Heap) (locs : List Loc), decode b_m_flip pc = .ok (.ireturn, 1) → va_P D classes [(h, .inr (8, [.int (nI 1), .int (nI i1), .ref a2, .ref a3, .ref a4, .ref a5, .ref a6, .ref a7, .ref a8, .int (nI i9), .ref a10, .ref a11, .ref a12, .ref a13, .ref a14, .ref a15, .int (nI i16), .int (nI i17), .ref a18, .int (nI i19), .ref a20, .ref a21, .int (nI i22), .ref a23])), (a3, .inl (cI, 441, .inl (fun j => nI (gr j))))] H → va_D A [(h, .inr (8, [.int (nI 1), .int (nI i1), .ref a2, .ref a3, .ref a4, .ref a5, .ref a6, .ref a7, .ref a8, .int (nI i9), .ref a10, .ref a11, .ref a12, .ref a13, .ref a14, .ref a15, .int (nI i16), .int (nI i17), .ref a18, .int (nI i19), .ref a20, .ref a21, .int (nI i22), .ref a23])), (a3, .inl (cI, 441, .inl (fun j => nI (gr j))))] → va_S A H0 H locs → W p l e R s m args below meth c H locs cells slots Q (F0 m pc ls [.int (nI 0)])) : ∀ (ls : Array Slot) (H : Heap) (locs : List Loc), lv_has ls 3 [(0, .ref h), (1, .int r), (2, .int d)] → va_P D classes [(h, .inr (8, [.int (nI i0), .int (nI i1), .ref a2, .ref a3, .ref a4, .ref a5, .ref a6, .ref a7, .ref a8, .int (nI i9), .ref a10, .ref a11, .ref a12, .ref a13, .ref a14, .ref a15, .int (nI i16), .int (nI i17), .ref a18, .int (nI i19), .ref a20, .ref a21, .int (nI i22), .ref a23])), (a3, .inl (cI, 441, .inl (fun j => nI (gr j))))] H → va_D A [(h, .inr (8, [.int (nI i0), .int (nI i1), .ref a2, .ref a3, .ref a4, .ref a5, .ref a6, .ref a7, .ref a8, .int (nI i9), .ref a10, .ref a11, .ref a12, .ref a13, .ref a14, .ref a15, .int (nI i16), .int (nI i17), .ref a18, .int (nI i19), .ref a20, .ref a21, .int (nI i22), .ref a23])), (a3, .inl (cI, 441, .inl (fun j => nI (gr j))))] → va_S A H0 H locs → W p l e R s m args below meth c H locs cells slots Q (F0 m 0 ls []) := by
  obtain ⟨hx, hb, hml, hown, hts⟩ := id S
  intro ls H locs hl hP hD hS
  refine lv_aload_n hx hb d_m_flip_0 rfl (lv_at hl 0 rfl) ?_
  refine lv_iload_n hx hb d_m_flip_1 rfl (lv_at hl 1 rfl) ?_
  refine lv_iload_n hx hb d_m_flip_2 rfl (lv_at hl 2 rfl) ?_
  refine q_pureS (n := 2) (As := [.int r, .int d]) (rest := [.ref h]) S (c_m_isModule l r d) (q_goodS kw_930 kw_931 kw_10 kw_932) (by decide +kernel) rfl rfl ⟨Nat.le_trans (Nat.le_of_ble_eq_true rfl) hRf, Nat.le_trans (Nat.le_of_ble_eq_true rfl) hRl⟩ rfl hl.1 rfl (Nat.le_of_ble_eq_true rfl) d_m_flip_3 hRc hS (fun H locs hkp hS => ?_)
  replace hP := hP.kept (fun k q hq => hkp q.1 (hP k q hq).lt)
  refine n_topn (show bN (isM r d) = 0 from (bN_f ho)) ?_
  refine lv_iconst (v := nI 1) hx hb d_m_flip_6 (by decide) ?_
  refine q_writeVi (n := 2) (As := [.int (nI 0), .int (nI 1)]) (rest := []) (wc := [(h, .inr (8, [.int (nI i0), .int (nI i1), .ref a2, .ref a3, .ref a4, .ref a5, .ref a6, .ref a7, .ref a8, .int (nI i9), .ref a10, .ref a11, .ref a12, .ref a13, .ref a14, .ref a15, .int (nI i16), .int (nI i17), .ref a18, .int (nI i19), .ref a20, .ref a21, .int (nI i22), .ref a23]))]) (wr := [(a3, .inl (cI, 441, .inl (fun j => nI (gr j))))]) (w1 := [(h, .inr (8, [.int (nI (whN 0 1)), .int (nI i1), .ref a2, .ref a3, .ref a4, .ref a5, .ref a6, .ref a7, .ref a8, .int (nI i9), .ref a10, .ref a11, .ref a12, .ref a13, .ref a14, .ref a15, .int (nI i16), .int (nI i17), .ref a18, .int (nI i19), .ref a20, .ref a21, .int (nI i22), .ref a23]))]) S (c_m_when l D cI cC h i0 i1 a2 a3 a4 a5 a6 a7 a8 i9 a10 a11 a12 a13 a14 a15 i16 i17 a18 i19 a20 a21 i22 a23 0 1 (by omega) H.size) hK hP hD hA (q0 := 0) rfl rfl [0] [1] rfl rfl rfl rfl (by decide) rfl (q_goodV kw_861 kw_863 ks_20 kw_10 kw_864) (by decide +kernel) rfl rfl rfl ⟨Nat.le_trans (Nat.le_of_ble_eq_true rfl) hRf, Nat.le_trans (Nat.le_of_ble_eq_true rfl) hRl⟩ rfl hl.1 rfl (Nat.le_of_ble_eq_true rfl) d_m_flip_7 hRc hS (fun H locs hP hD hS => ?_)
  replace hP : va_P D classes [(h, .inr (8, [.int (nI (whN 0 1)), .int (nI i1), .ref a2, .ref a3, .ref a4, .ref a5, .ref a6, .ref a7, .ref a8, .int (nI i9), .ref a10, .ref a11, .ref a12, .ref a13, .ref a14, .ref a15, .int (nI i16), .int (nI i17), .ref a18, .int (nI i19), .ref a20, .ref a21, .int (nI i22), .ref a23])), (a3, .inl (cI, 441, .inl (fun j => nI (gr j))))] H := hP.sub [1, 0] rfl
  replace hD : va_D A [(h, .inr (8, [.int (nI (whN 0 1)), .int (nI i1), .ref a2, .ref a3, .ref a4, .ref a5, .ref a6, .ref a7, .ref a8, .int (nI i9), .ref a10, .ref a11, .ref a12, .ref a13, .ref a14, .ref a15, .int (nI i16), .int (nI i17), .ref a18, .int (nI i19), .ref a20, .ref a21, .int (nI i22), .ref a23])), (a3, .inl (cI, 441, .inl (fun j => nI (gr j))))] := hD.sub [1, 0] rfl rfl
  refine n_if_ne hx hb d_m_flip_10 (tgt := 15) rfl (by omega) (fun g10 => absurd g10 (by decide)) (fun g10 => ?_)
  refine lv_iconst (v := nI 0) hx hb d_m_flip_13 (by decide) ?_
  exact kr _ ls H locs d_m_flip_14 hP hD hS
set_option maxHeartbeats 1000000 in
set_option maxRecDepth 100000 in
theorem c_m_flip_out (l : Launch) (D : va_G) (cI cC : ClassId) (h i0 i1 a2 a3 a4 a5 a6 a7 a8 i9 a10 a11 a12 a13 a14 a15 i16 i17 a18 i19 a20 a21 i22 a23 : Nat) (gr : Nat → Nat) (r d : Int32) (ho : ¬ isM r d) (sz : Nat) : Met l y_m_flip (cd_m_flip :: WS) { frames := 1, cells := 0, slots := 0, locals := 22 } (va_Pc [.ref h, .int r, .int d] (wP D [(h, .inr (8, [.int (nI i0), .int (nI i1), .ref a2, .ref a3, .ref a4, .ref a5, .ref a6, .ref a7, .ref a8, .int (nI i9), .ref a10, .ref a11, .ref a12, .ref a13, .ref a14, .ref a15, .int (nI i16), .int (nI i17), .ref a18, .int (nI i19), .ref a20, .ref a21, .int (nI i22), .ref a23])), (a3, .inl (cI, 441, .inl (fun j => nI (gr j))))] [(cI, .int), (cC, .char)] sz)) (wQi D (nI 0) [(h, .inr (8, [.int (nI i0), .int (nI i1), .ref a2, .ref a3, .ref a4, .ref a5, .ref a6, .ref a7, .ref a8, .int (nI i9), .ref a10, .ref a11, .ref a12, .ref a13, .ref a14, .ref a15, .int (nI i16), .int (nI i17), .ref a18, .int (nI i19), .ref a20, .ref a21, .int (nI i22), .ref a23])), (a3, .inl (cI, 441, .inl (fun j => nI (gr j))))] [(h, .inr (8, [.int (nI 1), .int (nI i1), .ref a2, .ref a3, .ref a4, .ref a5, .ref a6, .ref a7, .ref a8, .int (nI i9), .ref a10, .ref a11, .ref a12, .ref a13, .ref a14, .ref a15, .int (nI i16), .int (nI i17), .ref a18, .int (nI i19), .ref a20, .ref a21, .int (nI i22), .ref a23])), (a3, .inl (cI, 441, .inl (fun j => nI (gr j))))] sz) 0 0 (va_A [(h, .inr (8, [.int (nI i0), .int (nI i1), .ref a2, .ref a3, .ref a4, .ref a5, .ref a6, .ref a7, .ref a8, .int (nI i9), .ref a10, .ref a11, .ref a12, .ref a13, .ref a14, .ref a15, .int (nI i16), .int (nI i17), .ref a18, .int (nI i19), .ref a20, .ref a21, .int (nI i22), .ref a23])), (a3, .inl (cI, 441, .inl (fun j => nI (gr j))))] sz) := by
  refine Met.ofW (cc := b_m_flip) (maxL := 3) (ret := (some .int)) (by decide) rfl ?_
  intro p e s m args below meth c s₁ B hml hv0
  obtain ⟨rfl, hP, hK, hD0, hsz⟩ := hv0
  have hts := atoms_spec (ws := cd_m_flip :: WS) B.pre
  have hown : s.vm.findClass R_Model = some m.cls := findClass_of_methodNamed B.named
  have hlocks := B.notSynchronized
  subst hsz
  have hD := hD0.self (sz := s.heap.size)
  have hl := lv_entry ([.ref h, .int r, .int d]) (n := 3) (Nat.le_of_ble_eq_true rfl)
  rw [lg_entry_eq]
  generalize (lg_sl ([.ref h, .int r, .int d]) ++ List.replicate (3 - (lg_sl ([.ref h, .int r, .int d])).length) Slot.unset).toArray = ls at hl ⊢
  refine bd_m_flip_out cI cC h i0 i1 a2 a3 a4 a5 a6 a7 a8 i9 a10 a11 a12 a13 a14 a15 i16 i17 a18 i19 a20 a21 i22 a23 gr r d ho ⟨B.exec, B.bytes, hml, hown, hts⟩ (Nat.le_refl _) (Nat.le_refl _) ⟨Nat.le_refl _, Nat.le_refl _⟩ hK (fun q h => Or.inr h) (fun pc ls H locs hd hP hD hS => ?_) ls _ _ hl hP hD (va_S.rf)
  exact W.iret B.exec B.bytes B.returns (fun t ht _ => ⟨⟨_, (), rfl, rfl, (by have h9 := hP; rw [← ht] at h9; exact h9)⟩, hS.F ht⟩) hS.2.2 hd
end
section
theorem d_m_row_0 : decode b_m_row 0 = .ok (.aload_n 0, 1) := by decide +kernel
theorem d_m_row_1 : decode b_m_row 1 = .ok (.iconst 0, 1) := by decide +kernel
theorem d_m_row_2 : decode b_m_row 2 = .ok (.putfield 65, 3) := by decide +kernel
theorem d_m_row_5 : decode b_m_row 5 = .ok (.iconst 0, 1) := by decide +kernel
theorem d_m_row_6 : decode b_m_row 6 = .ok (.istore_n 2, 1) := by decide +kernel
theorem d_m_row_7 : decode b_m_row 7 = .ok (.iconst 0, 1) := by decide +kernel
theorem d_m_row_8 : decode b_m_row 8 = .ok (.istore_n 3, 1) := by decide +kernel
theorem d_m_row_9 : decode b_m_row 9 = .ok (.iload_n 3, 1) := by decide +kernel
theorem d_m_row_10 : decode b_m_row 10 = .ok (.bipush 21, 2) := by decide +kernel
theorem d_m_row_12 : decode b_m_row 12 = .ok (.if_icmp .ge 33, 3) := by decide +kernel
theorem d_m_row_15 : decode b_m_row 15 = .ok (.iload_n 1, 1) := by decide +kernel
theorem d_m_row_16 : decode b_m_row 16 = .ok (.iconst 0, 1) := by decide +kernel
theorem d_m_row_17 : decode b_m_row 17 = .ok (.invokestatic 136, 3) := by decide +kernel
theorem d_m_row_20 : decode b_m_row 20 = .ok (.ifCond .eq 25, 3) := by decide +kernel
theorem d_m_row_23 : decode b_m_row 23 = .ok (.iconst 2, 1) := by decide +kernel
theorem d_m_row_24 : decode b_m_row 24 = .ok (.iload_n 2, 1) := by decide +kernel
theorem d_m_row_25 : decode b_m_row 25 = .ok (.imul, 1) := by decide +kernel
theorem d_m_row_26 : decode b_m_row 26 = .ok (.aload_n 0, 1) := by decide +kernel
theorem d_m_row_27 : decode b_m_row 27 = .ok (.getfield 13, 3) := by decide +kernel
theorem d_m_row_30 : decode b_m_row 30 = .ok (.bipush 21, 2) := by decide +kernel
theorem d_m_row_32 : decode b_m_row 32 = .ok (.iload_n 1, 1) := by decide +kernel
theorem d_m_row_33 : decode b_m_row 33 = .ok (.imul, 1) := by decide +kernel
theorem d_m_row_34 : decode b_m_row 34 = .ok (.iload_n 3, 1) := by decide +kernel
theorem d_m_row_35 : decode b_m_row 35 = .ok (.iadd, 1) := by decide +kernel
theorem d_m_row_36 : decode b_m_row 36 = .ok (.iaload, 1) := by decide +kernel
theorem d_m_row_37 : decode b_m_row 37 = .ok (.iadd, 1) := by decide +kernel
theorem d_m_row_38 : decode b_m_row 38 = .ok (.istore_n 2, 1) := by decide +kernel
theorem d_m_row_39 : decode b_m_row 39 = .ok (.iinc 3 1, 3) := by decide +kernel
theorem d_m_row_42 : decode b_m_row 42 = .ok (.goto (-33), 3) := by decide +kernel
theorem d_m_row_45 : decode b_m_row 45 = .ok (.iload_n 1, 1) := by decide +kernel
theorem d_m_row_46 : decode b_m_row 46 = .ok (.iconst 0, 1) := by decide +kernel
theorem d_m_row_47 : decode b_m_row 47 = .ok (.invokestatic 136, 3) := by decide +kernel
theorem d_m_row_50 : decode b_m_row 50 = .ok (.ifCond .eq 7, 3) := by decide +kernel
theorem d_m_row_53 : decode b_m_row 53 = .ok (.iload_n 2, 1) := by decide +kernel
theorem d_m_row_54 : decode b_m_row 54 = .ok (.goto 4, 3) := by decide +kernel
theorem d_m_row_57 : decode b_m_row 57 = .ok (.iconst (-1), 1) := by decide +kernel
theorem d_m_row_58 : decode b_m_row 58 = .ok (.ireturn, 1) := by decide +kernel
end
section
variable {p : Program} {l : Launch} {e : Env} {R : Room} {s : State} {m : MethodId} {args : Array Value} {below : List Frame} {meth : Method} {c : Code} {cells slots : Nat} {Q : State → Prop} {A : Nat → Prop} {H0 : Heap} {D : va_G}
set_option maxHeartbeats 1000000 in
set_option maxRecDepth 100000 in
theorem lp_m_row_in_9 (cI cC : ClassId) (h i0 i1 a2 a3 a4 a5 a6 a7 a8 i9 a10 a11 a12 a13 a14 a15 i16 i17 a18 i19 a20 a21 i22 a23 : Nat) (gr : Nat → Nat) (r : Nat) (hr : r < 21) (S : CallFix p m c b_m_row 4 s args (cd_m_row :: WS) R_Model) (hRf : 1 ≤ R.frames) (hRl : 21 ≤ R.locals) (hRc : cells ≤ R.cells ∧ slots ≤ R.slots) (hK : va_K D classes [(cI, .int), (cC, .char)] s) (hA : ∀ q, H0.size ≤ q → A q) (kx : ∀ (ls : Array Slot) (H : Heap) (locs : List Loc), lv_has ls 4 [(0, .ref h), (1, .int (nI r)), (2, .int (nI (rwL gr r 21))), (3, .int (nI 21))] → va_P D classes [(h, .inr (8, [.int (nI 0), .int (nI i1), .ref a2, .ref a3, .ref a4, .ref a5, .ref a6, .ref a7, .ref a8, .int (nI i9), .ref a10, .ref a11, .ref a12, .ref a13, .ref a14, .ref a15, .int (nI i16), .int (nI i17), .ref a18, .int (nI i19), .ref a20, .ref a21, .int (nI i22), .ref a23])), (a3, .inl (cI, 441, .inl (fun j => nI (gr j))))] H → va_D A [(h, .inr (8, [.int (nI 0), .int (nI i1), .ref a2, .ref a3, .ref a4, .ref a5, .ref a6, .ref a7, .ref a8, .int (nI i9), .ref a10, .ref a11, .ref a12, .ref a13, .ref a14, .ref a15, .int (nI i16), .int (nI i17), .ref a18, .int (nI i19), .ref a20, .ref a21, .int (nI i22), .ref a23])), (a3, .inl (cI, 441, .inl (fun j => nI (gr j))))] → va_S A H0 H locs → W p l e R s m args below meth c H locs cells slots Q (F0 m 45 ls [])) :
    ∀ k, k ≤ 21 → ∀ (ls : Array Slot) (H : Heap) (locs : List Loc), lv_has ls 4 [(0, .ref h), (1, .int (nI r)), (2, .int (nI (rwL gr r k))), (3, .int (nI k))] → va_P D classes [(h, .inr (8, [.int (nI 0), .int (nI i1), .ref a2, .ref a3, .ref a4, .ref a5, .ref a6, .ref a7, .ref a8, .int (nI i9), .ref a10, .ref a11, .ref a12, .ref a13, .ref a14, .ref a15, .int (nI i16), .int (nI i17), .ref a18, .int (nI i19), .ref a20, .ref a21, .int (nI i22), .ref a23])), (a3, .inl (cI, 441, .inl (fun j => nI (gr j))))] H → va_D A [(h, .inr (8, [.int (nI 0), .int (nI i1), .ref a2, .ref a3, .ref a4, .ref a5, .ref a6, .ref a7, .ref a8, .int (nI i9), .ref a10, .ref a11, .ref a12, .ref a13, .ref a14, .ref a15, .int (nI i16), .int (nI i17), .ref a18, .int (nI i19), .ref a20, .ref a21, .int (nI i22), .ref a23])), (a3, .inl (cI, 441, .inl (fun j => nI (gr j))))] → va_S A H0 H locs → W p l e R s m args below meth c H locs cells slots Q (F0 m 9 ls []) := by
  obtain ⟨hx, hb, hml, hown, hts⟩ := id S
  refine up_loop (fun k hkk ih => ?_)
  intro ls H locs hl hP hD hS
  refine lv_iload_n hx hb d_m_row_9 rfl (lv_at hl 3 rfl) ?_
  refine lv_bipush (v := nI 21) hx hb d_m_row_10 (by decide) ?_
  refine n_icmp_ge hx hb d_m_row_12 (tgt := 45) rfl (by omega) (by omega) (fun g12 => ?_) (fun g12 => ?_)
  · skip
    obtain rfl : k = 21 := by omega
    exact kx ls H locs (lv_sub hl [0, 1, 2, 3] rfl) hP hD hS
  · skip
    refine lv_iload_n hx hb d_m_row_15 rfl (lv_at hl 1 rfl) ?_
    refine lv_iconst (v := nI 0) hx hb d_m_row_16 (by decide) ?_
    refine q_pureS (n := 2) (As := [.int (nI r), .int (nI 0)]) (rest := []) S (c_m_isModule l (nI r) (nI 0)) (q_goodS kw_930 kw_931 kw_10 kw_932) (by decide +kernel) rfl rfl ⟨Nat.le_trans (Nat.le_of_ble_eq_true rfl) hRf, Nat.le_trans (Nat.le_of_ble_eq_true rfl) hRl⟩ rfl hl.1 rfl (Nat.le_of_ble_eq_true rfl) d_m_row_17 hRc hS (fun H locs hkp hS => ?_)
    replace hP := hP.kept (fun k q hq => hkp q.1 (hP k q hq).lt)
    refine n_topn (show bN (isM (nI r) (nI 0)) = 1 from (bN_t (isM_nI hr (by decide)))) ?_
    refine n_if_eq hx hb d_m_row_20 (tgt := 45) rfl (by omega) (fun g20 => absurd g20 (by decide)) (fun g20 => ?_)
    refine lv_iconst (v := nI 2) hx hb d_m_row_23 (by decide) ?_
    refine lv_iload_n hx hb d_m_row_24 rfl (lv_at hl 2 rfl) ?_
    refine n_imul hx hb d_m_row_25 ?_
    refine lv_aload_n hx hb d_m_row_26 rfl (lv_at hl 0 rfl) ?_
    refine n_get (C := R_Model) (T := F_Model) (N := 24) (v := .ref a3) hx hb hts u_Model_in hown hK hP 0 rfl rfl 3 (by decide) kw_779 rfl d_m_row_27 ?_
    refine lv_bipush (v := nI 21) hx hb d_m_row_30 (by decide) ?_
    refine lv_iload_n hx hb d_m_row_32 rfl (lv_at hl 1 rfl) ?_
    refine n_imul hx hb d_m_row_33 ?_
    refine lv_iload_n hx hb d_m_row_34 rfl (lv_at hl 3 rfl) ?_
    refine n_iadd hx hb d_m_row_35 ?_
    refine n_iald hx hb hK hP 1 0 rfl rfl (by omega) (by decide) d_m_row_36 ?_
    refine n_iadd hx hb d_m_row_37 ?_
    refine n_topn (show (2 * (rwL gr r k)) + (gr ((21 * r) + k)) = rwL gr r (k + 1) from rfl) ?_
    refine lv_istore_n hx hb d_m_row_38 rfl hl (Nat.le_of_ble_eq_true rfl) rfl (fun ls hl => ?_)
    have hl : lv_has ls 4 [(2, .int (nI (rwL gr r (k + 1)))), (0, .ref h), (1, .int (nI r)), (3, .int (nI k))] := hl
    refine lv_iinc (k := 3) (v := nI (k + 1)) hx hb d_m_row_39 hl rfl (nx_inc k 1) (Nat.le_of_ble_eq_true rfl) rfl (fun ls hl => ?_)
    have hl : lv_has ls 4 [(3, .int (nI (k + 1))), (2, .int (nI (rwL gr r (k + 1)))), (0, .ref h), (1, .int (nI r))] := hl
    refine lv_goto hx hb d_m_row_42 (tgt := 9) rfl ?_
    exact ih (by omega) ls H locs (lv_sub hl [2, 3, 1, 0] rfl) hP hD hS
set_option maxHeartbeats 1000000 in
set_option maxRecDepth 100000 in
theorem bd_m_row_in (cI cC : ClassId) (h i0 i1 a2 a3 a4 a5 a6 a7 a8 i9 a10 a11 a12 a13 a14 a15 i16 i17 a18 i19 a20 a21 i22 a23 : Nat) (gr : Nat → Nat) (r : Nat) (hr : r < 21) (S : CallFix p m c b_m_row 4 s args (cd_m_row :: WS) R_Model) (hRf : 1 ≤ R.frames) (hRl : 21 ≤ R.locals) (hRc : cells ≤ R.cells ∧ slots ≤ R.slots) (hK : va_K D classes [(cI, .int), (cC, .char)] s) (hA : ∀ q, H0.size ≤ q → A q) (kr : ∀ (pc : Nat) (ls : Array Slot) (H : Heap) (locs : List Loc), decode b_m_row pc = .ok (.ireturn, 1) → va_P D classes [(h, .inr (8, [.int (nI 0), .int (nI i1), .ref a2, .ref a3, .ref a4, .ref a5, .ref a6, .ref a7, .ref a8, .int (nI i9), .ref a10, .ref a11, .ref a12, .ref a13, .ref a14, .ref a15, .int (nI i16), .int (nI i17), .ref a18, .int (nI i19), .ref a20, .ref a21, .int (nI i22), .ref a23])), (a3, .inl (cI, 441, .inl (fun j => nI (gr j))))] H → va_D A [(h, .inr (8, [.int (nI 0), .int (nI i1), .ref a2, .ref a3, .ref a4, .ref a5, .ref a6, .ref a7, .ref a8, .int (nI i9), .ref a10, .ref a11, .ref a12, .ref a13, .ref a14, .ref a15, .int (nI i16), .int (nI i17), .ref a18, .int (nI i19), .ref a20, .ref a21, .int (nI i22), .ref a23])), (a3, .inl (cI, 441, .inl (fun j => nI (gr j))))] → va_S A H0 H locs → W p l e R s m args below meth c H locs cells slots Q (F0 m pc ls [.int (nI (rwL gr r 21))])) : ∀ (ls : Array Slot) (H : Heap) (locs : List Loc), lv_has ls 4 [(0, .ref h), (1, .int (nI r))] → va_P D classes [(h, .inr (8, [.int (nI i0), .int (nI i1), .ref a2, .ref a3, .ref a4, .ref a5, .ref a6, .ref a7, .ref a8, .int (nI i9), .ref a10, .ref a11, .ref a12, .ref a13, .ref a14, .ref a15, .int (nI i16), .int (nI i17), .ref a18, .int (nI i19), .ref a20, .ref a21, .int (nI i22), .ref a23])), (a3, .inl (cI, 441, .inl (fun j => nI (gr j))))] H → va_D A [(h, .inr (8, [.int (nI i0), .int (nI i1), .ref a2, .ref a3, .ref a4, .ref a5, .ref a6, .ref a7, .ref a8, .int (nI i9), .ref a10, .ref a11, .ref a12, .ref a13, .ref a14, .ref a15, .int (nI i16), .int (nI i17), .ref a18, .int (nI i19), .ref a20, .ref a21, .int (nI i22), .ref a23])), (a3, .inl (cI, 441, .inl (fun j => nI (gr j))))] → va_S A H0 H locs → W p l e R s m args below meth c H locs cells slots Q (F0 m 0 ls []) := by
  obtain ⟨hx, hb, hml, hown, hts⟩ := id S
  intro ls H locs hl hP hD hS
  refine lv_aload_n hx hb d_m_row_0 rfl (lv_at hl 0 rfl) ?_
  refine lv_iconst (v := nI 0) hx hb d_m_row_1 (by decide) ?_
  refine n_put (C := R_Model) (T := F_Model) (N := 24) (v := .int (nI 0)) hx hb hts u_Model_in t_Model t_Model_ok n_Model hown hK hP hD hS 0 rfl rfl 0 (by decide) kw_776 rfl rfl rfl (Nat.le_of_ble_eq_true rfl) d_m_row_2 (fun H locs hP hD hS => ?_)
  have hP : va_P D classes [(h, .inr (8, [.int (nI 0), .int (nI i1), .ref a2, .ref a3, .ref a4, .ref a5, .ref a6, .ref a7, .ref a8, .int (nI i9), .ref a10, .ref a11, .ref a12, .ref a13, .ref a14, .ref a15, .int (nI i16), .int (nI i17), .ref a18, .int (nI i19), .ref a20, .ref a21, .int (nI i22), .ref a23])), (a3, .inl (cI, 441, .inl (fun j => nI (gr j))))] H := hP
  have hD : va_D A [(h, .inr (8, [.int (nI 0), .int (nI i1), .ref a2, .ref a3, .ref a4, .ref a5, .ref a6, .ref a7, .ref a8, .int (nI i9), .ref a10, .ref a11, .ref a12, .ref a13, .ref a14, .ref a15, .int (nI i16), .int (nI i17), .ref a18, .int (nI i19), .ref a20, .ref a21, .int (nI i22), .ref a23])), (a3, .inl (cI, 441, .inl (fun j => nI (gr j))))] := hD
  refine lv_iconst (v := nI 0) hx hb d_m_row_5 (by decide) ?_
  refine lv_istore_n hx hb d_m_row_6 rfl hl (Nat.le_of_ble_eq_true rfl) rfl (fun ls hl => ?_)
  have hl : lv_has ls 4 [(2, .int (nI 0)), (0, .ref h), (1, .int (nI r))] := hl
  refine lv_iconst (v := nI 0) hx hb d_m_row_7 (by decide) ?_
  refine lv_istore_n hx hb d_m_row_8 rfl hl (Nat.le_of_ble_eq_true rfl) rfl (fun ls hl => ?_)
  have hl : lv_has ls 4 [(3, .int (nI 0)), (2, .int (nI 0)), (0, .ref h), (1, .int (nI r))] := hl
  refine lp_m_row_in_9 cI cC h i0 i1 a2 a3 a4 a5 a6 a7 a8 i9 a10 a11 a12 a13 a14 a15 i16 i17 a18 i19 a20 a21 i22 a23 gr r hr S hRf hRl hRc hK hA  (fun ls H locs hl hP hD hS => ?_) 0 (by omega) ls H locs (lv_sub hl [2, 3, 1, 0] rfl) hP hD hS
  refine lv_iload_n hx hb d_m_row_45 rfl (lv_at hl 1 rfl) ?_
  refine lv_iconst (v := nI 0) hx hb d_m_row_46 (by decide) ?_
  refine q_pureS (n := 2) (As := [.int (nI r), .int (nI 0)]) (rest := []) S (c_m_isModule l (nI r) (nI 0)) (q_goodS kw_930 kw_931 kw_10 kw_932) (by decide +kernel) rfl rfl ⟨Nat.le_trans (Nat.le_of_ble_eq_true rfl) hRf, Nat.le_trans (Nat.le_of_ble_eq_true rfl) hRl⟩ rfl hl.1 rfl (Nat.le_of_ble_eq_true rfl) d_m_row_47 hRc hS (fun H locs hkp hS => ?_)
  replace hP := hP.kept (fun k q hq => hkp q.1 (hP k q hq).lt)
  refine n_topn (show bN (isM (nI r) (nI 0)) = 1 from (bN_t (isM_nI hr (by decide)))) ?_
  refine n_if_eq hx hb d_m_row_50 (tgt := 57) rfl (by omega) (fun g50 => absurd g50 (by decide)) (fun g50 => ?_)
  refine lv_iload_n hx hb d_m_row_53 rfl (lv_at hl 2 rfl) ?_
  refine lv_goto hx hb d_m_row_54 (tgt := 58) rfl ?_
  exact kr _ ls H locs d_m_row_58 hP hD hS
set_option maxHeartbeats 1000000 in
set_option maxRecDepth 100000 in
theorem c_m_row_in (l : Launch) (D : va_G) (cI cC : ClassId) (h i0 i1 a2 a3 a4 a5 a6 a7 a8 i9 a10 a11 a12 a13 a14 a15 i16 i17 a18 i19 a20 a21 i22 a23 : Nat) (gr : Nat → Nat) (r : Nat) (hr : r < 21) (sz : Nat) : Met l y_m_row (cd_m_row :: WS) { frames := 1, cells := 0, slots := 0, locals := 21 } (va_Pc [.ref h, .int (nI r)] (wP D [(h, .inr (8, [.int (nI i0), .int (nI i1), .ref a2, .ref a3, .ref a4, .ref a5, .ref a6, .ref a7, .ref a8, .int (nI i9), .ref a10, .ref a11, .ref a12, .ref a13, .ref a14, .ref a15, .int (nI i16), .int (nI i17), .ref a18, .int (nI i19), .ref a20, .ref a21, .int (nI i22), .ref a23])), (a3, .inl (cI, 441, .inl (fun j => nI (gr j))))] [(cI, .int), (cC, .char)] sz)) (wQi D (nI (rwL gr r 21)) [(h, .inr (8, [.int (nI i0), .int (nI i1), .ref a2, .ref a3, .ref a4, .ref a5, .ref a6, .ref a7, .ref a8, .int (nI i9), .ref a10, .ref a11, .ref a12, .ref a13, .ref a14, .ref a15, .int (nI i16), .int (nI i17), .ref a18, .int (nI i19), .ref a20, .ref a21, .int (nI i22), .ref a23])), (a3, .inl (cI, 441, .inl (fun j => nI (gr j))))] [(h, .inr (8, [.int (nI 0), .int (nI i1), .ref a2, .ref a3, .ref a4, .ref a5, .ref a6, .ref a7, .ref a8, .int (nI i9), .ref a10, .ref a11, .ref a12, .ref a13, .ref a14, .ref a15, .int (nI i16), .int (nI i17), .ref a18, .int (nI i19), .ref a20, .ref a21, .int (nI i22), .ref a23])), (a3, .inl (cI, 441, .inl (fun j => nI (gr j))))] sz) 0 0 (va_A [(h, .inr (8, [.int (nI i0), .int (nI i1), .ref a2, .ref a3, .ref a4, .ref a5, .ref a6, .ref a7, .ref a8, .int (nI i9), .ref a10, .ref a11, .ref a12, .ref a13, .ref a14, .ref a15, .int (nI i16), .int (nI i17), .ref a18, .int (nI i19), .ref a20, .ref a21, .int (nI i22), .ref a23])), (a3, .inl (cI, 441, .inl (fun j => nI (gr j))))] sz) := by
  refine Met.ofW (cc := b_m_row) (maxL := 4) (ret := (some .int)) (by decide) rfl ?_
  intro p e s m args below meth c s₁ B hml hv0
  obtain ⟨rfl, hP, hK, hD0, hsz⟩ := hv0
  have hts := atoms_spec (ws := cd_m_row :: WS) B.pre
  have hown : s.vm.findClass R_Model = some m.cls := findClass_of_methodNamed B.named
  have hlocks := B.notSynchronized
  subst hsz
  have hD := hD0.self (sz := s.heap.size)
  have hl := lv_entry ([.ref h, .int (nI r)]) (n := 4) (Nat.le_of_ble_eq_true rfl)
  rw [lg_entry_eq]
  generalize (lg_sl ([.ref h, .int (nI r)]) ++ List.replicate (4 - (lg_sl ([.ref h, .int (nI r)])).length) Slot.unset).toArray = ls at hl ⊢
  refine bd_m_row_in cI cC h i0 i1 a2 a3 a4 a5 a6 a7 a8 i9 a10 a11 a12 a13 a14 a15 i16 i17 a18 i19 a20 a21 i22 a23 gr r hr ⟨B.exec, B.bytes, hml, hown, hts⟩ (Nat.le_refl _) (Nat.le_refl _) ⟨Nat.le_refl _, Nat.le_refl _⟩ hK (fun q h => Or.inr h) (fun pc ls H locs hd hP hD hS => ?_) ls _ _ hl hP hD (va_S.rf)
  exact W.iret B.exec B.bytes B.returns (fun t ht _ => ⟨⟨_, (), rfl, rfl, (by have h9 := hP; rw [← ht] at h9; exact h9)⟩, hS.F ht⟩) hS.2.2 hd
end
section
variable {p : Program} {l : Launch} {e : Env} {R : Room} {s : State} {m : MethodId} {args : Array Value} {below : List Frame} {meth : Method} {c : Code} {cells slots : Nat} {Q : State → Prop} {A : Nat → Prop} {H0 : Heap} {D : va_G}
set_option maxHeartbeats 1000000 in
set_option maxRecDepth 100000 in
theorem bd_m_row_out (cI cC : ClassId) (h i0 i1 a2 a3 a4 a5 a6 a7 a8 i9 a10 a11 a12 a13 a14 a15 i16 i17 a18 i19 a20 a21 i22 a23 : Nat) (gr : Nat → Nat) (r : Int32) (ho : ¬ isM r (nI 0)) (S : CallFix p m c b_m_row 4 s args (cd_m_row :: WS) R_Model) (hRf : 1 ≤ R.frames) (hRl : 21 ≤ R.locals) (hRc : cells ≤ R.cells ∧ slots ≤ R.slots) (hK : va_K D classes [(cI, .int), (cC, .char)] s) (hA : ∀ q, H0.size ≤ q → A q) (kr : ∀ (pc : Nat) (ls : Array Slot) (H : Heap) (locs : List Loc), decode b_m_row pc = .ok (.ireturn, 1) → va_P D classes [(h, .inr (8, [.int (nI 0), .int (nI i1), .ref a2, .ref a3, .ref a4, .ref a5, .ref a6, .ref a7, .ref a8, .int (nI i9), .ref a10, .ref a11, .ref a12, .ref a13, .ref a14, .ref a15, .int (nI i16), .int (nI i17), .ref a18, .int (nI i19), .ref a20, .ref a21, .int (nI i22), .ref a23])), (a3, .inl (cI, 441, .inl (fun j => nI (gr j))))] H → va_D A [(h, .inr (8, [.int (nI 0), .int (nI i1), .ref a2, .ref a3, .ref a4, .ref a5, .ref a6, .ref a7, .ref a8, .int (nI i9), .ref a10, .ref a11, .ref a12, .ref a13, .ref a14, .ref a15, .int (nI i16), .int (nI i17), .ref a18, .int (nI i19), .ref a20, .ref a21, .int (nI i22), .ref a23])), (a3, .inl (cI, 441, .inl (fun j => nI (gr j))))] → va_S A H0 H locs → W p l e R s m args below meth c H locs cells slots Q (F0 m pc ls [.int (-1)])) : ∀ (ls : Array Slot) (H : Heap) (locs : List Loc), lv_has ls 4 [(0, .ref h), (1, .int r)] → va_P D classes [(h, .inr (8, [.int (nI i0), .int (nI i1), .ref a2, .ref a3, .ref a4, .ref a5, .ref a6, .ref a7, .ref a8, .int (nI i9), .ref a10, .ref a11, .ref a12, .ref a13, .ref a14, .ref a15, .int (nI i16), .int (nI i17), .ref a18, .int (nI i19), .ref a20, .ref a21, .int (nI i22), .ref a23])), (a3, .inl (cI, 441, .inl (fun j => nI (gr j))))] H → va_D A [(h, .inr (8, [.int (nI i0), .int (nI i1), .ref a2, .ref a3, .ref a4, .ref a5, .ref a6, .ref a7, .ref a8, .int (nI i9), .ref a10, .ref a11, .ref a12, .ref a13, .ref a14, .ref a15, .int (nI i16), .int (nI i17), .ref a18, .int (nI i19), .ref a20, .ref a21, .int (nI i22), .ref a23])), (a3, .inl (cI, 441, .inl (fun j => nI (gr j))))] → va_S A H0 H locs → W p l e R s m args below meth c H locs cells slots Q (F0 m 0 ls []) := by
  obtain ⟨hx, hb, hml, hown, hts⟩ := id S
  intro ls H locs hl hP hD hS
  refine lv_aload_n hx hb d_m_row_0 rfl (lv_at hl 0 rfl) ?_
  refine lv_iconst (v := nI 0) hx hb d_m_row_1 (by decide) ?_
  refine n_put (C := R_Model) (T := F_Model) (N := 24) (v := .int (nI 0)) hx hb hts u_Model_in t_Model t_Model_ok n_Model hown hK hP hD hS 0 rfl rfl 0 (by decide) kw_776 rfl rfl rfl (Nat.le_of_ble_eq_true rfl) d_m_row_2 (fun H locs hP hD hS => ?_)
  have hP : va_P D classes [(h, .inr (8, [.int (nI 0), .int (nI i1), .ref a2, .ref a3, .ref a4, .ref a5, .ref a6, .ref a7, .ref a8, .int (nI i9), .ref a10, .ref a11, .ref a12, .ref a13, .ref a14, .ref a15, .int (nI i16), .int (nI i17), .ref a18, .int (nI i19), .ref a20, .ref a21, .int (nI i22), .ref a23])), (a3, .inl (cI, 441, .inl (fun j => nI (gr j))))] H := hP
  have hD : va_D A [(h, .inr (8, [.int (nI 0), .int (nI i1), .ref a2, .ref a3, .ref a4, .ref a5, .ref a6, .ref a7, .ref a8, .int (nI i9), .ref a10, .ref a11, .ref a12, .ref a13, .ref a14, .ref a15, .int (nI i16), .int (nI i17), .ref a18, .int (nI i19), .ref a20, .ref a21, .int (nI i22), .ref a23])), (a3, .inl (cI, 441, .inl (fun j => nI (gr j))))] := hD
  refine lv_iconst (v := nI 0) hx hb d_m_row_5 (by decide) ?_
  refine lv_istore_n hx hb d_m_row_6 rfl hl (Nat.le_of_ble_eq_true rfl) rfl (fun ls hl => ?_)
  have hl : lv_has ls 4 [(2, .int (nI 0)), (0, .ref h), (1, .int r)] := hl
  refine lv_iconst (v := nI 0) hx hb d_m_row_7 (by decide) ?_
  refine lv_istore_n hx hb d_m_row_8 rfl hl (Nat.le_of_ble_eq_true rfl) rfl (fun ls hl => ?_)
  have hl : lv_has ls 4 [(3, .int (nI 0)), (2, .int (nI 0)), (0, .ref h), (1, .int r)] := hl
  refine lv_iload_n hx hb d_m_row_9 rfl (lv_at hl 0 rfl) ?_
  refine lv_bipush (v := nI 21) hx hb d_m_row_10 (by decide) ?_
  refine n_icmp_ge hx hb d_m_row_12 (tgt := 45) rfl (by omega) (by omega) (fun g12 => absurd g12 (by decide)) (fun g12 => ?_)
  refine lv_iload_n hx hb d_m_row_15 rfl (lv_at hl 3 rfl) ?_
  refine lv_iconst (v := nI 0) hx hb d_m_row_16 (by decide) ?_
  refine q_pureS (n := 2) (As := [.int r, .int (nI 0)]) (rest := []) S (c_m_isModule l r (nI 0)) (q_goodS kw_930 kw_931 kw_10 kw_932) (by decide +kernel) rfl rfl ⟨Nat.le_trans (Nat.le_of_ble_eq_true rfl) hRf, Nat.le_trans (Nat.le_of_ble_eq_true rfl) hRl⟩ rfl hl.1 rfl (Nat.le_of_ble_eq_true rfl) d_m_row_17 hRc hS (fun H locs hkp hS => ?_)
  replace hP := hP.kept (fun k q hq => hkp q.1 (hP k q hq).lt)
  refine n_topn (show bN (isM r (nI 0)) = 0 from (bN_f ho)) ?_
  refine n_if_eq hx hb d_m_row_20 (tgt := 45) rfl (by omega) (fun g20 => ?_) (fun g20 => absurd g20 (by decide))
  refine lv_iload_n hx hb d_m_row_45 rfl (lv_at hl 3 rfl) ?_
  refine lv_iconst (v := nI 0) hx hb d_m_row_46 (by decide) ?_
  refine q_pureS (n := 2) (As := [.int r, .int (nI 0)]) (rest := []) S (c_m_isModule l r (nI 0)) (q_goodS kw_930 kw_931 kw_10 kw_932) (by decide +kernel) rfl rfl ⟨Nat.le_trans (Nat.le_of_ble_eq_true rfl) hRf, Nat.le_trans (Nat.le_of_ble_eq_true rfl) hRl⟩ rfl hl.1 rfl (Nat.le_of_ble_eq_true rfl) d_m_row_47 hRc hS (fun H locs hkp hS => ?_)
  replace hP := hP.kept (fun k q hq => hkp q.1 (hP k q hq).lt)
  refine n_topn (show bN (isM r (nI 0)) = 0 from (bN_f ho)) ?_
  refine n_if_eq hx hb d_m_row_50 (tgt := 57) rfl (by omega) (fun g50 => ?_) (fun g50 => absurd g50 (by decide))
  refine lv_iconst (v := (-1)) hx hb d_m_row_57 (by decide) ?_
  exact kr _ ls H locs d_m_row_58 hP hD hS
set_option maxHeartbeats 1000000 in
set_option maxRecDepth 100000 in
theorem c_m_row_out (l : Launch) (D : va_G) (cI cC : ClassId) (h i0 i1 a2 a3 a4 a5 a6 a7 a8 i9 a10 a11 a12 a13 a14 a15 i16 i17 a18 i19 a20 a21 i22 a23 : Nat) (gr : Nat → Nat) (r : Int32) (ho : ¬ isM r (nI 0)) (sz : Nat) : Met l y_m_row (cd_m_row :: WS) { frames := 1, cells := 0, slots := 0, locals := 21 } (va_Pc [.ref h, .int r] (wP D [(h, .inr (8, [.int (nI i0), .int (nI i1), .ref a2, .ref a3, .ref a4, .ref a5, .ref a6, .ref a7, .ref a8, .int (nI i9), .ref a10, .ref a11, .ref a12, .ref a13, .ref a14, .ref a15, .int (nI i16), .int (nI i17), .ref a18, .int (nI i19), .ref a20, .ref a21, .int (nI i22), .ref a23])), (a3, .inl (cI, 441, .inl (fun j => nI (gr j))))] [(cI, .int), (cC, .char)] sz)) (wQi D (-1) [(h, .inr (8, [.int (nI i0), .int (nI i1), .ref a2, .ref a3, .ref a4, .ref a5, .ref a6, .ref a7, .ref a8, .int (nI i9), .ref a10, .ref a11, .ref a12, .ref a13, .ref a14, .ref a15, .int (nI i16), .int (nI i17), .ref a18, .int (nI i19), .ref a20, .ref a21, .int (nI i22), .ref a23])), (a3, .inl (cI, 441, .inl (fun j => nI (gr j))))] [(h, .inr (8, [.int (nI 0), .int (nI i1), .ref a2, .ref a3, .ref a4, .ref a5, .ref a6, .ref a7, .ref a8, .int (nI i9), .ref a10, .ref a11, .ref a12, .ref a13, .ref a14, .ref a15, .int (nI i16), .int (nI i17), .ref a18, .int (nI i19), .ref a20, .ref a21, .int (nI i22), .ref a23])), (a3, .inl (cI, 441, .inl (fun j => nI (gr j))))] sz) 0 0 (va_A [(h, .inr (8, [.int (nI i0), .int (nI i1), .ref a2, .ref a3, .ref a4, .ref a5, .ref a6, .ref a7, .ref a8, .int (nI i9), .ref a10, .ref a11, .ref a12, .ref a13, .ref a14, .ref a15, .int (nI i16), .int (nI i17), .ref a18, .int (nI i19), .ref a20, .ref a21, .int (nI i22), .ref a23])), (a3, .inl (cI, 441, .inl (fun j => nI (gr j))))] sz) := by
  refine Met.ofW (cc := b_m_row) (maxL := 4) (ret := (some .int)) (by decide) rfl ?_
  intro p e s m args below meth c s₁ B hml hv0
  obtain ⟨rfl, hP, hK, hD0, hsz⟩ := hv0
  have hts := atoms_spec (ws := cd_m_row :: WS) B.pre
  have hown : s.vm.findClass R_Model = some m.cls := findClass_of_methodNamed B.named
  have hlocks := B.notSynchronized
  subst hsz
  have hD := hD0.self (sz := s.heap.size)
  have hl := lv_entry ([.ref h, .int r]) (n := 4) (Nat.le_of_ble_eq_true rfl)
  rw [lg_entry_eq]
  generalize (lg_sl ([.ref h, .int r]) ++ List.replicate (4 - (lg_sl ([.ref h, .int r])).length) Slot.unset).toArray = ls at hl ⊢
  refine bd_m_row_out cI cC h i0 i1 a2 a3 a4 a5 a6 a7 a8 i9 a10 a11 a12 a13 a14 a15 i16 i17 a18 i19 a20 a21 i22 a23 gr r ho ⟨B.exec, B.bytes, hml, hown, hts⟩ (Nat.le_refl _) (Nat.le_refl _) ⟨Nat.le_refl _, Nat.le_refl _⟩ hK (fun q h => Or.inr h) (fun pc ls H locs hd hP hD hS => ?_) ls _ _ hl hP hD (va_S.rf)
  exact W.iret B.exec B.bytes B.returns (fun t ht _ => ⟨⟨_, (), rfl, rfl, (by have h9 := hP; rw [← ht] at h9; exact h9)⟩, hS.F ht⟩) hS.2.2 hd
end
section
theorem d_m_text_0 : decode b_m_text 0 = .ok (.aload_n 0, 1) := by decide +kernel
theorem d_m_text_1 : decode b_m_text 1 = .ok (.iconst 0, 1) := by decide +kernel
theorem d_m_text_2 : decode b_m_text 2 = .ok (.putfield 65, 3) := by decide +kernel
theorem d_m_text_5 : decode b_m_text 5 = .ok (.iload_n 1, 1) := by decide +kernel
theorem d_m_text_6 : decode b_m_text 6 = .ok (.ifCond .lt 20, 3) := by decide +kernel
theorem d_m_text_9 : decode b_m_text 9 = .ok (.iload_n 1, 1) := by decide +kernel
theorem d_m_text_10 : decode b_m_text 10 = .ok (.aload_n 0, 1) := by decide +kernel
theorem d_m_text_11 : decode b_m_text 11 = .ok (.getfield 190, 3) := by decide +kernel
theorem d_m_text_14 : decode b_m_text 14 = .ok (.if_icmp .ge 12, 3) := by decide +kernel
theorem d_m_text_17 : decode b_m_text 17 = .ok (.aload_n 0, 1) := by decide +kernel
theorem d_m_text_18 : decode b_m_text 18 = .ok (.getfield 52, 3) := by decide +kernel
theorem d_m_text_21 : decode b_m_text 21 = .ok (.iload_n 1, 1) := by decide +kernel
theorem d_m_text_22 : decode b_m_text 22 = .ok (.iaload, 1) := by decide +kernel
theorem d_m_text_23 : decode b_m_text 23 = .ok (.goto 4, 3) := by decide +kernel
theorem d_m_text_26 : decode b_m_text 26 = .ok (.iconst (-1), 1) := by decide +kernel
theorem d_m_text_27 : decode b_m_text 27 = .ok (.ireturn, 1) := by decide +kernel
end
section
variable {p : Program} {l : Launch} {e : Env} {R : Room} {s : State} {m : MethodId} {args : Array Value} {below : List Frame} {meth : Method} {c : Code} {cells slots : Nat} {Q : State → Prop} {A : Nat → Prop} {H0 : Heap} {D : va_G}
set_option maxHeartbeats 1000000 in
set_option maxRecDepth 100000 in
theorem bd_m_text_in (cI cC : ClassId) (h i0 i1 a2 a3 a4 a5 a6 a7 a8 i9 a10 a11 a12 a13 a14 a15 i16 i17 a18 i19 a20 a21 i22 a23 : Nat) (kn : Nat → Nat) (x : Nat) (hx0 : x < i19) (hi : i19 ≤ 64) (S : CallFix p m c b_m_text 2 s args (cd_m_text :: WS) R_Model) (hRf : 0 ≤ R.frames) (hRl : 0 ≤ R.locals) (hRc : cells ≤ R.cells ∧ slots ≤ R.slots) (hK : va_K D classes [(cI, .int), (cC, .char)] s) (hA : ∀ q, H0.size ≤ q → A q) (kr : ∀ (pc : Nat) (ls : Array Slot) (H : Heap) (locs : List Loc), decode b_m_text pc = .ok (.ireturn, 1) → va_P D classes [(h, .inr (8, [.int (nI 0), .int (nI i1), .ref a2, .ref a3, .ref a4, .ref a5, .ref a6, .ref a7, .ref a8, .int (nI i9), .ref a10, .ref a11, .ref a12, .ref a13, .ref a14, .ref a15, .int (nI i16), .int (nI i17), .ref a18, .int (nI i19), .ref a20, .ref a21, .int (nI i22), .ref a23])), (a20, .inl (cI, 64, .inl (fun j => nI (kn j))))] H → va_D A [(h, .inr (8, [.int (nI 0), .int (nI i1), .ref a2, .ref a3, .ref a4, .ref a5, .ref a6, .ref a7, .ref a8, .int (nI i9), .ref a10, .ref a11, .ref a12, .ref a13, .ref a14, .ref a15, .int (nI i16), .int (nI i17), .ref a18, .int (nI i19), .ref a20, .ref a21, .int (nI i22), .ref a23])), (a20, .inl (cI, 64, .inl (fun j => nI (kn j))))] → va_S A H0 H locs → W p l e R s m args below meth c H locs cells slots Q (F0 m pc ls [.int (nI (kn x))])) : ∀ (ls : Array Slot) (H : Heap) (locs : List Loc), lv_has ls 2 [(0, .ref h), (1, .int (nI x))] → va_P D classes [(h, .inr (8, [.int (nI i0), .int (nI i1), .ref a2, .ref a3, .ref a4, .ref a5, .ref a6, .ref a7, .ref a8, .int (nI i9), .ref a10, .ref a11, .ref a12, .ref a13, .ref a14, .ref a15, .int (nI i16), .int (nI i17), .ref a18, .int (nI i19), .ref a20, .ref a21, .int (nI i22), .ref a23])), (a20, .inl (cI, 64, .inl (fun j => nI (kn j))))] H → va_D A [(h, .inr (8, [.int (nI i0), .int (nI i1), .ref a2, .ref a3, .ref a4, .ref a5, .ref a6, .ref a7, .ref a8, .int (nI i9), .ref a10, .ref a11, .ref a12, .ref a13, .ref a14, .ref a15, .int (nI i16), .int (nI i17), .ref a18, .int (nI i19), .ref a20, .ref a21, .int (nI i22), .ref a23])), (a20, .inl (cI, 64, .inl (fun j => nI (kn j))))] → va_S A H0 H locs → W p l e R s m args below meth c H locs cells slots Q (F0 m 0 ls []) := by
  obtain ⟨hx, hb, hml, hown, hts⟩ := id S
  intro ls H locs hl hP hD hS
  refine lv_aload_n hx hb d_m_text_0 rfl (lv_at hl 0 rfl) ?_
  refine lv_iconst (v := nI 0) hx hb d_m_text_1 (by decide) ?_
  refine n_put (C := R_Model) (T := F_Model) (N := 24) (v := .int (nI 0)) hx hb hts u_Model_in t_Model t_Model_ok n_Model hown hK hP hD hS 0 rfl rfl 0 (by decide) kw_776 rfl rfl rfl (Nat.le_of_ble_eq_true rfl) d_m_text_2 (fun H locs hP hD hS => ?_)
  have hP : va_P D classes [(h, .inr (8, [.int (nI 0), .int (nI i1), .ref a2, .ref a3, .ref a4, .ref a5, .ref a6, .ref a7, .ref a8, .int (nI i9), .ref a10, .ref a11, .ref a12, .ref a13, .ref a14, .ref a15, .int (nI i16), .int (nI i17), .ref a18, .int (nI i19), .ref a20, .ref a21, .int (nI i22), .ref a23])), (a20, .inl (cI, 64, .inl (fun j => nI (kn j))))] H := hP
  have hD : va_D A [(h, .inr (8, [.int (nI 0), .int (nI i1), .ref a2, .ref a3, .ref a4, .ref a5, .ref a6, .ref a7, .ref a8, .int (nI i9), .ref a10, .ref a11, .ref a12, .ref a13, .ref a14, .ref a15, .int (nI i16), .int (nI i17), .ref a18, .int (nI i19), .ref a20, .ref a21, .int (nI i22), .ref a23])), (a20, .inl (cI, 64, .inl (fun j => nI (kn j))))] := hD
  refine lv_iload_n hx hb d_m_text_5 rfl (lv_at hl 1 rfl) ?_
  refine n_if_lt hx hb d_m_text_6 (tgt := 26) rfl (by omega) ?_
  refine lv_iload_n hx hb d_m_text_9 rfl (lv_at hl 1 rfl) ?_
  refine lv_aload_n hx hb d_m_text_10 rfl (lv_at hl 0 rfl) ?_
  refine n_get (C := R_Model) (T := F_Model) (N := 24) (v := .int (nI i19)) hx hb hts u_Model_in hown hK hP 0 rfl rfl 19 (by decide) kw_795 rfl d_m_text_11 ?_
  refine n_icmp_ge hx hb d_m_text_14 (tgt := 26) rfl (by omega) (by omega) (fun g14 => absurd g14 (by omega)) (fun g14 => ?_)
  refine lv_aload_n hx hb d_m_text_17 rfl (lv_at hl 0 rfl) ?_
  refine n_get (C := R_Model) (T := F_Model) (N := 24) (v := .ref a20) hx hb hts u_Model_in hown hK hP 0 rfl rfl 20 (by decide) kw_796 rfl d_m_text_18 ?_
  refine lv_iload_n hx hb d_m_text_21 rfl (lv_at hl 1 rfl) ?_
  refine n_iald hx hb hK hP 1 0 rfl rfl (by omega) (by decide) d_m_text_22 ?_
  refine lv_goto hx hb d_m_text_23 (tgt := 27) rfl ?_
  exact kr _ ls H locs d_m_text_27 hP hD hS
set_option maxHeartbeats 1000000 in
set_option maxRecDepth 100000 in
theorem c_m_text_in (l : Launch) (D : va_G) (cI cC : ClassId) (h i0 i1 a2 a3 a4 a5 a6 a7 a8 i9 a10 a11 a12 a13 a14 a15 i16 i17 a18 i19 a20 a21 i22 a23 : Nat) (kn : Nat → Nat) (x : Nat) (hx0 : x < i19) (hi : i19 ≤ 64) (sz : Nat) : Met l y_m_text (cd_m_text :: WS) { frames := 0, cells := 0, slots := 0, locals := 0 } (va_Pc [.ref h, .int (nI x)] (wP D [(h, .inr (8, [.int (nI i0), .int (nI i1), .ref a2, .ref a3, .ref a4, .ref a5, .ref a6, .ref a7, .ref a8, .int (nI i9), .ref a10, .ref a11, .ref a12, .ref a13, .ref a14, .ref a15, .int (nI i16), .int (nI i17), .ref a18, .int (nI i19), .ref a20, .ref a21, .int (nI i22), .ref a23])), (a20, .inl (cI, 64, .inl (fun j => nI (kn j))))] [(cI, .int), (cC, .char)] sz)) (wQi D (nI (kn x)) [(h, .inr (8, [.int (nI i0), .int (nI i1), .ref a2, .ref a3, .ref a4, .ref a5, .ref a6, .ref a7, .ref a8, .int (nI i9), .ref a10, .ref a11, .ref a12, .ref a13, .ref a14, .ref a15, .int (nI i16), .int (nI i17), .ref a18, .int (nI i19), .ref a20, .ref a21, .int (nI i22), .ref a23])), (a20, .inl (cI, 64, .inl (fun j => nI (kn j))))] [(h, .inr (8, [.int (nI 0), .int (nI i1), .ref a2, .ref a3, .ref a4, .ref a5, .ref a6, .ref a7, .ref a8, .int (nI i9), .ref a10, .ref a11, .ref a12, .ref a13, .ref a14, .ref a15, .int (nI i16), .int (nI i17), .ref a18, .int (nI i19), .ref a20, .ref a21, .int (nI i22), .ref a23])), (a20, .inl (cI, 64, .inl (fun j => nI (kn j))))] sz) 0 0 (va_A [(h, .inr (8, [.int (nI i0), .int (nI i1), .ref a2, .ref a3, .ref a4, .ref a5, .ref a6, .ref a7, .ref a8, .int (nI i9), .ref a10, .ref a11, .ref a12, .ref a13, .ref a14, .ref a15, .int (nI i16), .int (nI i17), .ref a18, .int (nI i19), .ref a20, .ref a21, .int (nI i22), .ref a23])), (a20, .inl (cI, 64, .inl (fun j => nI (kn j))))] sz) := by
  refine Met.ofW (cc := b_m_text) (maxL := 2) (ret := (some .int)) (by decide) rfl ?_
  intro p e s m args below meth c s₁ B hml hv0
  obtain ⟨rfl, hP, hK, hD0, hsz⟩ := hv0
  have hts := atoms_spec (ws := cd_m_text :: WS) B.pre
  have hown : s.vm.findClass R_Model = some m.cls := findClass_of_methodNamed B.named
  have hlocks := B.notSynchronized
  subst hsz
  have hD := hD0.self (sz := s.heap.size)
  have hl := lv_entry ([.ref h, .int (nI x)]) (n := 2) (Nat.le_of_ble_eq_true rfl)
  rw [lg_entry_eq]
  generalize (lg_sl ([.ref h, .int (nI x)]) ++ List.replicate (2 - (lg_sl ([.ref h, .int (nI x)])).length) Slot.unset).toArray = ls at hl ⊢
  refine bd_m_text_in cI cC h i0 i1 a2 a3 a4 a5 a6 a7 a8 i9 a10 a11 a12 a13 a14 a15 i16 i17 a18 i19 a20 a21 i22 a23 kn x hx0 hi ⟨B.exec, B.bytes, hml, hown, hts⟩ (Nat.le_refl _) (Nat.le_refl _) ⟨Nat.le_refl _, Nat.le_refl _⟩ hK (fun q h => Or.inr h) (fun pc ls H locs hd hP hD hS => ?_) ls _ _ hl hP hD (va_S.rf)
  exact W.iret B.exec B.bytes B.returns (fun t ht _ => ⟨⟨_, (), rfl, rfl, (by have h9 := hP; rw [← ht] at h9; exact h9)⟩, hS.F ht⟩) hS.2.2 hd
end
section
variable {p : Program} {l : Launch} {e : Env} {R : Room} {s : State} {m : MethodId} {args : Array Value} {below : List Frame} {meth : Method} {c : Code} {cells slots : Nat} {Q : State → Prop} {A : Nat → Prop} {H0 : Heap} {D : va_G}
set_option maxHeartbeats 1000000 in
set_option maxRecDepth 100000 in
theorem bd_m_text_out (cI cC : ClassId) (h i0 i1 a2 a3 a4 a5 a6 a7 a8 i9 a10 a11 a12 a13 a14 a15 i16 i17 a18 i19 a20 a21 i22 a23 : Nat) (kn : Nat → Nat) (x : Int32) (ho : x < 0 ∨ nI i19 ≤ x) (S : CallFix p m c b_m_text 2 s args (cd_m_text :: WS) R_Model) (hRf : 0 ≤ R.frames) (hRl : 0 ≤ R.locals) (hRc : cells ≤ R.cells ∧ slots ≤ R.slots) (hK : va_K D classes [(cI, .int), (cC, .char)] s) (hA : ∀ q, H0.size ≤ q → A q) (kr : ∀ (pc : Nat) (ls : Array Slot) (H : Heap) (locs : List Loc), decode b_m_text pc = .ok (.ireturn, 1) → va_P D classes [(h, .inr (8, [.int (nI 0), .int (nI i1), .ref a2, .ref a3, .ref a4, .ref a5, .ref a6, .ref a7, .ref a8, .int (nI i9), .ref a10, .ref a11, .ref a12, .ref a13, .ref a14, .ref a15, .int (nI i16), .int (nI i17), .ref a18, .int (nI i19), .ref a20, .ref a21, .int (nI i22), .ref a23])), (a20, .inl (cI, 64, .inl (fun j => nI (kn j))))] H → va_D A [(h, .inr (8, [.int (nI 0), .int (nI i1), .ref a2, .ref a3, .ref a4, .ref a5, .ref a6, .ref a7, .ref a8, .int (nI i9), .ref a10, .ref a11, .ref a12, .ref a13, .ref a14, .ref a15, .int (nI i16), .int (nI i17), .ref a18, .int (nI i19), .ref a20, .ref a21, .int (nI i22), .ref a23])), (a20, .inl (cI, 64, .inl (fun j => nI (kn j))))] → va_S A H0 H locs → W p l e R s m args below meth c H locs cells slots Q (F0 m pc ls [.int (-1)])) : ∀ (ls : Array Slot) (H : Heap) (locs : List Loc), lv_has ls 2 [(0, .ref h), (1, .int x)] → va_P D classes [(h, .inr (8, [.int (nI i0), .int (nI i1), .ref a2, .ref a3, .ref a4, .ref a5, .ref a6, .ref a7, .ref a8, .int (nI i9), .ref a10, .ref a11, .ref a12, .ref a13, .ref a14, .ref a15, .int (nI i16), .int (nI i17), .ref a18, .int (nI i19), .ref a20, .ref a21, .int (nI i22), .ref a23])), (a20, .inl (cI, 64, .inl (fun j => nI (kn j))))] H → va_D A [(h, .inr (8, [.int (nI i0), .int (nI i1), .ref a2, .ref a3, .ref a4, .ref a5, .ref a6, .ref a7, .ref a8, .int (nI i9), .ref a10, .ref a11, .ref a12, .ref a13, .ref a14, .ref a15, .int (nI i16), .int (nI i17), .ref a18, .int (nI i19), .ref a20, .ref a21, .int (nI i22), .ref a23])), (a20, .inl (cI, 64, .inl (fun j => nI (kn j))))] → va_S A H0 H locs → W p l e R s m args below meth c H locs cells slots Q (F0 m 0 ls []) := by
  obtain ⟨hx, hb, hml, hown, hts⟩ := id S
  intro ls H locs hl hP hD hS
  refine lv_aload_n hx hb d_m_text_0 rfl (lv_at hl 0 rfl) ?_
  refine lv_iconst (v := nI 0) hx hb d_m_text_1 (by decide) ?_
  refine n_put (C := R_Model) (T := F_Model) (N := 24) (v := .int (nI 0)) hx hb hts u_Model_in t_Model t_Model_ok n_Model hown hK hP hD hS 0 rfl rfl 0 (by decide) kw_776 rfl rfl rfl (Nat.le_of_ble_eq_true rfl) d_m_text_2 (fun H locs hP hD hS => ?_)
  have hP : va_P D classes [(h, .inr (8, [.int (nI 0), .int (nI i1), .ref a2, .ref a3, .ref a4, .ref a5, .ref a6, .ref a7, .ref a8, .int (nI i9), .ref a10, .ref a11, .ref a12, .ref a13, .ref a14, .ref a15, .int (nI i16), .int (nI i17), .ref a18, .int (nI i19), .ref a20, .ref a21, .int (nI i22), .ref a23])), (a20, .inl (cI, 64, .inl (fun j => nI (kn j))))] H := hP
  have hD : va_D A [(h, .inr (8, [.int (nI 0), .int (nI i1), .ref a2, .ref a3, .ref a4, .ref a5, .ref a6, .ref a7, .ref a8, .int (nI i9), .ref a10, .ref a11, .ref a12, .ref a13, .ref a14, .ref a15, .int (nI i16), .int (nI i17), .ref a18, .int (nI i19), .ref a20, .ref a21, .int (nI i22), .ref a23])), (a20, .inl (cI, 64, .inl (fun j => nI (kn j))))] := hD
  refine lv_iload_n hx hb d_m_text_5 rfl (lv_at hl 1 rfl) ?_
  refine lv_if_lt hx hb d_m_text_6 (tgt := 26) rfl (fun g6 => ?_) (fun g6 => ?_)
  · skip
    refine lv_iconst (v := (-1)) hx hb d_m_text_26 (by decide) ?_
    exact kr _ ls H locs d_m_text_27 hP hD hS
  · skip
    refine lv_iload_n hx hb d_m_text_9 rfl (lv_at hl 1 rfl) ?_
    refine lv_aload_n hx hb d_m_text_10 rfl (lv_at hl 0 rfl) ?_
    refine n_get (C := R_Model) (T := F_Model) (N := 24) (v := .int (nI i19)) hx hb hts u_Model_in hown hK hP 0 rfl rfl 19 (by decide) kw_795 rfl d_m_text_11 ?_
    refine lv_icmp_ge hx hb d_m_text_14 (tgt := 26) rfl (fun g14 => ?_) (fun g14 => absurd (ho.resolve_left g6) g14)
    refine lv_iconst (v := (-1)) hx hb d_m_text_26 (by decide) ?_
    exact kr _ ls H locs d_m_text_27 hP hD hS
set_option maxHeartbeats 1000000 in
set_option maxRecDepth 100000 in
theorem c_m_text_out (l : Launch) (D : va_G) (cI cC : ClassId) (h i0 i1 a2 a3 a4 a5 a6 a7 a8 i9 a10 a11 a12 a13 a14 a15 i16 i17 a18 i19 a20 a21 i22 a23 : Nat) (kn : Nat → Nat) (x : Int32) (ho : x < 0 ∨ nI i19 ≤ x) (sz : Nat) : Met l y_m_text (cd_m_text :: WS) { frames := 0, cells := 0, slots := 0, locals := 0 } (va_Pc [.ref h, .int x] (wP D [(h, .inr (8, [.int (nI i0), .int (nI i1), .ref a2, .ref a3, .ref a4, .ref a5, .ref a6, .ref a7, .ref a8, .int (nI i9), .ref a10, .ref a11, .ref a12, .ref a13, .ref a14, .ref a15, .int (nI i16), .int (nI i17), .ref a18, .int (nI i19), .ref a20, .ref a21, .int (nI i22), .ref a23])), (a20, .inl (cI, 64, .inl (fun j => nI (kn j))))] [(cI, .int), (cC, .char)] sz)) (wQi D (-1) [(h, .inr (8, [.int (nI i0), .int (nI i1), .ref a2, .ref a3, .ref a4, .ref a5, .ref a6, .ref a7, .ref a8, .int (nI i9), .ref a10, .ref a11, .ref a12, .ref a13, .ref a14, .ref a15, .int (nI i16), .int (nI i17), .ref a18, .int (nI i19), .ref a20, .ref a21, .int (nI i22), .ref a23])), (a20, .inl (cI, 64, .inl (fun j => nI (kn j))))] [(h, .inr (8, [.int (nI 0), .int (nI i1), .ref a2, .ref a3, .ref a4, .ref a5, .ref a6, .ref a7, .ref a8, .int (nI i9), .ref a10, .ref a11, .ref a12, .ref a13, .ref a14, .ref a15, .int (nI i16), .int (nI i17), .ref a18, .int (nI i19), .ref a20, .ref a21, .int (nI i22), .ref a23])), (a20, .inl (cI, 64, .inl (fun j => nI (kn j))))] sz) 0 0 (va_A [(h, .inr (8, [.int (nI i0), .int (nI i1), .ref a2, .ref a3, .ref a4, .ref a5, .ref a6, .ref a7, .ref a8, .int (nI i9), .ref a10, .ref a11, .ref a12, .ref a13, .ref a14, .ref a15, .int (nI i16), .int (nI i17), .ref a18, .int (nI i19), .ref a20, .ref a21, .int (nI i22), .ref a23])), (a20, .inl (cI, 64, .inl (fun j => nI (kn j))))] sz) := by
  refine Met.ofW (cc := b_m_text) (maxL := 2) (ret := (some .int)) (by decide) rfl ?_
  intro p e s m args below meth c s₁ B hml hv0
  obtain ⟨rfl, hP, hK, hD0, hsz⟩ := hv0
  have hts := atoms_spec (ws := cd_m_text :: WS) B.pre
  have hown : s.vm.findClass R_Model = some m.cls := findClass_of_methodNamed B.named
  have hlocks := B.notSynchronized
  subst hsz
  have hD := hD0.self (sz := s.heap.size)
  have hl := lv_entry ([.ref h, .int x]) (n := 2) (Nat.le_of_ble_eq_true rfl)
  rw [lg_entry_eq]
  generalize (lg_sl ([.ref h, .int x]) ++ List.replicate (2 - (lg_sl ([.ref h, .int x])).length) Slot.unset).toArray = ls at hl ⊢
  refine bd_m_text_out cI cC h i0 i1 a2 a3 a4 a5 a6 a7 a8 i9 a10 a11 a12 a13 a14 a15 i16 i17 a18 i19 a20 a21 i22 a23 kn x ho ⟨B.exec, B.bytes, hml, hown, hts⟩ (Nat.le_refl _) (Nat.le_refl _) ⟨Nat.le_refl _, Nat.le_refl _⟩ hK (fun q h => Or.inr h) (fun pc ls H locs hd hP hD hS => ?_) ls _ _ hl hP hD (va_S.rf)
  exact W.iret B.exec B.bytes B.returns (fun t ht _ => ⟨⟨_, (), rfl, rfl, (by have h9 := hP; rw [← ht] at h9; exact h9)⟩, hS.F ht⟩) hS.2.2 hd
end
section
theorem d_m_told_0 : decode b_m_told 0 = .ok (.aload_n 0, 1) := by decide +kernel
theorem d_m_told_1 : decode b_m_told 1 = .ok (.iconst 0, 1) := by decide +kernel
theorem d_m_told_2 : decode b_m_told 2 = .ok (.putfield 65, 3) := by decide +kernel
theorem d_m_told_5 : decode b_m_told 5 = .ok (.aload_n 0, 1) := by decide +kernel
theorem d_m_told_6 : decode b_m_told 6 = .ok (.getfield 186, 3) := by decide +kernel
theorem d_m_told_9 : decode b_m_told 9 = .ok (.ifCond .eq 21, 3) := by decide +kernel
theorem d_m_told_12 : decode b_m_told 12 = .ok (.iload_n 1, 1) := by decide +kernel
theorem d_m_told_13 : decode b_m_told 13 = .ok (.ifCond .lt 17, 3) := by decide +kernel
theorem d_m_told_16 : decode b_m_told 16 = .ok (.iload_n 1, 1) := by decide +kernel
theorem d_m_told_17 : decode b_m_told 17 = .ok (.iconst 3, 1) := by decide +kernel
theorem d_m_told_18 : decode b_m_told 18 = .ok (.if_icmp .gt 12, 3) := by decide +kernel
theorem d_m_told_21 : decode b_m_told 21 = .ok (.aload_n 0, 1) := by decide +kernel
theorem d_m_told_22 : decode b_m_told 22 = .ok (.getfield 55, 3) := by decide +kernel
theorem d_m_told_25 : decode b_m_told 25 = .ok (.iload_n 1, 1) := by decide +kernel
theorem d_m_told_26 : decode b_m_told 26 = .ok (.iaload, 1) := by decide +kernel
theorem d_m_told_27 : decode b_m_told 27 = .ok (.goto 4, 3) := by decide +kernel
theorem d_m_told_30 : decode b_m_told 30 = .ok (.iconst (-1), 1) := by decide +kernel
theorem d_m_told_31 : decode b_m_told 31 = .ok (.ireturn, 1) := by decide +kernel
end
section
variable {p : Program} {l : Launch} {e : Env} {R : Room} {s : State} {m : MethodId} {args : Array Value} {below : List Frame} {meth : Method} {c : Code} {cells slots : Nat} {Q : State → Prop} {A : Nat → Prop} {H0 : Heap} {D : va_G}
set_option maxHeartbeats 1000000 in
set_option maxRecDepth 100000 in
theorem bd_m_told_in (cI cC : ClassId) (h i0 i1 a2 a3 a4 a5 a6 a7 a8 i9 a10 a11 a12 a13 a14 a15 i16 i17 a18 i19 a20 a21 i22 a23 : Nat) (ab : Nat → Nat) (x : Nat) (hx0 : x < 4) (hi : i22 = 1) (S : CallFix p m c b_m_told 2 s args (cd_m_told :: WS) R_Model) (hRf : 0 ≤ R.frames) (hRl : 0 ≤ R.locals) (hRc : cells ≤ R.cells ∧ slots ≤ R.slots) (hK : va_K D classes [(cI, .int), (cC, .char)] s) (hA : ∀ q, H0.size ≤ q → A q) (kr : ∀ (pc : Nat) (ls : Array Slot) (H : Heap) (locs : List Loc), decode b_m_told pc = .ok (.ireturn, 1) → va_P D classes [(h, .inr (8, [.int (nI 0), .int (nI i1), .ref a2, .ref a3, .ref a4, .ref a5, .ref a6, .ref a7, .ref a8, .int (nI i9), .ref a10, .ref a11, .ref a12, .ref a13, .ref a14, .ref a15, .int (nI i16), .int (nI i17), .ref a18, .int (nI i19), .ref a20, .ref a21, .int (nI i22), .ref a23])), (a21, .inl (cI, 4, .inl (fun j => nI (ab j))))] H → va_D A [(h, .inr (8, [.int (nI 0), .int (nI i1), .ref a2, .ref a3, .ref a4, .ref a5, .ref a6, .ref a7, .ref a8, .int (nI i9), .ref a10, .ref a11, .ref a12, .ref a13, .ref a14, .ref a15, .int (nI i16), .int (nI i17), .ref a18, .int (nI i19), .ref a20, .ref a21, .int (nI i22), .ref a23])), (a21, .inl (cI, 4, .inl (fun j => nI (ab j))))] → va_S A H0 H locs → W p l e R s m args below meth c H locs cells slots Q (F0 m pc ls [.int (nI (ab x))])) : ∀ (ls : Array Slot) (H : Heap) (locs : List Loc), lv_has ls 2 [(0, .ref h), (1, .int (nI x))] → va_P D classes [(h, .inr (8, [.int (nI i0), .int (nI i1), .ref a2, .ref a3, .ref a4, .ref a5, .ref a6, .ref a7, .ref a8, .int (nI i9), .ref a10, .ref a11, .ref a12, .ref a13, .ref a14, .ref a15, .int (nI i16), .int (nI i17), .ref a18, .int (nI i19), .ref a20, .ref a21, .int (nI i22), .ref a23])), (a21, .inl (cI, 4, .inl (fun j => nI (ab j))))] H → va_D A [(h, .inr (8, [.int (nI i0), .int (nI i1), .ref a2, .ref a3, .ref a4, .ref a5, .ref a6, .ref a7, .ref a8, .int (nI i9), .ref a10, .ref a11, .ref a12, .ref a13, .ref a14, .ref a15, .int (nI i16), .int (nI i17), .ref a18, .int (nI i19), .ref a20, .ref a21, .int (nI i22), .ref a23])), (a21, .inl (cI, 4, .inl (fun j => nI (ab j))))] → va_S A H0 H locs → W p l e R s m args below meth c H locs cells slots Q (F0 m 0 ls []) := by
  obtain ⟨hx, hb, hml, hown, hts⟩ := id S
  intro ls H locs hl hP hD hS
  refine lv_aload_n hx hb d_m_told_0 rfl (lv_at hl 0 rfl) ?_
  refine lv_iconst (v := nI 0) hx hb d_m_told_1 (by decide) ?_
  refine n_put (C := R_Model) (T := F_Model) (N := 24) (v := .int (nI 0)) hx hb hts u_Model_in t_Model t_Model_ok n_Model hown hK hP hD hS 0 rfl rfl 0 (by decide) kw_776 rfl rfl rfl (Nat.le_of_ble_eq_true rfl) d_m_told_2 (fun H locs hP hD hS => ?_)
  have hP : va_P D classes [(h, .inr (8, [.int (nI 0), .int (nI i1), .ref a2, .ref a3, .ref a4, .ref a5, .ref a6, .ref a7, .ref a8, .int (nI i9), .ref a10, .ref a11, .ref a12, .ref a13, .ref a14, .ref a15, .int (nI i16), .int (nI i17), .ref a18, .int (nI i19), .ref a20, .ref a21, .int (nI i22), .ref a23])), (a21, .inl (cI, 4, .inl (fun j => nI (ab j))))] H := hP
  have hD : va_D A [(h, .inr (8, [.int (nI 0), .int (nI i1), .ref a2, .ref a3, .ref a4, .ref a5, .ref a6, .ref a7, .ref a8, .int (nI i9), .ref a10, .ref a11, .ref a12, .ref a13, .ref a14, .ref a15, .int (nI i16), .int (nI i17), .ref a18, .int (nI i19), .ref a20, .ref a21, .int (nI i22), .ref a23])), (a21, .inl (cI, 4, .inl (fun j => nI (ab j))))] := hD
  refine lv_aload_n hx hb d_m_told_5 rfl (lv_at hl 0 rfl) ?_
  refine n_get (C := R_Model) (T := F_Model) (N := 24) (v := .int (nI i22)) hx hb hts u_Model_in hown hK hP 0 rfl rfl 22 (by decide) kw_798 rfl d_m_told_6 ?_
  refine n_if_eq hx hb d_m_told_9 (tgt := 30) rfl (by omega) (fun g9 => absurd g9 (by omega)) (fun g9 => ?_)
  refine lv_iload_n hx hb d_m_told_12 rfl (lv_at hl 1 rfl) ?_
  refine n_if_lt hx hb d_m_told_13 (tgt := 30) rfl (by omega) ?_
  refine lv_iload_n hx hb d_m_told_16 rfl (lv_at hl 1 rfl) ?_
  refine lv_iconst (v := nI 3) hx hb d_m_told_17 (by decide) ?_
  refine n_icmp_gt hx hb d_m_told_18 (tgt := 30) rfl (by omega) (by omega) (fun g18 => absurd g18 (by omega)) (fun g18 => ?_)
  refine lv_aload_n hx hb d_m_told_21 rfl (lv_at hl 0 rfl) ?_
  refine n_get (C := R_Model) (T := F_Model) (N := 24) (v := .ref a21) hx hb hts u_Model_in hown hK hP 0 rfl rfl 21 (by decide) kw_797 rfl d_m_told_22 ?_
  refine lv_iload_n hx hb d_m_told_25 rfl (lv_at hl 1 rfl) ?_
  refine n_iald hx hb hK hP 1 0 rfl rfl (by omega) (by decide) d_m_told_26 ?_
  refine lv_goto hx hb d_m_told_27 (tgt := 31) rfl ?_
  exact kr _ ls H locs d_m_told_31 hP hD hS
set_option maxHeartbeats 1000000 in
set_option maxRecDepth 100000 in
theorem c_m_told_in (l : Launch) (D : va_G) (cI cC : ClassId) (h i0 i1 a2 a3 a4 a5 a6 a7 a8 i9 a10 a11 a12 a13 a14 a15 i16 i17 a18 i19 a20 a21 i22 a23 : Nat) (ab : Nat → Nat) (x : Nat) (hx0 : x < 4) (hi : i22 = 1) (sz : Nat) : Met l y_m_told (cd_m_told :: WS) { frames := 0, cells := 0, slots := 0, locals := 0 } (va_Pc [.ref h, .int (nI x)] (wP D [(h, .inr (8, [.int (nI i0), .int (nI i1), .ref a2, .ref a3, .ref a4, .ref a5, .ref a6, .ref a7, .ref a8, .int (nI i9), .ref a10, .ref a11, .ref a12, .ref a13, .ref a14, .ref a15, .int (nI i16), .int (nI i17), .ref a18, .int (nI i19), .ref a20, .ref a21, .int (nI i22), .ref a23])), (a21, .inl (cI, 4, .inl (fun j => nI (ab j))))] [(cI, .int), (cC, .char)] sz)) (wQi D (nI (ab x)) [(h, .inr (8, [.int (nI i0), .int (nI i1), .ref a2, .ref a3, .ref a4, .ref a5, .ref a6, .ref a7, .ref a8, .int (nI i9), .ref a10, .ref a11, .ref a12, .ref a13, .ref a14, .ref a15, .int (nI i16), .int (nI i17), .ref a18, .int (nI i19), .ref a20, .ref a21, .int (nI i22), .ref a23])), (a21, .inl (cI, 4, .inl (fun j => nI (ab j))))] [(h, .inr (8, [.int (nI 0), .int (nI i1), .ref a2, .ref a3, .ref a4, .ref a5, .ref a6, .ref a7, .ref a8, .int (nI i9), .ref a10, .ref a11, .ref a12, .ref a13, .ref a14, .ref a15, .int (nI i16), .int (nI i17), .ref a18, .int (nI i19), .ref a20, .ref a21, .int (nI i22), .ref a23])), (a21, .inl (cI, 4, .inl (fun j => nI (ab j))))] sz) 0 0 (va_A [(h, .inr (8, [.int (nI i0), .int (nI i1), .ref a2, .ref a3, .ref a4, .ref a5, .ref a6, .ref a7, .ref a8, .int (nI i9), .ref a10, .ref a11, .ref a12, .ref a13, .ref a14, .ref a15, .int (nI i16), .int (nI i17), .ref a18, .int (nI i19), .ref a20, .ref a21, .int (nI i22), .ref a23])), (a21, .inl (cI, 4, .inl (fun j => nI (ab j))))] sz) := by
  refine Met.ofW (cc := b_m_told) (maxL := 2) (ret := (some .int)) (by decide) rfl ?_
  intro p e s m args below meth c s₁ B hml hv0
  obtain ⟨rfl, hP, hK, hD0, hsz⟩ := hv0
  have hts := atoms_spec (ws := cd_m_told :: WS) B.pre
  have hown : s.vm.findClass R_Model = some m.cls := findClass_of_methodNamed B.named
  have hlocks := B.notSynchronized
  subst hsz
  have hD := hD0.self (sz := s.heap.size)
  have hl := lv_entry ([.ref h, .int (nI x)]) (n := 2) (Nat.le_of_ble_eq_true rfl)
  rw [lg_entry_eq]
  generalize (lg_sl ([.ref h, .int (nI x)]) ++ List.replicate (2 - (lg_sl ([.ref h, .int (nI x)])).length) Slot.unset).toArray = ls at hl ⊢
  refine bd_m_told_in cI cC h i0 i1 a2 a3 a4 a5 a6 a7 a8 i9 a10 a11 a12 a13 a14 a15 i16 i17 a18 i19 a20 a21 i22 a23 ab x hx0 hi ⟨B.exec, B.bytes, hml, hown, hts⟩ (Nat.le_refl _) (Nat.le_refl _) ⟨Nat.le_refl _, Nat.le_refl _⟩ hK (fun q h => Or.inr h) (fun pc ls H locs hd hP hD hS => ?_) ls _ _ hl hP hD (va_S.rf)
  exact W.iret B.exec B.bytes B.returns (fun t ht _ => ⟨⟨_, (), rfl, rfl, (by have h9 := hP; rw [← ht] at h9; exact h9)⟩, hS.F ht⟩) hS.2.2 hd
end
section
variable {p : Program} {l : Launch} {e : Env} {R : Room} {s : State} {m : MethodId} {args : Array Value} {below : List Frame} {meth : Method} {c : Code} {cells slots : Nat} {Q : State → Prop} {A : Nat → Prop} {H0 : Heap} {D : va_G}
set_option maxHeartbeats 1000000 in
set_option maxRecDepth 100000 in
theorem bd_m_told_out (cI cC : ClassId) (h i0 i1 a2 a3 a4 a5 a6 a7 a8 i9 a10 a11 a12 a13 a14 a15 i16 i17 a18 i19 a20 a21 i22 a23 : Nat) (ab : Nat → Nat) (x : Int32) (hi : i22 ≤ 1) (ho : i22 = 0 ∨ x < 0 ∨ nI 3 < x) (S : CallFix p m c b_m_told 2 s args (cd_m_told :: WS) R_Model) (hRf : 0 ≤ R.frames) (hRl : 0 ≤ R.locals) (hRc : cells ≤ R.cells ∧ slots ≤ R.slots) (hK : va_K D classes [(cI, .int), (cC, .char)] s) (hA : ∀ q, H0.size ≤ q → A q) (kr : ∀ (pc : Nat) (ls : Array Slot) (H : Heap) (locs : List Loc), decode b_m_told pc = .ok (.ireturn, 1) → va_P D classes [(h, .inr (8, [.int (nI 0), .int (nI i1), .ref a2, .ref a3, .ref a4, .ref a5, .ref a6, .ref a7, .ref a8, .int (nI i9), .ref a10, .ref a11, .ref a12, .ref a13, .ref a14, .ref a15, .int (nI i16), .int (nI i17), .ref a18, .int (nI i19), .ref a20, .ref a21, .int (nI i22), .ref a23])), (a21, .inl (cI, 4, .inl (fun j => nI (ab j))))] H → va_D A [(h, .inr (8, [.int (nI 0), .int (nI i1), .ref a2, .ref a3, .ref a4, .ref a5, .ref a6, .ref a7, .ref a8, .int (nI i9), .ref a10, .ref a11, .ref a12, .ref a13, .ref a14, .ref a15, .int (nI i16), .int (nI i17), .ref a18, .int (nI i19), .ref a20, .ref a21, .int (nI i22), .ref a23])), (a21, .inl (cI, 4, .inl (fun j => nI (ab j))))] → va_S A H0 H locs → W p l e R s m args below meth c H locs cells slots Q (F0 m pc ls [.int (-1)])) : ∀ (ls : Array Slot) (H : Heap) (locs : List Loc), lv_has ls 2 [(0, .ref h), (1, .int x)] → va_P D classes [(h, .inr (8, [.int (nI i0), .int (nI i1), .ref a2, .ref a3, .ref a4, .ref a5, .ref a6, .ref a7, .ref a8, .int (nI i9), .ref a10, .ref a11, .ref a12, .ref a13, .ref a14, .ref a15, .int (nI i16), .int (nI i17), .ref a18, .int (nI i19), .ref a20, .ref a21, .int (nI i22), .ref a23])), (a21, .inl (cI, 4, .inl (fun j => nI (ab j))))] H → va_D A [(h, .inr (8, [.int (nI i0), .int (nI i1), .ref a2, .ref a3, .ref a4, .ref a5, .ref a6, .ref a7, .ref a8, .int (nI i9), .ref a10, .ref a11, .ref a12, .ref a13, .ref a14, .ref a15, .int (nI i16), .int (nI i17), .ref a18, .int (nI i19), .ref a20, .ref a21, .int (nI i22), .ref a23])), (a21, .inl (cI, 4, .inl (fun j => nI (ab j))))] → va_S A H0 H locs → W p l e R s m args below meth c H locs cells slots Q (F0 m 0 ls []) := by
  obtain ⟨hx, hb, hml, hown, hts⟩ := id S
  intro ls H locs hl hP hD hS
  refine lv_aload_n hx hb d_m_told_0 rfl (lv_at hl 0 rfl) ?_
  refine lv_iconst (v := nI 0) hx hb d_m_told_1 (by decide) ?_
  refine n_put (C := R_Model) (T := F_Model) (N := 24) (v := .int (nI 0)) hx hb hts u_Model_in t_Model t_Model_ok n_Model hown hK hP hD hS 0 rfl rfl 0 (by decide) kw_776 rfl rfl rfl (Nat.le_of_ble_eq_true rfl) d_m_told_2 (fun H locs hP hD hS => ?_)
  have hP : va_P D classes [(h, .inr (8, [.int (nI 0), .int (nI i1), .ref a2, .ref a3, .ref a4, .ref a5, .ref a6, .ref a7, .ref a8, .int (nI i9), .ref a10, .ref a11, .ref a12, .ref a13, .ref a14, .ref a15, .int (nI i16), .int (nI i17), .ref a18, .int (nI i19), .ref a20, .ref a21, .int (nI i22), .ref a23])), (a21, .inl (cI, 4, .inl (fun j => nI (ab j))))] H := hP
  have hD : va_D A [(h, .inr (8, [.int (nI 0), .int (nI i1), .ref a2, .ref a3, .ref a4, .ref a5, .ref a6, .ref a7, .ref a8, .int (nI i9), .ref a10, .ref a11, .ref a12, .ref a13, .ref a14, .ref a15, .int (nI i16), .int (nI i17), .ref a18, .int (nI i19), .ref a20, .ref a21, .int (nI i22), .ref a23])), (a21, .inl (cI, 4, .inl (fun j => nI (ab j))))] := hD
  refine lv_aload_n hx hb d_m_told_5 rfl (lv_at hl 0 rfl) ?_
  refine n_get (C := R_Model) (T := F_Model) (N := 24) (v := .int (nI i22)) hx hb hts u_Model_in hown hK hP 0 rfl rfl 22 (by decide) kw_798 rfl d_m_told_6 ?_
  refine n_if_eq hx hb d_m_told_9 (tgt := 30) rfl (by omega) (fun g9 => ?_) (fun g9 => ?_)
  · skip
    refine lv_iconst (v := (-1)) hx hb d_m_told_30 (by decide) ?_
    exact kr _ ls H locs d_m_told_31 hP hD hS
  · skip
    refine lv_iload_n hx hb d_m_told_12 rfl (lv_at hl 1 rfl) ?_
    refine lv_if_lt hx hb d_m_told_13 (tgt := 30) rfl (fun g13 => ?_) (fun g13 => ?_)
    · skip
      refine lv_iconst (v := (-1)) hx hb d_m_told_30 (by decide) ?_
      exact kr _ ls H locs d_m_told_31 hP hD hS
    · skip
      refine lv_iload_n hx hb d_m_told_16 rfl (lv_at hl 1 rfl) ?_
      refine lv_iconst (v := nI 3) hx hb d_m_told_17 (by decide) ?_
      refine lv_icmp_gt hx hb d_m_told_18 (tgt := 30) rfl (fun g18 => ?_) (fun g18 => absurd ((ho.resolve_left g9).resolve_left g13) g18)
      refine lv_iconst (v := (-1)) hx hb d_m_told_30 (by decide) ?_
      exact kr _ ls H locs d_m_told_31 hP hD hS
set_option maxHeartbeats 1000000 in
set_option maxRecDepth 100000 in
theorem c_m_told_out (l : Launch) (D : va_G) (cI cC : ClassId) (h i0 i1 a2 a3 a4 a5 a6 a7 a8 i9 a10 a11 a12 a13 a14 a15 i16 i17 a18 i19 a20 a21 i22 a23 : Nat) (ab : Nat → Nat) (x : Int32) (hi : i22 ≤ 1) (ho : i22 = 0 ∨ x < 0 ∨ nI 3 < x) (sz : Nat) : Met l y_m_told (cd_m_told :: WS) { frames := 0, cells := 0, slots := 0, locals := 0 } (va_Pc [.ref h, .int x] (wP D [(h, .inr (8, [.int (nI i0), .int (nI i1), .ref a2, .ref a3, .ref a4, .ref a5, .ref a6, .ref a7, .ref a8, .int (nI i9), .ref a10, .ref a11, .ref a12, .ref a13, .ref a14, .ref a15, .int (nI i16), .int (nI i17), .ref a18, .int (nI i19), .ref a20, .ref a21, .int (nI i22), .ref a23])), (a21, .inl (cI, 4, .inl (fun j => nI (ab j))))] [(cI, .int), (cC, .char)] sz)) (wQi D (-1) [(h, .inr (8, [.int (nI i0), .int (nI i1), .ref a2, .ref a3, .ref a4, .ref a5, .ref a6, .ref a7, .ref a8, .int (nI i9), .ref a10, .ref a11, .ref a12, .ref a13, .ref a14, .ref a15, .int (nI i16), .int (nI i17), .ref a18, .int (nI i19), .ref a20, .ref a21, .int (nI i22), .ref a23])), (a21, .inl (cI, 4, .inl (fun j => nI (ab j))))] [(h, .inr (8, [.int (nI 0), .int (nI i1), .ref a2, .ref a3, .ref a4, .ref a5, .ref a6, .ref a7, .ref a8, .int (nI i9), .ref a10, .ref a11, .ref a12, .ref a13, .ref a14, .ref a15, .int (nI i16), .int (nI i17), .ref a18, .int (nI i19), .ref a20, .ref a21, .int (nI i22), .ref a23])), (a21, .inl (cI, 4, .inl (fun j => nI (ab j))))] sz) 0 0 (va_A [(h, .inr (8, [.int (nI i0), .int (nI i1), .ref a2, .ref a3, .ref a4, .ref a5, .ref a6, .ref a7, .ref a8, .int (nI i9), .ref a10, .ref a11, .ref a12, .ref a13, .ref a14, .ref a15, .int (nI i16), .int (nI i17), .ref a18, .int (nI i19), .ref a20, .ref a21, .int (nI i22), .ref a23])), (a21, .inl (cI, 4, .inl (fun j => nI (ab j))))] sz) := by
  refine Met.ofW (cc := b_m_told) (maxL := 2) (ret := (some .int)) (by decide) rfl ?_
  intro p e s m args below meth c s₁ B hml hv0
  obtain ⟨rfl, hP, hK, hD0, hsz⟩ := hv0
  have hts := atoms_spec (ws := cd_m_told :: WS) B.pre
  have hown : s.vm.findClass R_Model = some m.cls := findClass_of_methodNamed B.named
  have hlocks := B.notSynchronized
  subst hsz
  have hD := hD0.self (sz := s.heap.size)
  have hl := lv_entry ([.ref h, .int x]) (n := 2) (Nat.le_of_ble_eq_true rfl)
  rw [lg_entry_eq]
  generalize (lg_sl ([.ref h, .int x]) ++ List.replicate (2 - (lg_sl ([.ref h, .int x])).length) Slot.unset).toArray = ls at hl ⊢
  refine bd_m_told_out cI cC h i0 i1 a2 a3 a4 a5 a6 a7 a8 i9 a10 a11 a12 a13 a14 a15 i16 i17 a18 i19 a20 a21 i22 a23 ab x hi ho ⟨B.exec, B.bytes, hml, hown, hts⟩ (Nat.le_refl _) (Nat.le_refl _) ⟨Nat.le_refl _, Nat.le_refl _⟩ hK (fun q h => Or.inr h) (fun pc ls H locs hd hP hD hS => ?_) ls _ _ hl hP hD (va_S.rf)
  exact W.iret B.exec B.bytes B.returns (fun t ht _ => ⟨⟨_, (), rfl, rfl, (by have h9 := hP; rw [← ht] at h9; exact h9)⟩, hS.F ht⟩) hS.2.2 hd
end
section
theorem d_m_taken_0 : decode b_m_taken 0 = .ok (.aload_n 0, 1) := by decide +kernel
theorem d_m_taken_1 : decode b_m_taken 1 = .ok (.iconst 0, 1) := by decide +kernel
theorem d_m_taken_2 : decode b_m_taken 2 = .ok (.putfield 65, 3) := by decide +kernel
theorem d_m_taken_5 : decode b_m_taken 5 = .ok (.aload_n 0, 1) := by decide +kernel
theorem d_m_taken_6 : decode b_m_taken 6 = .ok (.getfield 186, 3) := by decide +kernel
theorem d_m_taken_9 : decode b_m_taken 9 = .ok (.ifCond .eq 22, 3) := by decide +kernel
theorem d_m_taken_12 : decode b_m_taken 12 = .ok (.iload_n 1, 1) := by decide +kernel
theorem d_m_taken_13 : decode b_m_taken 13 = .ok (.ifCond .lt 18, 3) := by decide +kernel
theorem d_m_taken_16 : decode b_m_taken 16 = .ok (.iload_n 1, 1) := by decide +kernel
theorem d_m_taken_17 : decode b_m_taken 17 = .ok (.bipush 26, 2) := by decide +kernel
theorem d_m_taken_19 : decode b_m_taken 19 = .ok (.if_icmp .ge 12, 3) := by decide +kernel
theorem d_m_taken_22 : decode b_m_taken 22 = .ok (.aload_n 0, 1) := by decide +kernel
theorem d_m_taken_23 : decode b_m_taken 23 = .ok (.getfield 58, 3) := by decide +kernel
theorem d_m_taken_26 : decode b_m_taken 26 = .ok (.iload_n 1, 1) := by decide +kernel
theorem d_m_taken_27 : decode b_m_taken 27 = .ok (.iaload, 1) := by decide +kernel
theorem d_m_taken_28 : decode b_m_taken 28 = .ok (.goto 4, 3) := by decide +kernel
theorem d_m_taken_31 : decode b_m_taken 31 = .ok (.iconst (-1), 1) := by decide +kernel
theorem d_m_taken_32 : decode b_m_taken 32 = .ok (.ireturn, 1) := by decide +kernel
end
section
variable {p : Program} {l : Launch} {e : Env} {R : Room} {s : State} {m : MethodId} {args : Array Value} {below : List Frame} {meth : Method} {c : Code} {cells slots : Nat} {Q : State → Prop} {A : Nat → Prop} {H0 : Heap} {D : va_G}
set_option maxHeartbeats 1000000 in
set_option maxRecDepth 100000 in
theorem bd_m_taken_in (cI cC : ClassId) (h i0 i1 a2 a3 a4 a5 a6 a7 a8 i9 a10 a11 a12 a13 a14 a15 i16 i17 a18 i19 a20 a21 i22 a23 : Nat) (ke : Nat → Nat) (x : Nat) (hx0 : x < 26) (hi : i22 = 1) (S : CallFix p m c b_m_taken 2 s args (cd_m_taken :: WS) R_Model) (hRf : 0 ≤ R.frames) (hRl : 0 ≤ R.locals) (hRc : cells ≤ R.cells ∧ slots ≤ R.slots) (hK : va_K D classes [(cI, .int), (cC, .char)] s) (hA : ∀ q, H0.size ≤ q → A q) (kr : ∀ (pc : Nat) (ls : Array Slot) (H : Heap) (locs : List Loc), decode b_m_taken pc = .ok (.ireturn, 1) → va_P D classes [(h, .inr (8, [.int (nI 0), .int (nI i1), .ref a2, .ref a3, .ref a4, .ref a5, .ref a6, .ref a7, .ref a8, .int (nI i9), .ref a10, .ref a11, .ref a12, .ref a13, .ref a14, .ref a15, .int (nI i16), .int (nI i17), .ref a18, .int (nI i19), .ref a20, .ref a21, .int (nI i22), .ref a23])), (a23, .inl (cI, 26, .inl (fun j => nI (ke j))))] H → va_D A [(h, .inr (8, [.int (nI 0), .int (nI i1), .ref a2, .ref a3, .ref a4, .ref a5, .ref a6, .ref a7, .ref a8, .int (nI i9), .ref a10, .ref a11, .ref a12, .ref a13, .ref a14, .ref a15, .int (nI i16), .int (nI i17), .ref a18, .int (nI i19), .ref a20, .ref a21, .int (nI i22), .ref a23])), (a23, .inl (cI, 26, .inl (fun j => nI (ke j))))] → va_S A H0 H locs → W p l e R s m args below meth c H locs cells slots Q (F0 m pc ls [.int (nI (ke x))])) : ∀ (ls : Array Slot) (H : Heap) (locs : List Loc), lv_has ls 2 [(0, .ref h), (1, .int (nI x))] → va_P D classes [(h, .inr (8, [.int (nI i0), .int (nI i1), .ref a2, .ref a3, .ref a4, .ref a5, .ref a6, .ref a7, .ref a8, .int (nI i9), .ref a10, .ref a11, .ref a12, .ref a13, .ref a14, .ref a15, .int (nI i16), .int (nI i17), .ref a18, .int (nI i19), .ref a20, .ref a21, .int (nI i22), .ref a23])), (a23, .inl (cI, 26, .inl (fun j => nI (ke j))))] H → va_D A [(h, .inr (8, [.int (nI i0), .int (nI i1), .ref a2, .ref a3, .ref a4, .ref a5, .ref a6, .ref a7, .ref a8, .int (nI i9), .ref a10, .ref a11, .ref a12, .ref a13, .ref a14, .ref a15, .int (nI i16), .int (nI i17), .ref a18, .int (nI i19), .ref a20, .ref a21, .int (nI i22), .ref a23])), (a23, .inl (cI, 26, .inl (fun j => nI (ke j))))] → va_S A H0 H locs → W p l e R s m args below meth c H locs cells slots Q (F0 m 0 ls []) := by
  obtain ⟨hx, hb, hml, hown, hts⟩ := id S
  intro ls H locs hl hP hD hS
  refine lv_aload_n hx hb d_m_taken_0 rfl (lv_at hl 0 rfl) ?_
  refine lv_iconst (v := nI 0) hx hb d_m_taken_1 (by decide) ?_
  refine n_put (C := R_Model) (T := F_Model) (N := 24) (v := .int (nI 0)) hx hb hts u_Model_in t_Model t_Model_ok n_Model hown hK hP hD hS 0 rfl rfl 0 (by decide) kw_776 rfl rfl rfl (Nat.le_of_ble_eq_true rfl) d_m_taken_2 (fun H locs hP hD hS => ?_)
  have hP : va_P D classes [(h, .inr (8, [.int (nI 0), .int (nI i1), .ref a2, .ref a3, .ref a4, .ref a5, .ref a6, .ref a7, .ref a8, .int (nI i9), .ref a10, .ref a11, .ref a12, .ref a13, .ref a14, .ref a15, .int (nI i16), .int (nI i17), .ref a18, .int (nI i19), .ref a20, .ref a21, .int (nI i22), .ref a23])), (a23, .inl (cI, 26, .inl (fun j => nI (ke j))))] H := hP
  have hD : va_D A [(h, .inr (8, [.int (nI 0), .int (nI i1), .ref a2, .ref a3, .ref a4, .ref a5, .ref a6, .ref a7, .ref a8, .int (nI i9), .ref a10, .ref a11, .ref a12, .ref a13, .ref a14, .ref a15, .int (nI i16), .int (nI i17), .ref a18, .int (nI i19), .ref a20, .ref a21, .int (nI i22), .ref a23])), (a23, .inl (cI, 26, .inl (fun j => nI (ke j))))] := hD
  refine lv_aload_n hx hb d_m_taken_5 rfl (lv_at hl 0 rfl) ?_
  refine n_get (C := R_Model) (T := F_Model) (N := 24) (v := .int (nI i22)) hx hb hts u_Model_in hown hK hP 0 rfl rfl 22 (by decide) kw_798 rfl d_m_taken_6 ?_
  refine n_if_eq hx hb d_m_taken_9 (tgt := 31) rfl (by omega) (fun g9 => absurd g9 (by omega)) (fun g9 => ?_)
  refine lv_iload_n hx hb d_m_taken_12 rfl (lv_at hl 1 rfl) ?_
  refine n_if_lt hx hb d_m_taken_13 (tgt := 31) rfl (by omega) ?_
  refine lv_iload_n hx hb d_m_taken_16 rfl (lv_at hl 1 rfl) ?_
  refine lv_bipush (v := nI 26) hx hb d_m_taken_17 (by decide) ?_
  refine n_icmp_ge hx hb d_m_taken_19 (tgt := 31) rfl (by omega) (by omega) (fun g19 => absurd g19 (by omega)) (fun g19 => ?_)
  refine lv_aload_n hx hb d_m_taken_22 rfl (lv_at hl 0 rfl) ?_
  refine n_get (C := R_Model) (T := F_Model) (N := 24) (v := .ref a23) hx hb hts u_Model_in hown hK hP 0 rfl rfl 23 (by decide) kw_799 rfl d_m_taken_23 ?_
  refine lv_iload_n hx hb d_m_taken_26 rfl (lv_at hl 1 rfl) ?_
  refine n_iald hx hb hK hP 1 0 rfl rfl (by omega) (by decide) d_m_taken_27 ?_
  refine lv_goto hx hb d_m_taken_28 (tgt := 32) rfl ?_
  exact kr _ ls H locs d_m_taken_32 hP hD hS
set_option maxHeartbeats 1000000 in
set_option maxRecDepth 100000 in
theorem c_m_taken_in (l : Launch) (D : va_G) (cI cC : ClassId) (h i0 i1 a2 a3 a4 a5 a6 a7 a8 i9 a10 a11 a12 a13 a14 a15 i16 i17 a18 i19 a20 a21 i22 a23 : Nat) (ke : Nat → Nat) (x : Nat) (hx0 : x < 26) (hi : i22 = 1) (sz : Nat) : Met l y_m_taken (cd_m_taken :: WS) { frames := 0, cells := 0, slots := 0, locals := 0 } (va_Pc [.ref h, .int (nI x)] (wP D [(h, .inr (8, [.int (nI i0), .int (nI i1), .ref a2, .ref a3, .ref a4, .ref a5, .ref a6, .ref a7, .ref a8, .int (nI i9), .ref a10, .ref a11, .ref a12, .ref a13, .ref a14, .ref a15, .int (nI i16), .int (nI i17), .ref a18, .int (nI i19), .ref a20, .ref a21, .int (nI i22), .ref a23])), (a23, .inl (cI, 26, .inl (fun j => nI (ke j))))] [(cI, .int), (cC, .char)] sz)) (wQi D (nI (ke x)) [(h, .inr (8, [.int (nI i0), .int (nI i1), .ref a2, .ref a3, .ref a4, .ref a5, .ref a6, .ref a7, .ref a8, .int (nI i9), .ref a10, .ref a11, .ref a12, .ref a13, .ref a14, .ref a15, .int (nI i16), .int (nI i17), .ref a18, .int (nI i19), .ref a20, .ref a21, .int (nI i22), .ref a23])), (a23, .inl (cI, 26, .inl (fun j => nI (ke j))))] [(h, .inr (8, [.int (nI 0), .int (nI i1), .ref a2, .ref a3, .ref a4, .ref a5, .ref a6, .ref a7, .ref a8, .int (nI i9), .ref a10, .ref a11, .ref a12, .ref a13, .ref a14, .ref a15, .int (nI i16), .int (nI i17), .ref a18, .int (nI i19), .ref a20, .ref a21, .int (nI i22), .ref a23])), (a23, .inl (cI, 26, .inl (fun j => nI (ke j))))] sz) 0 0 (va_A [(h, .inr (8, [.int (nI i0), .int (nI i1), .ref a2, .ref a3, .ref a4, .ref a5, .ref a6, .ref a7, .ref a8, .int (nI i9), .ref a10, .ref a11, .ref a12, .ref a13, .ref a14, .ref a15, .int (nI i16), .int (nI i17), .ref a18, .int (nI i19), .ref a20, .ref a21, .int (nI i22), .ref a23])), (a23, .inl (cI, 26, .inl (fun j => nI (ke j))))] sz) := by
  refine Met.ofW (cc := b_m_taken) (maxL := 2) (ret := (some .int)) (by decide) rfl ?_
  intro p e s m args below meth c s₁ B hml hv0
  obtain ⟨rfl, hP, hK, hD0, hsz⟩ := hv0
  have hts := atoms_spec (ws := cd_m_taken :: WS) B.pre
  have hown : s.vm.findClass R_Model = some m.cls := findClass_of_methodNamed B.named
  have hlocks := B.notSynchronized
  subst hsz
  have hD := hD0.self (sz := s.heap.size)
  have hl := lv_entry ([.ref h, .int (nI x)]) (n := 2) (Nat.le_of_ble_eq_true rfl)
  rw [lg_entry_eq]
  generalize (lg_sl ([.ref h, .int (nI x)]) ++ List.replicate (2 - (lg_sl ([.ref h, .int (nI x)])).length) Slot.unset).toArray = ls at hl ⊢
  refine bd_m_taken_in cI cC h i0 i1 a2 a3 a4 a5 a6 a7 a8 i9 a10 a11 a12 a13 a14 a15 i16 i17 a18 i19 a20 a21 i22 a23 ke x hx0 hi ⟨B.exec, B.bytes, hml, hown, hts⟩ (Nat.le_refl _) (Nat.le_refl _) ⟨Nat.le_refl _, Nat.le_refl _⟩ hK (fun q h => Or.inr h) (fun pc ls H locs hd hP hD hS => ?_) ls _ _ hl hP hD (va_S.rf)
  exact W.iret B.exec B.bytes B.returns (fun t ht _ => ⟨⟨_, (), rfl, rfl, (by have h9 := hP; rw [← ht] at h9; exact h9)⟩, hS.F ht⟩) hS.2.2 hd
end
section
variable {p : Program} {l : Launch} {e : Env} {R : Room} {s : State} {m : MethodId} {args : Array Value} {below : List Frame} {meth : Method} {c : Code} {cells slots : Nat} {Q : State → Prop} {A : Nat → Prop} {H0 : Heap} {D : va_G}
set_option maxHeartbeats 1000000 in
set_option maxRecDepth 100000 in
theorem bd_m_taken_out (cI cC : ClassId) (h i0 i1 a2 a3 a4 a5 a6 a7 a8 i9 a10 a11 a12 a13 a14 a15 i16 i17 a18 i19 a20 a21 i22 a23 : Nat) (ke : Nat → Nat) (x : Int32) (hi : i22 ≤ 1) (ho : i22 = 0 ∨ x < 0 ∨ nI 26 ≤ x) (S : CallFix p m c b_m_taken 2 s args (cd_m_taken :: WS) R_Model) (hRf : 0 ≤ R.frames) (hRl : 0 ≤ R.locals) (hRc : cells ≤ R.cells ∧ slots ≤ R.slots) (hK : va_K D classes [(cI, .int), (cC, .char)] s) (hA : ∀ q, H0.size ≤ q → A q) (kr : ∀ (pc : Nat) (ls : Array Slot) (H : Heap) (locs : List Loc), decode b_m_taken pc = .ok (.ireturn, 1) → va_P D classes [(h, .inr (8, [.int (nI 0), .int (nI i1), .ref a2, .ref a3, .ref a4, .ref a5, .ref a6, .ref a7, .ref a8, .int (nI i9), .ref a10, .ref a11, .ref a12, .ref a13, .ref a14, .ref a15, .int (nI i16), .int (nI i17), .ref a18, .int (nI i19), .ref a20, .ref a21, .int (nI i22), .ref a23])), (a23, .inl (cI, 26, .inl (fun j => nI (ke j))))] H → va_D A [(h, .inr (8, [.int (nI 0), .int (nI i1), .ref a2, .ref a3, .ref a4, .ref a5, .ref a6, .ref a7, .ref a8, .int (nI i9), .ref a10, .ref a11, .ref a12, .ref a13, .ref a14, .ref a15, .int (nI i16), .int (nI i17), .ref a18, .int (nI i19), .ref a20, .ref a21, .int (nI i22), .ref a23])), (a23, .inl (cI, 26, .inl (fun j => nI (ke j))))] → va_S A H0 H locs → W p l e R s m args below meth c H locs cells slots Q (F0 m pc ls [.int (-1)])) : ∀ (ls : Array Slot) (H : Heap) (locs : List Loc), lv_has ls 2 [(0, .ref h), (1, .int x)] → va_P D classes [(h, .inr (8, [.int (nI i0), .int (nI i1), .ref a2, .ref a3, .ref a4, .ref a5, .ref a6, .ref a7, .ref a8, .int (nI i9), .ref a10, .ref a11, .ref a12, .ref a13, .ref a14, .ref a15, .int (nI i16), .int (nI i17), .ref a18, .int (nI i19), .ref a20, .ref a21, .int (nI i22), .ref a23])), (a23, .inl (cI, 26, .inl (fun j => nI (ke j))))] H → va_D A [(h, .inr (8, [.int (nI i0), .int (nI i1), .ref a2, .ref a3, .ref a4, .ref a5, .ref a6, .ref a7, .ref a8, .int (nI i9), .ref a10, .ref a11, .ref a12, .ref a13, .ref a14, .ref a15, .int (nI i16), .int (nI i17), .ref a18, .int (nI i19), .ref a20, .ref a21, .int (nI i22), .ref a23])), (a23, .inl (cI, 26, .inl (fun j => nI (ke j))))] → va_S A H0 H locs → W p l e R s m args below meth c H locs cells slots Q (F0 m 0 ls []) := by
  obtain ⟨hx, hb, hml, hown, hts⟩ := id S
  intro ls H locs hl hP hD hS
  refine lv_aload_n hx hb d_m_taken_0 rfl (lv_at hl 0 rfl) ?_
  refine lv_iconst (v := nI 0) hx hb d_m_taken_1 (by decide) ?_
  refine n_put (C := R_Model) (T := F_Model) (N := 24) (v := .int (nI 0)) hx hb hts u_Model_in t_Model t_Model_ok n_Model hown hK hP hD hS 0 rfl rfl 0 (by decide) kw_776 rfl rfl rfl (Nat.le_of_ble_eq_true rfl) d_m_taken_2 (fun H locs hP hD hS => ?_)
  have hP : va_P D classes [(h, .inr (8, [.int (nI 0), .int (nI i1), .ref a2, .ref a3, .ref a4, .ref a5, .ref a6, .ref a7, .ref a8, .int (nI i9), .ref a10, .ref a11, .ref a12, .ref a13, .ref a14, .ref a15, .int (nI i16), .int (nI i17), .ref a18, .int (nI i19), .ref a20, .ref a21, .int (nI i22), .ref a23])), (a23, .inl (cI, 26, .inl (fun j => nI (ke j))))] H := hP
  have hD : va_D A [(h, .inr (8, [.int (nI 0), .int (nI i1), .ref a2, .ref a3, .ref a4, .ref a5, .ref a6, .ref a7, .ref a8, .int (nI i9), .ref a10, .ref a11, .ref a12, .ref a13, .ref a14, .ref a15, .int (nI i16), .int (nI i17), .ref a18, .int (nI i19), .ref a20, .ref a21, .int (nI i22), .ref a23])), (a23, .inl (cI, 26, .inl (fun j => nI (ke j))))] := hD
  refine lv_aload_n hx hb d_m_taken_5 rfl (lv_at hl 0 rfl) ?_
  refine n_get (C := R_Model) (T := F_Model) (N := 24) (v := .int (nI i22)) hx hb hts u_Model_in hown hK hP 0 rfl rfl 22 (by decide) kw_798 rfl d_m_taken_6 ?_
  refine n_if_eq hx hb d_m_taken_9 (tgt := 31) rfl (by omega) (fun g9 => ?_) (fun g9 => ?_)
  · skip
    refine lv_iconst (v := (-1)) hx hb d_m_taken_31 (by decide) ?_
    exact kr _ ls H locs d_m_taken_32 hP hD hS
  · skip
    refine lv_iload_n hx hb d_m_taken_12 rfl (lv_at hl 1 rfl) ?_
    refine lv_if_lt hx hb d_m_taken_13 (tgt := 31) rfl (fun g13 => ?_) (fun g13 => ?_)
    · skip
      refine lv_iconst (v := (-1)) hx hb d_m_taken_31 (by decide) ?_
      exact kr _ ls H locs d_m_taken_32 hP hD hS
    · skip
      refine lv_iload_n hx hb d_m_taken_16 rfl (lv_at hl 1 rfl) ?_
      refine lv_bipush (v := nI 26) hx hb d_m_taken_17 (by decide) ?_
      refine lv_icmp_ge hx hb d_m_taken_19 (tgt := 31) rfl (fun g19 => ?_) (fun g19 => absurd ((ho.resolve_left g9).resolve_left g13) g19)
      refine lv_iconst (v := (-1)) hx hb d_m_taken_31 (by decide) ?_
      exact kr _ ls H locs d_m_taken_32 hP hD hS
set_option maxHeartbeats 1000000 in
set_option maxRecDepth 100000 in
theorem c_m_taken_out (l : Launch) (D : va_G) (cI cC : ClassId) (h i0 i1 a2 a3 a4 a5 a6 a7 a8 i9 a10 a11 a12 a13 a14 a15 i16 i17 a18 i19 a20 a21 i22 a23 : Nat) (ke : Nat → Nat) (x : Int32) (hi : i22 ≤ 1) (ho : i22 = 0 ∨ x < 0 ∨ nI 26 ≤ x) (sz : Nat) : Met l y_m_taken (cd_m_taken :: WS) { frames := 0, cells := 0, slots := 0, locals := 0 } (va_Pc [.ref h, .int x] (wP D [(h, .inr (8, [.int (nI i0), .int (nI i1), .ref a2, .ref a3, .ref a4, .ref a5, .ref a6, .ref a7, .ref a8, .int (nI i9), .ref a10, .ref a11, .ref a12, .ref a13, .ref a14, .ref a15, .int (nI i16), .int (nI i17), .ref a18, .int (nI i19), .ref a20, .ref a21, .int (nI i22), .ref a23])), (a23, .inl (cI, 26, .inl (fun j => nI (ke j))))] [(cI, .int), (cC, .char)] sz)) (wQi D (-1) [(h, .inr (8, [.int (nI i0), .int (nI i1), .ref a2, .ref a3, .ref a4, .ref a5, .ref a6, .ref a7, .ref a8, .int (nI i9), .ref a10, .ref a11, .ref a12, .ref a13, .ref a14, .ref a15, .int (nI i16), .int (nI i17), .ref a18, .int (nI i19), .ref a20, .ref a21, .int (nI i22), .ref a23])), (a23, .inl (cI, 26, .inl (fun j => nI (ke j))))] [(h, .inr (8, [.int (nI 0), .int (nI i1), .ref a2, .ref a3, .ref a4, .ref a5, .ref a6, .ref a7, .ref a8, .int (nI i9), .ref a10, .ref a11, .ref a12, .ref a13, .ref a14, .ref a15, .int (nI i16), .int (nI i17), .ref a18, .int (nI i19), .ref a20, .ref a21, .int (nI i22), .ref a23])), (a23, .inl (cI, 26, .inl (fun j => nI (ke j))))] sz) 0 0 (va_A [(h, .inr (8, [.int (nI i0), .int (nI i1), .ref a2, .ref a3, .ref a4, .ref a5, .ref a6, .ref a7, .ref a8, .int (nI i9), .ref a10, .ref a11, .ref a12, .ref a13, .ref a14, .ref a15, .int (nI i16), .int (nI i17), .ref a18, .int (nI i19), .ref a20, .ref a21, .int (nI i22), .ref a23])), (a23, .inl (cI, 26, .inl (fun j => nI (ke j))))] sz) := by
  refine Met.ofW (cc := b_m_taken) (maxL := 2) (ret := (some .int)) (by decide) rfl ?_
  intro p e s m args below meth c s₁ B hml hv0
  obtain ⟨rfl, hP, hK, hD0, hsz⟩ := hv0
  have hts := atoms_spec (ws := cd_m_taken :: WS) B.pre
  have hown : s.vm.findClass R_Model = some m.cls := findClass_of_methodNamed B.named
  have hlocks := B.notSynchronized
  subst hsz
  have hD := hD0.self (sz := s.heap.size)
  have hl := lv_entry ([.ref h, .int x]) (n := 2) (Nat.le_of_ble_eq_true rfl)
  rw [lg_entry_eq]
  generalize (lg_sl ([.ref h, .int x]) ++ List.replicate (2 - (lg_sl ([.ref h, .int x])).length) Slot.unset).toArray = ls at hl ⊢
  refine bd_m_taken_out cI cC h i0 i1 a2 a3 a4 a5 a6 a7 a8 i9 a10 a11 a12 a13 a14 a15 i16 i17 a18 i19 a20 a21 i22 a23 ke x hi ho ⟨B.exec, B.bytes, hml, hown, hts⟩ (Nat.le_refl _) (Nat.le_refl _) ⟨Nat.le_refl _, Nat.le_refl _⟩ hK (fun q h => Or.inr h) (fun pc ls H locs hd hP hD hS => ?_) ls _ _ hl hP hD (va_S.rf)
  exact W.iret B.exec B.bytes B.returns (fun t ht _ => ⟨⟨_, (), rfl, rfl, (by have h9 := hP; rw [← ht] at h9; exact h9)⟩, hS.F ht⟩) hS.2.2 hd
end
