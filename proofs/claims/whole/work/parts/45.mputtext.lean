theorem kw_879 : (Jvm.Cond.methodLink "SquareCodesModel" (86 : Nat) ({ cls := "SquareCodesModel", name := "put", desc := "(II)V" } : Jvm.MethodName)) ∈ WS := WS_tbl 879 (by decide +kernel) rfl
theorem kw_881 : (Jvm.Cond.instanceMethod ({ cls := "SquareCodesModel", name := "put", desc := "(II)V" } : Jvm.MethodName)) ∈ WS := WS_tbl 881 (by decide +kernel) rfl
theorem ks_23 : Cond.selects R_Model y_m_put y_m_put ∈ WS := WS_sel 23 (by decide +kernel) rfl
set_option maxRecDepth 1000000 in
theorem kw_882 : cd_m_put ∈ WS := WS_tbl 882 rfl rfl
section
theorem d_m_putText_0 : decode b_m_putText 0 = .ok (.aload_n 0, 1) := by decide +kernel
theorem d_m_putText_1 : decode b_m_putText 1 = .ok (.iconst 0, 1) := by decide +kernel
theorem d_m_putText_2 : decode b_m_putText 2 = .ok (.putfield 83, 3) := by decide +kernel
theorem d_m_putText_5 : decode b_m_putText 5 = .ok (.aload_n 0, 1) := by decide +kernel
theorem d_m_putText_6 : decode b_m_putText 6 = .ok (.iload_n 1, 1) := by decide +kernel
theorem d_m_putText_7 : decode b_m_putText 7 = .ok (.iconst 4, 1) := by decide +kernel
theorem d_m_putText_8 : decode b_m_putText 8 = .ok (.invokevirtual 86, 3) := by decide +kernel
theorem d_m_putText_11 : decode b_m_putText 11 = .ok (.aload_n 0, 1) := by decide +kernel
theorem d_m_putText_12 : decode b_m_putText 12 = .ok (.aload_n 0, 1) := by decide +kernel
theorem d_m_putText_13 : decode b_m_putText 13 = .ok (.getfield 76, 3) := by decide +kernel
theorem d_m_putText_16 : decode b_m_putText 16 = .ok (.iload_n 1, 1) := by decide +kernel
theorem d_m_putText_17 : decode b_m_putText 17 = .ok (.iconst 1, 1) := by decide +kernel
theorem d_m_putText_18 : decode b_m_putText 18 = .ok (.if_icmp .ne 8, 3) := by decide +kernel
theorem d_m_putText_21 : decode b_m_putText 21 = .ok (.bipush 10, 2) := by decide +kernel
theorem d_m_putText_23 : decode b_m_putText 23 = .ok (.goto 15, 3) := by decide +kernel
theorem d_m_putText_26 : decode b_m_putText 26 = .ok (.iload_n 1, 1) := by decide +kernel
theorem d_m_putText_27 : decode b_m_putText 27 = .ok (.iconst 2, 1) := by decide +kernel
theorem d_m_putText_28 : decode b_m_putText 28 = .ok (.if_icmp .ne 8, 3) := by decide +kernel
theorem d_m_putText_31 : decode b_m_putText 31 = .ok (.bipush 9, 2) := by decide +kernel
theorem d_m_putText_33 : decode b_m_putText 33 = .ok (.goto 5, 3) := by decide +kernel
theorem d_m_putText_36 : decode b_m_putText 36 = .ok (.bipush 8, 2) := by decide +kernel
theorem d_m_putText_38 : decode b_m_putText 38 = .ok (.invokevirtual 86, 3) := by decide +kernel
theorem d_m_putText_41 : decode b_m_putText 41 = .ok (.iconst 0, 1) := by decide +kernel
theorem d_m_putText_42 : decode b_m_putText 42 = .ok (.istore_n 2, 1) := by decide +kernel
theorem d_m_putText_43 : decode b_m_putText 43 = .ok (.iload_n 2, 1) := by decide +kernel
theorem d_m_putText_44 : decode b_m_putText 44 = .ok (.aload_n 0, 1) := by decide +kernel
theorem d_m_putText_45 : decode b_m_putText 45 = .ok (.getfield 76, 3) := by decide +kernel
theorem d_m_putText_48 : decode b_m_putText 48 = .ok (.if_icmp .ge 201, 3) := by decide +kernel
theorem d_m_putText_51 : decode b_m_putText 51 = .ok (.iload_n 1, 1) := by decide +kernel
theorem d_m_putText_52 : decode b_m_putText 52 = .ok (.iconst 4, 1) := by decide +kernel
theorem d_m_putText_53 : decode b_m_putText 53 = .ok (.if_icmp .ne 21, 3) := by decide +kernel
theorem d_m_putText_56 : decode b_m_putText 56 = .ok (.aload_n 0, 1) := by decide +kernel
theorem d_m_putText_57 : decode b_m_putText 57 = .ok (.aload_n 0, 1) := by decide +kernel
theorem d_m_putText_58 : decode b_m_putText 58 = .ok (.getfield 7, 3) := by decide +kernel
theorem d_m_putText_61 : decode b_m_putText 61 = .ok (.iload_n 2, 1) := by decide +kernel
theorem d_m_putText_62 : decode b_m_putText 62 = .ok (.iaload, 1) := by decide +kernel
theorem d_m_putText_63 : decode b_m_putText 63 = .ok (.bipush 8, 2) := by decide +kernel
theorem d_m_putText_65 : decode b_m_putText 65 = .ok (.invokevirtual 86, 3) := by decide +kernel
theorem d_m_putText_68 : decode b_m_putText 68 = .ok (.iinc 2 1, 3) := by decide +kernel
theorem d_m_putText_71 : decode b_m_putText 71 = .ok (.goto (-28), 3) := by decide +kernel
theorem d_m_putText_74 : decode b_m_putText 74 = .ok (.iload_n 1, 1) := by decide +kernel
theorem d_m_putText_75 : decode b_m_putText 75 = .ok (.iconst 2, 1) := by decide +kernel
theorem d_m_putText_76 : decode b_m_putText 76 = .ok (.if_icmp .ne 80, 3) := by decide +kernel
theorem d_m_putText_79 : decode b_m_putText 79 = .ok (.iload_n 2, 1) := by decide +kernel
theorem d_m_putText_80 : decode b_m_putText 80 = .ok (.iconst 1, 1) := by decide +kernel
theorem d_m_putText_81 : decode b_m_putText 81 = .ok (.iadd, 1) := by decide +kernel
theorem d_m_putText_82 : decode b_m_putText 82 = .ok (.aload_n 0, 1) := by decide +kernel
theorem d_m_putText_83 : decode b_m_putText 83 = .ok (.getfield 76, 3) := by decide +kernel
theorem d_m_putText_86 : decode b_m_putText 86 = .ok (.if_icmp .ge 7, 3) := by decide +kernel
theorem d_m_putText_89 : decode b_m_putText 89 = .ok (.iconst 1, 1) := by decide +kernel
theorem d_m_putText_90 : decode b_m_putText 90 = .ok (.goto 4, 3) := by decide +kernel
theorem d_m_putText_93 : decode b_m_putText 93 = .ok (.iconst 0, 1) := by decide +kernel
theorem d_m_putText_94 : decode b_m_putText 94 = .ok (.istore_n 3, 1) := by decide +kernel
theorem d_m_putText_95 : decode b_m_putText 95 = .ok (.aload_n 0, 1) := by decide +kernel
theorem d_m_putText_96 : decode b_m_putText 96 = .ok (.iload_n 3, 1) := by decide +kernel
theorem d_m_putText_97 : decode b_m_putText 97 = .ok (.ifCond .eq 30, 3) := by decide +kernel
theorem d_m_putText_100 : decode b_m_putText 100 = .ok (.bipush 45, 2) := by decide +kernel
theorem d_m_putText_102 : decode b_m_putText 102 = .ok (.aload_n 0, 1) := by decide +kernel
theorem d_m_putText_103 : decode b_m_putText 103 = .ok (.getfield 7, 3) := by decide +kernel
theorem d_m_putText_106 : decode b_m_putText 106 = .ok (.iload_n 2, 1) := by decide +kernel
theorem d_m_putText_107 : decode b_m_putText 107 = .ok (.iaload, 1) := by decide +kernel
theorem d_m_putText_108 : decode b_m_putText 108 = .ok (.invokestatic 79, 3) := by decide +kernel
theorem d_m_putText_111 : decode b_m_putText 111 = .ok (.imul, 1) := by decide +kernel
theorem d_m_putText_112 : decode b_m_putText 112 = .ok (.aload_n 0, 1) := by decide +kernel
theorem d_m_putText_113 : decode b_m_putText 113 = .ok (.getfield 7, 3) := by decide +kernel
theorem d_m_putText_116 : decode b_m_putText 116 = .ok (.iload_n 2, 1) := by decide +kernel
theorem d_m_putText_117 : decode b_m_putText 117 = .ok (.iconst 1, 1) := by decide +kernel
theorem d_m_putText_118 : decode b_m_putText 118 = .ok (.iadd, 1) := by decide +kernel
theorem d_m_putText_119 : decode b_m_putText 119 = .ok (.iaload, 1) := by decide +kernel
theorem d_m_putText_120 : decode b_m_putText 120 = .ok (.invokestatic 79, 3) := by decide +kernel
theorem d_m_putText_123 : decode b_m_putText 123 = .ok (.iadd, 1) := by decide +kernel
theorem d_m_putText_124 : decode b_m_putText 124 = .ok (.goto 12, 3) := by decide +kernel
theorem d_m_putText_127 : decode b_m_putText 127 = .ok (.aload_n 0, 1) := by decide +kernel
theorem d_m_putText_128 : decode b_m_putText 128 = .ok (.getfield 7, 3) := by decide +kernel
theorem d_m_putText_131 : decode b_m_putText 131 = .ok (.iload_n 2, 1) := by decide +kernel
theorem d_m_putText_132 : decode b_m_putText 132 = .ok (.iaload, 1) := by decide +kernel
theorem d_m_putText_133 : decode b_m_putText 133 = .ok (.invokestatic 79, 3) := by decide +kernel
theorem d_m_putText_136 : decode b_m_putText 136 = .ok (.iload_n 3, 1) := by decide +kernel
theorem d_m_putText_137 : decode b_m_putText 137 = .ok (.ifCond .eq 8, 3) := by decide +kernel
theorem d_m_putText_140 : decode b_m_putText 140 = .ok (.bipush 11, 2) := by decide +kernel
theorem d_m_putText_142 : decode b_m_putText 142 = .ok (.goto 5, 3) := by decide +kernel
theorem d_m_putText_145 : decode b_m_putText 145 = .ok (.bipush 6, 2) := by decide +kernel
theorem d_m_putText_147 : decode b_m_putText 147 = .ok (.invokevirtual 86, 3) := by decide +kernel
theorem d_m_putText_150 : decode b_m_putText 150 = .ok (.iinc 2 2, 3) := by decide +kernel
theorem d_m_putText_153 : decode b_m_putText 153 = .ok (.goto (-110), 3) := by decide +kernel
theorem d_m_putText_156 : decode b_m_putText 156 = .ok (.aload_n 0, 1) := by decide +kernel
theorem d_m_putText_157 : decode b_m_putText 157 = .ok (.getfield 76, 3) := by decide +kernel
theorem d_m_putText_160 : decode b_m_putText 160 = .ok (.iload_n 2, 1) := by decide +kernel
theorem d_m_putText_161 : decode b_m_putText 161 = .ok (.isub, 1) := by decide +kernel
theorem d_m_putText_162 : decode b_m_putText 162 = .ok (.iconst 3, 1) := by decide +kernel
theorem d_m_putText_163 : decode b_m_putText 163 = .ok (.if_icmp .ge 12, 3) := by decide +kernel
theorem d_m_putText_166 : decode b_m_putText 166 = .ok (.aload_n 0, 1) := by decide +kernel
theorem d_m_putText_167 : decode b_m_putText 167 = .ok (.getfield 76, 3) := by decide +kernel
theorem d_m_putText_170 : decode b_m_putText 170 = .ok (.iload_n 2, 1) := by decide +kernel
theorem d_m_putText_171 : decode b_m_putText 171 = .ok (.isub, 1) := by decide +kernel
theorem d_m_putText_172 : decode b_m_putText 172 = .ok (.goto 4, 3) := by decide +kernel
theorem d_m_putText_175 : decode b_m_putText 175 = .ok (.iconst 3, 1) := by decide +kernel
theorem d_m_putText_176 : decode b_m_putText 176 = .ok (.istore_n 3, 1) := by decide +kernel
theorem d_m_putText_177 : decode b_m_putText 177 = .ok (.iconst 0, 1) := by decide +kernel
theorem d_m_putText_178 : decode b_m_putText 178 = .ok (.istore 4, 2) := by decide +kernel
theorem d_m_putText_180 : decode b_m_putText 180 = .ok (.iconst 0, 1) := by decide +kernel
theorem d_m_putText_181 : decode b_m_putText 181 = .ok (.istore 5, 2) := by decide +kernel
theorem d_m_putText_183 : decode b_m_putText 183 = .ok (.iload 5, 2) := by decide +kernel
theorem d_m_putText_185 : decode b_m_putText 185 = .ok (.iload_n 3, 1) := by decide +kernel
theorem d_m_putText_186 : decode b_m_putText 186 = .ok (.if_icmp .ge 29, 3) := by decide +kernel
theorem d_m_putText_189 : decode b_m_putText 189 = .ok (.bipush 10, 2) := by decide +kernel
theorem d_m_putText_191 : decode b_m_putText 191 = .ok (.iload 4, 2) := by decide +kernel
theorem d_m_putText_193 : decode b_m_putText 193 = .ok (.imul, 1) := by decide +kernel
theorem d_m_putText_194 : decode b_m_putText 194 = .ok (.aload_n 0, 1) := by decide +kernel
theorem d_m_putText_195 : decode b_m_putText 195 = .ok (.getfield 7, 3) := by decide +kernel
theorem d_m_putText_198 : decode b_m_putText 198 = .ok (.iload_n 2, 1) := by decide +kernel
theorem d_m_putText_199 : decode b_m_putText 199 = .ok (.iload 5, 2) := by decide +kernel
theorem d_m_putText_201 : decode b_m_putText 201 = .ok (.iadd, 1) := by decide +kernel
theorem d_m_putText_202 : decode b_m_putText 202 = .ok (.iaload, 1) := by decide +kernel
theorem d_m_putText_203 : decode b_m_putText 203 = .ok (.iadd, 1) := by decide +kernel
theorem d_m_putText_204 : decode b_m_putText 204 = .ok (.bipush 48, 2) := by decide +kernel
theorem d_m_putText_206 : decode b_m_putText 206 = .ok (.isub, 1) := by decide +kernel
theorem d_m_putText_207 : decode b_m_putText 207 = .ok (.istore 4, 2) := by decide +kernel
theorem d_m_putText_209 : decode b_m_putText 209 = .ok (.iinc 5 1, 3) := by decide +kernel
theorem d_m_putText_212 : decode b_m_putText 212 = .ok (.goto (-29), 3) := by decide +kernel
theorem d_m_putText_215 : decode b_m_putText 215 = .ok (.aload_n 0, 1) := by decide +kernel
theorem d_m_putText_216 : decode b_m_putText 216 = .ok (.iload 4, 2) := by decide +kernel
theorem d_m_putText_218 : decode b_m_putText 218 = .ok (.iload_n 3, 1) := by decide +kernel
theorem d_m_putText_219 : decode b_m_putText 219 = .ok (.iconst 3, 1) := by decide +kernel
theorem d_m_putText_220 : decode b_m_putText 220 = .ok (.if_icmp .ne 8, 3) := by decide +kernel
theorem d_m_putText_223 : decode b_m_putText 223 = .ok (.bipush 10, 2) := by decide +kernel
theorem d_m_putText_225 : decode b_m_putText 225 = .ok (.goto 14, 3) := by decide +kernel
theorem d_m_putText_228 : decode b_m_putText 228 = .ok (.iload_n 3, 1) := by decide +kernel
theorem d_m_putText_229 : decode b_m_putText 229 = .ok (.iconst 2, 1) := by decide +kernel
theorem d_m_putText_230 : decode b_m_putText 230 = .ok (.if_icmp .ne 8, 3) := by decide +kernel
theorem d_m_putText_233 : decode b_m_putText 233 = .ok (.bipush 7, 2) := by decide +kernel
theorem d_m_putText_235 : decode b_m_putText 235 = .ok (.goto 4, 3) := by decide +kernel
theorem d_m_putText_238 : decode b_m_putText 238 = .ok (.iconst 4, 1) := by decide +kernel
theorem d_m_putText_239 : decode b_m_putText 239 = .ok (.invokevirtual 86, 3) := by decide +kernel
theorem d_m_putText_242 : decode b_m_putText 242 = .ok (.iload_n 2, 1) := by decide +kernel
theorem d_m_putText_243 : decode b_m_putText 243 = .ok (.iload_n 3, 1) := by decide +kernel
theorem d_m_putText_244 : decode b_m_putText 244 = .ok (.iadd, 1) := by decide +kernel
theorem d_m_putText_245 : decode b_m_putText 245 = .ok (.istore_n 2, 1) := by decide +kernel
theorem d_m_putText_246 : decode b_m_putText 246 = .ok (.goto (-203), 3) := by decide +kernel
theorem d_m_putText_249 : decode b_m_putText 249 = .ok (.return_, 1) := by decide +kernel
end
section
variable {p : Program} {l : Launch} {e : Env} {R : Room} {s : State} {m : MethodId} {args : Array Value} {below : List Frame} {meth : Method} {c : Code} {cells slots : Nat} {Q : State → Prop} {A : Nat → Prop} {H0 : Heap} {D : va_G}
set_option maxHeartbeats 1000000 in
set_option maxRecDepth 100000 in
theorem lw_m_putText_4_43 (cI cC : ClassId) (h i0 i1 a2 a3 a4 a5 a6 a7 a8 i9 a10 a11 a12 a13 a14 a15 i16 i17 a18 i19 a20 a21 i22 a23 : Nat) (tx bi : Nat → Nat) (hi1 : i1 ≤ 45) (htx : ∀ j, j < 45 → tx j < 65536) (S : CallFix p m c b_m_putText 6 s args (cd_m_putText :: WS) R_Model) (hRf : 1 ≤ R.frames) (hRl : 23 ≤ R.locals) (hRc : cells ≤ R.cells ∧ slots ≤ R.slots) (hK : va_K D classes [(cI, .int), (cC, .char)] s) (hA : ∀ q, H0.size ≤ q → A q) :
    ∀ (n : Nat) (k : Nat) (mm : Nat) (bb : Nat → Nat), (i1 - k ≤ n) → (mm ≤ 20 + 11 * k ∧ k ≤ 47) → (∀ (ls : Array Slot) (H : Heap) (locs : List Loc), lv_has ls 6 [(0, .ref h)] → va_P D classes [(h, .inr (8, [.int (nI i0), .int (nI i1), .ref a2, .ref a3, .ref a4, .ref a5, .ref a6, .ref a7, .ref a8, .int (nI ((ptW tx i1 4 n k mm bb).1)), .ref a10, .ref a11, .ref a12, .ref a13, .ref a14, .ref a15, .int (nI i16), .int (nI i17), .ref a18, .int (nI i19), .ref a20, .ref a21, .int (nI i22), .ref a23])), (a2, .inl (cI, 45, .inl (fun j => nI (tx j)))), (a8, .inl (cI, 208, .inl (fun j => nI (((ptW tx i1 4 n k mm bb).2) j))))] H → va_D A [(h, .inr (8, [.int (nI i0), .int (nI i1), .ref a2, .ref a3, .ref a4, .ref a5, .ref a6, .ref a7, .ref a8, .int (nI ((ptW tx i1 4 n k mm bb).1)), .ref a10, .ref a11, .ref a12, .ref a13, .ref a14, .ref a15, .int (nI i16), .int (nI i17), .ref a18, .int (nI i19), .ref a20, .ref a21, .int (nI i22), .ref a23])), (a2, .inl (cI, 45, .inl (fun j => nI (tx j)))), (a8, .inl (cI, 208, .inl (fun j => nI (((ptW tx i1 4 n k mm bb).2) j))))] → va_S A H0 H locs → W p l e R s m args below meth c H locs cells slots Q (F0 m 249 ls [])) → ∀ (ls : Array Slot) (H : Heap) (locs : List Loc), lv_has ls 6 [(0, .ref h), (1, .int (nI 4)), (2, .int (nI k))] → va_P D classes [(h, .inr (8, [.int (nI i0), .int (nI i1), .ref a2, .ref a3, .ref a4, .ref a5, .ref a6, .ref a7, .ref a8, .int (nI mm), .ref a10, .ref a11, .ref a12, .ref a13, .ref a14, .ref a15, .int (nI i16), .int (nI i17), .ref a18, .int (nI i19), .ref a20, .ref a21, .int (nI i22), .ref a23])), (a2, .inl (cI, 45, .inl (fun j => nI (tx j)))), (a8, .inl (cI, 208, .inl (fun j => nI (bb j))))] H → va_D A [(h, .inr (8, [.int (nI i0), .int (nI i1), .ref a2, .ref a3, .ref a4, .ref a5, .ref a6, .ref a7, .ref a8, .int (nI mm), .ref a10, .ref a11, .ref a12, .ref a13, .ref a14, .ref a15, .int (nI i16), .int (nI i17), .ref a18, .int (nI i19), .ref a20, .ref a21, .int (nI i22), .ref a23])), (a2, .inl (cI, 45, .inl (fun j => nI (tx j)))), (a8, .inl (cI, 208, .inl (fun j => nI (bb j))))] → va_S A H0 H locs → W p l e R s m args below meth c H locs cells slots Q (F0 m 43 ls []) := by
  obtain ⟨hx, hb, hml, hown, hts⟩ := id S
  refine fuel_ind (fun n ih => ?_)
  intro k mm bb hkn hmm kx ls H locs hl hP hD hS
  refine lv_iload_n hx hb d_m_putText_43 rfl (lv_at hl 2 rfl) ?_
  refine lv_aload_n hx hb d_m_putText_44 rfl (lv_at hl 0 rfl) ?_
  refine n_get (C := R_Model) (T := F_Model) (N := 24) (v := .int (nI i1)) hx hb hts u_Model_in hown hK hP 0 rfl rfl 1 (by decide) kw_777 rfl d_m_putText_45 ?_
  refine n_icmp_ge hx hb d_m_putText_48 (tgt := 249) rfl (by omega) (by omega) (fun g48 => ?_) (fun g48 => ?_)
  · skip
    rw [ptW_z (by omega)] at kx
    exact kx ls H locs (lv_sub hl [0] rfl) hP hD hS
  · skip
    refine lv_iload_n hx hb d_m_putText_51 rfl (lv_at hl 1 rfl) ?_
    refine lv_iconst (v := nI 4) hx hb d_m_putText_52 (by decide) ?_
    refine n_icmp_ne hx hb d_m_putText_53 (tgt := 74) rfl (by omega) (by omega) (fun g53 => absurd g53 (by decide)) (fun g53 => ?_)
    refine lv_aload_n hx hb d_m_putText_56 rfl (lv_at hl 0 rfl) ?_
    refine lv_aload_n hx hb d_m_putText_57 rfl (lv_at hl 0 rfl) ?_
    refine n_get (C := R_Model) (T := F_Model) (N := 24) (v := .ref a2) hx hb hts u_Model_in hown hK hP 0 rfl rfl 2 (by decide) kw_778 rfl d_m_putText_58 ?_
    refine lv_iload_n hx hb d_m_putText_61 rfl (lv_at hl 2 rfl) ?_
    refine n_iald hx hb hK hP 1 0 rfl rfl (by omega) (by decide) d_m_putText_62 ?_
    refine lv_bipush (v := nI 8) hx hb d_m_putText_63 (by decide) ?_
    refine q_writeVv (n := 2) (As := [.int (nI (tx k)), .int (nI 8)]) (rest := []) (wc := [(h, .inr (8, [.int (nI i0), .int (nI i1), .ref a2, .ref a3, .ref a4, .ref a5, .ref a6, .ref a7, .ref a8, .int (nI mm), .ref a10, .ref a11, .ref a12, .ref a13, .ref a14, .ref a15, .int (nI i16), .int (nI i17), .ref a18, .int (nI i19), .ref a20, .ref a21, .int (nI i22), .ref a23])), (a8, .inl (cI, 208, .inl (fun j => nI (bb j))))]) (wr := [(a2, .inl (cI, 45, .inl (fun j => nI (tx j))))]) (w1 := [(h, .inr (8, [.int (nI i0), .int (nI i1), .ref a2, .ref a3, .ref a4, .ref a5, .ref a6, .ref a7, .ref a8, .int (nI (mm + 8)), .ref a10, .ref a11, .ref a12, .ref a13, .ref a14, .ref a15, .int (nI i16), .int (nI i17), .ref a18, .int (nI i19), .ref a20, .ref a21, .int (nI i22), .ref a23])), (a8, .inl (cI, 208, .inl (fun j => nI ((ptL bb mm (tx k) 8 8) j))))]) S (c_m_put l D cI cC h i0 i1 a2 a3 a4 a5 a6 a7 a8 mm a10 a11 a12 a13 a14 a15 i16 i17 a18 i19 a20 a21 i22 a23 bb (tx k) 8 (Nat.lt_of_lt_of_le (htx k (by omega)) (by decide)) (by decide) (by omega) H.size) hK hP hD hA (q0 := 0) rfl rfl [0, 2] [1] rfl rfl rfl rfl (by decide) rfl (q_goodV kw_879 kw_881 ks_23 kw_10 kw_882) (by decide +kernel) rfl rfl rfl ⟨Nat.le_trans (Nat.le_of_ble_eq_true rfl) hRf, Nat.le_trans (Nat.le_of_ble_eq_true rfl) hRl⟩ rfl hl.1 rfl (Nat.le_of_ble_eq_true rfl) d_m_putText_65 hRc hS (fun H locs hP hD hS => ?_)
    replace hP : va_P D classes [(h, .inr (8, [.int (nI i0), .int (nI i1), .ref a2, .ref a3, .ref a4, .ref a5, .ref a6, .ref a7, .ref a8, .int (nI (mm + 8)), .ref a10, .ref a11, .ref a12, .ref a13, .ref a14, .ref a15, .int (nI i16), .int (nI i17), .ref a18, .int (nI i19), .ref a20, .ref a21, .int (nI i22), .ref a23])), (a2, .inl (cI, 45, .inl (fun j => nI (tx j)))), (a8, .inl (cI, 208, .inl (fun j => nI ((ptL bb mm (tx k) 8 8) j))))] H := hP.sub [1, 0, 2] rfl
    replace hD : va_D A [(h, .inr (8, [.int (nI i0), .int (nI i1), .ref a2, .ref a3, .ref a4, .ref a5, .ref a6, .ref a7, .ref a8, .int (nI (mm + 8)), .ref a10, .ref a11, .ref a12, .ref a13, .ref a14, .ref a15, .int (nI i16), .int (nI i17), .ref a18, .int (nI i19), .ref a20, .ref a21, .int (nI i22), .ref a23])), (a2, .inl (cI, 45, .inl (fun j => nI (tx j)))), (a8, .inl (cI, 208, .inl (fun j => nI ((ptL bb mm (tx k) 8 8) j))))] := hD.sub [1, 0, 2] rfl rfl
    refine lv_iinc (k := 2) (v := nI (k + 1)) hx hb d_m_putText_68 hl rfl (nx_inc k 1) (Nat.le_of_ble_eq_true rfl) rfl (fun ls hl => ?_)
    have hl : lv_has ls 6 [(2, .int (nI (k + 1))), (0, .ref h), (1, .int (nI 4))] := hl
    refine lv_goto hx hb d_m_putText_71 (tgt := 43) rfl ?_
    obtain ⟨m9, rfl⟩ : ∃ m9, n = m9 + 1 := ⟨n - 1, by omega⟩
    rw [ptW_s (x := 1) (z := 8) (v := (tx k)) (y := k + 1) (by omega) (by show min (i1 - k) 1 = _; omega) (by first | rfl | (show (if _ = 3 then 10 else if _ = 2 then 7 else 4) = _; (repeat' split) <;> omega)) (by show 256 * 0 + tx k = tx k; omega) (by omega)] at kx
    exact ih _ rfl (k + 1) (mm + 8) (ptL bb mm (tx k) 8 8) (by omega) (by omega) kx ls H locs (lv_sub hl [1, 2, 0] rfl) hP hD hS
set_option maxHeartbeats 1000000 in
set_option maxRecDepth 100000 in
theorem bd_m_putText_4 (cI cC : ClassId) (h i0 i1 a2 a3 a4 a5 a6 a7 a8 i9 a10 a11 a12 a13 a14 a15 i16 i17 a18 i19 a20 a21 i22 a23 : Nat) (tx bi : Nat → Nat) (hi1 : i1 ≤ 45) (htx : ∀ j, j < 45 → tx j < 65536) (S : CallFix p m c b_m_putText 6 s args (cd_m_putText :: WS) R_Model) (hRf : 1 ≤ R.frames) (hRl : 23 ≤ R.locals) (hRc : cells ≤ R.cells ∧ slots ≤ R.slots) (hK : va_K D classes [(cI, .int), (cC, .char)] s) (hA : ∀ q, H0.size ≤ q → A q) (kr : ∀ (pc : Nat) (ls : Array Slot) (H : Heap) (locs : List Loc), decode b_m_putText pc = .ok (.return_, 1) → va_P D classes [(h, .inr (8, [.int (nI i0), .int (nI i1), .ref a2, .ref a3, .ref a4, .ref a5, .ref a6, .ref a7, .ref a8, .int (nI ((pxR 4 tx i1 bi).1)), .ref a10, .ref a11, .ref a12, .ref a13, .ref a14, .ref a15, .int (nI i16), .int (nI i17), .ref a18, .int (nI i19), .ref a20, .ref a21, .int (nI i22), .ref a23])), (a2, .inl (cI, 45, .inl (fun j => nI (tx j)))), (a8, .inl (cI, 208, .inl (fun j => nI (((pxR 4 tx i1 bi).2) j))))] H → va_D A [(h, .inr (8, [.int (nI i0), .int (nI i1), .ref a2, .ref a3, .ref a4, .ref a5, .ref a6, .ref a7, .ref a8, .int (nI ((pxR 4 tx i1 bi).1)), .ref a10, .ref a11, .ref a12, .ref a13, .ref a14, .ref a15, .int (nI i16), .int (nI i17), .ref a18, .int (nI i19), .ref a20, .ref a21, .int (nI i22), .ref a23])), (a2, .inl (cI, 45, .inl (fun j => nI (tx j)))), (a8, .inl (cI, 208, .inl (fun j => nI (((pxR 4 tx i1 bi).2) j))))] → va_S A H0 H locs → W p l e R s m args below meth c H locs cells slots Q (F0 m pc ls [])) : ∀ (ls : Array Slot) (H : Heap) (locs : List Loc), lv_has ls 6 [(0, .ref h), (1, .int (nI 4))] → va_P D classes [(h, .inr (8, [.int (nI i0), .int (nI i1), .ref a2, .ref a3, .ref a4, .ref a5, .ref a6, .ref a7, .ref a8, .int (nI i9), .ref a10, .ref a11, .ref a12, .ref a13, .ref a14, .ref a15, .int (nI i16), .int (nI i17), .ref a18, .int (nI i19), .ref a20, .ref a21, .int (nI i22), .ref a23])), (a2, .inl (cI, 45, .inl (fun j => nI (tx j)))), (a8, .inl (cI, 208, .inl (fun j => nI (bi j))))] H → va_D A [(h, .inr (8, [.int (nI i0), .int (nI i1), .ref a2, .ref a3, .ref a4, .ref a5, .ref a6, .ref a7, .ref a8, .int (nI i9), .ref a10, .ref a11, .ref a12, .ref a13, .ref a14, .ref a15, .int (nI i16), .int (nI i17), .ref a18, .int (nI i19), .ref a20, .ref a21, .int (nI i22), .ref a23])), (a2, .inl (cI, 45, .inl (fun j => nI (tx j)))), (a8, .inl (cI, 208, .inl (fun j => nI (bi j))))] → va_S A H0 H locs → W p l e R s m args below meth c H locs cells slots Q (F0 m 0 ls []) := by
  obtain ⟨hx, hb, hml, hown, hts⟩ := id S
  intro ls H locs hl hP hD hS
  refine lv_aload_n hx hb d_m_putText_0 rfl (lv_at hl 0 rfl) ?_
  refine lv_iconst (v := nI 0) hx hb d_m_putText_1 (by decide) ?_
  refine n_put (C := R_Model) (T := F_Model) (N := 24) (v := .int (nI 0)) hx hb hts u_Model_in t_Model t_Model_ok n_Model hown hK hP hD hS 0 rfl rfl 9 (by decide) kw_785 rfl rfl rfl (Nat.le_of_ble_eq_true rfl) d_m_putText_2 (fun H locs hP hD hS => ?_)
  have hP : va_P D classes [(h, .inr (8, [.int (nI i0), .int (nI i1), .ref a2, .ref a3, .ref a4, .ref a5, .ref a6, .ref a7, .ref a8, .int (nI 0), .ref a10, .ref a11, .ref a12, .ref a13, .ref a14, .ref a15, .int (nI i16), .int (nI i17), .ref a18, .int (nI i19), .ref a20, .ref a21, .int (nI i22), .ref a23])), (a2, .inl (cI, 45, .inl (fun j => nI (tx j)))), (a8, .inl (cI, 208, .inl (fun j => nI (bi j))))] H := hP
  have hD : va_D A [(h, .inr (8, [.int (nI i0), .int (nI i1), .ref a2, .ref a3, .ref a4, .ref a5, .ref a6, .ref a7, .ref a8, .int (nI 0), .ref a10, .ref a11, .ref a12, .ref a13, .ref a14, .ref a15, .int (nI i16), .int (nI i17), .ref a18, .int (nI i19), .ref a20, .ref a21, .int (nI i22), .ref a23])), (a2, .inl (cI, 45, .inl (fun j => nI (tx j)))), (a8, .inl (cI, 208, .inl (fun j => nI (bi j))))] := hD
  refine lv_aload_n hx hb d_m_putText_5 rfl (lv_at hl 0 rfl) ?_
  refine lv_iload_n hx hb d_m_putText_6 rfl (lv_at hl 1 rfl) ?_
  refine lv_iconst (v := nI 4) hx hb d_m_putText_7 (by decide) ?_
  refine q_writeVv (n := 2) (As := [.int (nI 4), .int (nI 4)]) (rest := []) (wc := [(h, .inr (8, [.int (nI i0), .int (nI i1), .ref a2, .ref a3, .ref a4, .ref a5, .ref a6, .ref a7, .ref a8, .int (nI 0), .ref a10, .ref a11, .ref a12, .ref a13, .ref a14, .ref a15, .int (nI i16), .int (nI i17), .ref a18, .int (nI i19), .ref a20, .ref a21, .int (nI i22), .ref a23])), (a8, .inl (cI, 208, .inl (fun j => nI (bi j))))]) (wr := [(a2, .inl (cI, 45, .inl (fun j => nI (tx j))))]) (w1 := [(h, .inr (8, [.int (nI i0), .int (nI i1), .ref a2, .ref a3, .ref a4, .ref a5, .ref a6, .ref a7, .ref a8, .int (nI (0 + 4)), .ref a10, .ref a11, .ref a12, .ref a13, .ref a14, .ref a15, .int (nI i16), .int (nI i17), .ref a18, .int (nI i19), .ref a20, .ref a21, .int (nI i22), .ref a23])), (a8, .inl (cI, 208, .inl (fun j => nI ((ptL bi 0 4 4 4) j))))]) S (c_m_put l D cI cC h i0 i1 a2 a3 a4 a5 a6 a7 a8 0 a10 a11 a12 a13 a14 a15 i16 i17 a18 i19 a20 a21 i22 a23 bi 4 4 (by decide) (by decide) (by decide) H.size) hK hP hD hA (q0 := 0) rfl rfl [0, 2] [1] rfl rfl rfl rfl (by decide) rfl (q_goodV kw_879 kw_881 ks_23 kw_10 kw_882) (by decide +kernel) rfl rfl rfl ⟨Nat.le_trans (Nat.le_of_ble_eq_true rfl) hRf, Nat.le_trans (Nat.le_of_ble_eq_true rfl) hRl⟩ rfl hl.1 rfl (Nat.le_of_ble_eq_true rfl) d_m_putText_8 hRc hS (fun H locs hP hD hS => ?_)
  replace hP : va_P D classes [(h, .inr (8, [.int (nI i0), .int (nI i1), .ref a2, .ref a3, .ref a4, .ref a5, .ref a6, .ref a7, .ref a8, .int (nI (0 + 4)), .ref a10, .ref a11, .ref a12, .ref a13, .ref a14, .ref a15, .int (nI i16), .int (nI i17), .ref a18, .int (nI i19), .ref a20, .ref a21, .int (nI i22), .ref a23])), (a2, .inl (cI, 45, .inl (fun j => nI (tx j)))), (a8, .inl (cI, 208, .inl (fun j => nI ((ptL bi 0 4 4 4) j))))] H := hP.sub [1, 0, 2] rfl
  replace hD : va_D A [(h, .inr (8, [.int (nI i0), .int (nI i1), .ref a2, .ref a3, .ref a4, .ref a5, .ref a6, .ref a7, .ref a8, .int (nI (0 + 4)), .ref a10, .ref a11, .ref a12, .ref a13, .ref a14, .ref a15, .int (nI i16), .int (nI i17), .ref a18, .int (nI i19), .ref a20, .ref a21, .int (nI i22), .ref a23])), (a2, .inl (cI, 45, .inl (fun j => nI (tx j)))), (a8, .inl (cI, 208, .inl (fun j => nI ((ptL bi 0 4 4 4) j))))] := hD.sub [1, 0, 2] rfl rfl
  refine lv_aload_n hx hb d_m_putText_11 rfl (lv_at hl 0 rfl) ?_
  refine lv_aload_n hx hb d_m_putText_12 rfl (lv_at hl 0 rfl) ?_
  refine n_get (C := R_Model) (T := F_Model) (N := 24) (v := .int (nI i1)) hx hb hts u_Model_in hown hK hP 0 rfl rfl 1 (by decide) kw_777 rfl d_m_putText_13 ?_
  refine lv_iload_n hx hb d_m_putText_16 rfl (lv_at hl 1 rfl) ?_
  refine lv_iconst (v := nI 1) hx hb d_m_putText_17 (by decide) ?_
  refine n_icmp_ne hx hb d_m_putText_18 (tgt := 26) rfl (by omega) (by omega) (fun g18 => ?_) (fun g18 => absurd g18 (by decide))
  refine lv_iload_n hx hb d_m_putText_26 rfl (lv_at hl 1 rfl) ?_
  refine lv_iconst (v := nI 2) hx hb d_m_putText_27 (by decide) ?_
  refine n_icmp_ne hx hb d_m_putText_28 (tgt := 36) rfl (by omega) (by omega) (fun g28 => ?_) (fun g28 => absurd g28 (by decide))
  refine lv_bipush (v := nI 8) hx hb d_m_putText_36 (by decide) ?_
  refine q_writeVv (n := 2) (As := [.int (nI i1), .int (nI 8)]) (rest := []) (wc := [(h, .inr (8, [.int (nI i0), .int (nI i1), .ref a2, .ref a3, .ref a4, .ref a5, .ref a6, .ref a7, .ref a8, .int (nI (0 + 4)), .ref a10, .ref a11, .ref a12, .ref a13, .ref a14, .ref a15, .int (nI i16), .int (nI i17), .ref a18, .int (nI i19), .ref a20, .ref a21, .int (nI i22), .ref a23])), (a8, .inl (cI, 208, .inl (fun j => nI ((ptL bi 0 4 4 4) j))))]) (wr := [(a2, .inl (cI, 45, .inl (fun j => nI (tx j))))]) (w1 := [(h, .inr (8, [.int (nI i0), .int (nI i1), .ref a2, .ref a3, .ref a4, .ref a5, .ref a6, .ref a7, .ref a8, .int (nI ((0 + 4) + 8)), .ref a10, .ref a11, .ref a12, .ref a13, .ref a14, .ref a15, .int (nI i16), .int (nI i17), .ref a18, .int (nI i19), .ref a20, .ref a21, .int (nI i22), .ref a23])), (a8, .inl (cI, 208, .inl (fun j => nI ((ptL (ptL bi 0 4 4 4) (0 + 4) i1 8 8) j))))]) S (c_m_put l D cI cC h i0 i1 a2 a3 a4 a5 a6 a7 a8 (0 + 4) a10 a11 a12 a13 a14 a15 i16 i17 a18 i19 a20 a21 i22 a23 (ptL bi 0 4 4 4) i1 8 (by omega) (by decide) (by decide) H.size) hK hP hD hA (q0 := 0) rfl rfl [0, 2] [1] rfl rfl rfl rfl (by decide) rfl (q_goodV kw_879 kw_881 ks_23 kw_10 kw_882) (by decide +kernel) rfl rfl rfl ⟨Nat.le_trans (Nat.le_of_ble_eq_true rfl) hRf, Nat.le_trans (Nat.le_of_ble_eq_true rfl) hRl⟩ rfl hl.1 rfl (Nat.le_of_ble_eq_true rfl) d_m_putText_38 hRc hS (fun H locs hP hD hS => ?_)
  replace hP : va_P D classes [(h, .inr (8, [.int (nI i0), .int (nI i1), .ref a2, .ref a3, .ref a4, .ref a5, .ref a6, .ref a7, .ref a8, .int (nI ((0 + 4) + 8)), .ref a10, .ref a11, .ref a12, .ref a13, .ref a14, .ref a15, .int (nI i16), .int (nI i17), .ref a18, .int (nI i19), .ref a20, .ref a21, .int (nI i22), .ref a23])), (a2, .inl (cI, 45, .inl (fun j => nI (tx j)))), (a8, .inl (cI, 208, .inl (fun j => nI ((ptL (ptL bi 0 4 4 4) (0 + 4) i1 8 8) j))))] H := hP.sub [1, 0, 2] rfl
  replace hD : va_D A [(h, .inr (8, [.int (nI i0), .int (nI i1), .ref a2, .ref a3, .ref a4, .ref a5, .ref a6, .ref a7, .ref a8, .int (nI ((0 + 4) + 8)), .ref a10, .ref a11, .ref a12, .ref a13, .ref a14, .ref a15, .int (nI i16), .int (nI i17), .ref a18, .int (nI i19), .ref a20, .ref a21, .int (nI i22), .ref a23])), (a2, .inl (cI, 45, .inl (fun j => nI (tx j)))), (a8, .inl (cI, 208, .inl (fun j => nI ((ptL (ptL bi 0 4 4 4) (0 + 4) i1 8 8) j))))] := hD.sub [1, 0, 2] rfl rfl
  refine lv_iconst (v := nI 0) hx hb d_m_putText_41 (by decide) ?_
  refine lv_istore_n hx hb d_m_putText_42 rfl hl (Nat.le_of_ble_eq_true rfl) rfl (fun ls hl => ?_)
  have hl : lv_has ls 6 [(2, .int (nI 0)), (0, .ref h), (1, .int (nI 4))] := hl
  refine lw_m_putText_4_43 cI cC h i0 i1 a2 a3 a4 a5 a6 a7 a8 i9 a10 a11 a12 a13 a14 a15 i16 i17 a18 i19 a20 a21 i22 a23 tx bi hi1 htx S hRf hRl hRc hK hA  i1 0 (0 + 4 + 8) (ptL (ptL bi 0 4 4 4) (0 + 4) i1 8 8) (Nat.le_refl _) ⟨by omega, by omega⟩ (fun ls H locs hl hP hD hS => ?_) ls H locs (lv_sub hl [1, 2, 0] rfl) hP hD hS
  exact kr _ ls H locs d_m_putText_249 hP hD hS
set_option maxHeartbeats 1000000 in
set_option maxRecDepth 100000 in
theorem c_m_putText_4 (l : Launch) (D : va_G) (cI cC : ClassId) (h i0 i1 a2 a3 a4 a5 a6 a7 a8 i9 a10 a11 a12 a13 a14 a15 i16 i17 a18 i19 a20 a21 i22 a23 : Nat) (tx bi : Nat → Nat) (hi1 : i1 ≤ 45) (htx : ∀ j, j < 45 → tx j < 65536) (sz : Nat) : Met l y_m_putText (cd_m_putText :: WS) { frames := 1, cells := 0, slots := 0, locals := 23 } (va_Pc [.ref h, .int (nI 4)] (wP D [(h, .inr (8, [.int (nI i0), .int (nI i1), .ref a2, .ref a3, .ref a4, .ref a5, .ref a6, .ref a7, .ref a8, .int (nI i9), .ref a10, .ref a11, .ref a12, .ref a13, .ref a14, .ref a15, .int (nI i16), .int (nI i17), .ref a18, .int (nI i19), .ref a20, .ref a21, .int (nI i22), .ref a23])), (a2, .inl (cI, 45, .inl (fun j => nI (tx j)))), (a8, .inl (cI, 208, .inl (fun j => nI (bi j))))] [(cI, .int), (cC, .char)] sz)) (wQv D [(h, .inr (8, [.int (nI i0), .int (nI i1), .ref a2, .ref a3, .ref a4, .ref a5, .ref a6, .ref a7, .ref a8, .int (nI i9), .ref a10, .ref a11, .ref a12, .ref a13, .ref a14, .ref a15, .int (nI i16), .int (nI i17), .ref a18, .int (nI i19), .ref a20, .ref a21, .int (nI i22), .ref a23])), (a2, .inl (cI, 45, .inl (fun j => nI (tx j)))), (a8, .inl (cI, 208, .inl (fun j => nI (bi j))))] [(h, .inr (8, [.int (nI i0), .int (nI i1), .ref a2, .ref a3, .ref a4, .ref a5, .ref a6, .ref a7, .ref a8, .int (nI ((pxR 4 tx i1 bi).1)), .ref a10, .ref a11, .ref a12, .ref a13, .ref a14, .ref a15, .int (nI i16), .int (nI i17), .ref a18, .int (nI i19), .ref a20, .ref a21, .int (nI i22), .ref a23])), (a2, .inl (cI, 45, .inl (fun j => nI (tx j)))), (a8, .inl (cI, 208, .inl (fun j => nI (((pxR 4 tx i1 bi).2) j))))] sz) 0 0 (va_A [(h, .inr (8, [.int (nI i0), .int (nI i1), .ref a2, .ref a3, .ref a4, .ref a5, .ref a6, .ref a7, .ref a8, .int (nI i9), .ref a10, .ref a11, .ref a12, .ref a13, .ref a14, .ref a15, .int (nI i16), .int (nI i17), .ref a18, .int (nI i19), .ref a20, .ref a21, .int (nI i22), .ref a23])), (a2, .inl (cI, 45, .inl (fun j => nI (tx j)))), (a8, .inl (cI, 208, .inl (fun j => nI (bi j))))] sz) := by
  refine Met.ofW (cc := b_m_putText) (maxL := 6) (ret := none) (by decide) rfl ?_
  intro p e s m args below meth c s₁ B hml hv0
  obtain ⟨rfl, hP, hK, hD0, hsz⟩ := hv0
  have hts := atoms_spec (ws := cd_m_putText :: WS) B.pre
  have hown : s.vm.findClass R_Model = some m.cls := findClass_of_methodNamed B.named
  have hlocks := B.notSynchronized
  subst hsz
  have hD := hD0.self (sz := s.heap.size)
  have hl := lv_entry ([.ref h, .int (nI 4)]) (n := 6) (Nat.le_of_ble_eq_true rfl)
  rw [lg_entry_eq]
  generalize (lg_sl ([.ref h, .int (nI 4)]) ++ List.replicate (6 - (lg_sl ([.ref h, .int (nI 4)])).length) Slot.unset).toArray = ls at hl ⊢
  refine bd_m_putText_4 cI cC h i0 i1 a2 a3 a4 a5 a6 a7 a8 i9 a10 a11 a12 a13 a14 a15 i16 i17 a18 i19 a20 a21 i22 a23 tx bi hi1 htx ⟨B.exec, B.bytes, hml, hown, hts⟩ (Nat.le_refl _) (Nat.le_refl _) ⟨Nat.le_refl _, Nat.le_refl _⟩ hK (fun q h => Or.inr h) (fun pc ls H locs hd hP hD hS => ?_) ls _ _ hl hP hD (va_S.rf)
  exact W.vret B.exec B.bytes B.returns (fun t ht _ => ⟨⟨(), rfl, trivial, (by have h9 := hP; rw [← ht] at h9; exact h9)⟩, hS.F ht⟩) hS.2.2 hd
end
section
variable {p : Program} {l : Launch} {e : Env} {R : Room} {s : State} {m : MethodId} {args : Array Value} {below : List Frame} {meth : Method} {c : Code} {cells slots : Nat} {Q : State → Prop} {A : Nat → Prop} {H0 : Heap} {D : va_G}
set_option maxHeartbeats 1000000 in
set_option maxRecDepth 100000 in
theorem lw_m_putText_2_43 (cI cC : ClassId) (h i0 i1 a2 a3 a4 a5 a6 a7 a8 i9 a10 a11 a12 a13 a14 a15 i16 i17 a18 i19 a20 a21 i22 a23 : Nat) (tx bi : Nat → Nat) (hi1 : i1 ≤ 45) (htx : ∀ j, j < 45 → tx j < 65536) (hk2 : ∀ j, j < i1 → 0 ≤ plI (tx j)) (S : CallFix p m c b_m_putText 6 s args (cd_m_putText :: WS) R_Model) (hRf : 1 ≤ R.frames) (hRl : 23 ≤ R.locals) (hRc : cells ≤ R.cells ∧ slots ≤ R.slots) (hK : va_K D classes [(cI, .int), (cC, .char)] s) (hA : ∀ q, H0.size ≤ q → A q) :
    ∀ (n : Nat) (k : Nat) (mm : Nat) (bb : Nat → Nat), (i1 - k ≤ n) → (mm ≤ 20 + 11 * k ∧ k ≤ 47) → (∀ (ls : Array Slot) (H : Heap) (locs : List Loc), lv_has ls 6 [(0, .ref h)] → va_P D classes [(h, .inr (8, [.int (nI i0), .int (nI i1), .ref a2, .ref a3, .ref a4, .ref a5, .ref a6, .ref a7, .ref a8, .int (nI ((ptW tx i1 2 n k mm bb).1)), .ref a10, .ref a11, .ref a12, .ref a13, .ref a14, .ref a15, .int (nI i16), .int (nI i17), .ref a18, .int (nI i19), .ref a20, .ref a21, .int (nI i22), .ref a23])), (a2, .inl (cI, 45, .inl (fun j => nI (tx j)))), (a8, .inl (cI, 208, .inl (fun j => nI (((ptW tx i1 2 n k mm bb).2) j))))] H → va_D A [(h, .inr (8, [.int (nI i0), .int (nI i1), .ref a2, .ref a3, .ref a4, .ref a5, .ref a6, .ref a7, .ref a8, .int (nI ((ptW tx i1 2 n k mm bb).1)), .ref a10, .ref a11, .ref a12, .ref a13, .ref a14, .ref a15, .int (nI i16), .int (nI i17), .ref a18, .int (nI i19), .ref a20, .ref a21, .int (nI i22), .ref a23])), (a2, .inl (cI, 45, .inl (fun j => nI (tx j)))), (a8, .inl (cI, 208, .inl (fun j => nI (((ptW tx i1 2 n k mm bb).2) j))))] → va_S A H0 H locs → W p l e R s m args below meth c H locs cells slots Q (F0 m 249 ls [])) → ∀ (ls : Array Slot) (H : Heap) (locs : List Loc), lv_has ls 6 [(0, .ref h), (1, .int (nI 2)), (2, .int (nI k))] → va_P D classes [(h, .inr (8, [.int (nI i0), .int (nI i1), .ref a2, .ref a3, .ref a4, .ref a5, .ref a6, .ref a7, .ref a8, .int (nI mm), .ref a10, .ref a11, .ref a12, .ref a13, .ref a14, .ref a15, .int (nI i16), .int (nI i17), .ref a18, .int (nI i19), .ref a20, .ref a21, .int (nI i22), .ref a23])), (a2, .inl (cI, 45, .inl (fun j => nI (tx j)))), (a8, .inl (cI, 208, .inl (fun j => nI (bb j))))] H → va_D A [(h, .inr (8, [.int (nI i0), .int (nI i1), .ref a2, .ref a3, .ref a4, .ref a5, .ref a6, .ref a7, .ref a8, .int (nI mm), .ref a10, .ref a11, .ref a12, .ref a13, .ref a14, .ref a15, .int (nI i16), .int (nI i17), .ref a18, .int (nI i19), .ref a20, .ref a21, .int (nI i22), .ref a23])), (a2, .inl (cI, 45, .inl (fun j => nI (tx j)))), (a8, .inl (cI, 208, .inl (fun j => nI (bb j))))] → va_S A H0 H locs → W p l e R s m args below meth c H locs cells slots Q (F0 m 43 ls []) := by
  obtain ⟨hx, hb, hml, hown, hts⟩ := id S
  refine fuel_ind (fun n ih => ?_)
  intro k mm bb hkn hmm kx ls H locs hl hP hD hS
  refine lv_iload_n hx hb d_m_putText_43 rfl (lv_at hl 2 rfl) ?_
  refine lv_aload_n hx hb d_m_putText_44 rfl (lv_at hl 0 rfl) ?_
  refine n_get (C := R_Model) (T := F_Model) (N := 24) (v := .int (nI i1)) hx hb hts u_Model_in hown hK hP 0 rfl rfl 1 (by decide) kw_777 rfl d_m_putText_45 ?_
  refine n_icmp_ge hx hb d_m_putText_48 (tgt := 249) rfl (by omega) (by omega) (fun g48 => ?_) (fun g48 => ?_)
  · skip
    rw [ptW_z (by omega)] at kx
    exact kx ls H locs (lv_sub hl [0] rfl) hP hD hS
  · skip
    refine lv_iload_n hx hb d_m_putText_51 rfl (lv_at hl 1 rfl) ?_
    refine lv_iconst (v := nI 4) hx hb d_m_putText_52 (by decide) ?_
    refine n_icmp_ne hx hb d_m_putText_53 (tgt := 74) rfl (by omega) (by omega) (fun g53 => ?_) (fun g53 => absurd g53 (by decide))
    refine lv_iload_n hx hb d_m_putText_74 rfl (lv_at hl 1 rfl) ?_
    refine lv_iconst (v := nI 2) hx hb d_m_putText_75 (by decide) ?_
    refine n_icmp_ne hx hb d_m_putText_76 (tgt := 156) rfl (by omega) (by omega) (fun g76 => absurd g76 (by decide)) (fun g76 => ?_)
    have hq0 := (plI_n (hk2 k (by omega))).2
    have hu0 := htx k (by omega)
    refine lv_iload_n hx hb d_m_putText_79 rfl (lv_at hl 2 rfl) ?_
    refine lv_iconst (v := nI 1) hx hb d_m_putText_80 (by decide) ?_
    refine n_iadd hx hb d_m_putText_81 ?_
    refine lv_aload_n hx hb d_m_putText_82 rfl (lv_at hl 0 rfl) ?_
    refine n_get (C := R_Model) (T := F_Model) (N := 24) (v := .int (nI i1)) hx hb hts u_Model_in hown hK hP 0 rfl rfl 1 (by decide) kw_777 rfl d_m_putText_83 ?_
    refine n_icmp_ge hx hb d_m_putText_86 (tgt := 93) rfl (by omega) (by omega) (fun g86 => ?_) (fun g86 => ?_)
    · skip
      refine lv_iconst (v := nI 0) hx hb d_m_putText_93 (by decide) ?_
      refine lv_istore_n hx hb d_m_putText_94 rfl hl (Nat.le_of_ble_eq_true rfl) rfl (fun ls hl => ?_)
      have hl : lv_has ls 6 [(3, .int (nI 0)), (0, .ref h), (1, .int (nI 2)), (2, .int (nI k))] := hl
      refine lv_aload_n hx hb d_m_putText_95 rfl (lv_at hl 1 rfl) ?_
      refine lv_iload_n hx hb d_m_putText_96 rfl (lv_at hl 0 rfl) ?_
      refine n_if_eq hx hb d_m_putText_97 (tgt := 127) rfl (by omega) (fun g97 => ?_) (fun g97 => absurd g97 (by decide))
      refine lv_aload_n hx hb d_m_putText_127 rfl (lv_at hl 1 rfl) ?_
      refine n_get (C := R_Model) (T := F_Model) (N := 24) (v := .ref a2) hx hb hts u_Model_in hown hK hP 0 rfl rfl 2 (by decide) kw_778 rfl d_m_putText_128 ?_
      refine lv_iload_n hx hb d_m_putText_131 rfl (lv_at hl 3 rfl) ?_
      refine n_iald hx hb hK hP 1 0 rfl rfl (by omega) (by decide) d_m_putText_132 ?_
      refine q_pureS (n := 1) (As := [.int (nI (tx k))]) (rest := [.ref h]) S (c_m_plain l (tx k) (by omega)) (q_goodS kw_872 kw_873 kw_10 kw_874) (by decide +kernel) rfl rfl ⟨Nat.le_trans (Nat.le_of_ble_eq_true rfl) hRf, Nat.le_trans (Nat.le_of_ble_eq_true rfl) hRl⟩ rfl hl.1 rfl (Nat.le_of_ble_eq_true rfl) d_m_putText_133 hRc hS (fun H locs hkp hS => ?_)
      replace hP := hP.kept (fun k q hq => hkp q.1 (hP k q hq).lt)
      refine n_top (show plI (tx k) = nI (pnN (tx k)) from (plI_n (hk2 k (by omega))).1) ?_
      refine lv_iload_n hx hb d_m_putText_136 rfl (lv_at hl 0 rfl) ?_
      refine n_if_eq hx hb d_m_putText_137 (tgt := 145) rfl (by omega) (fun g137 => ?_) (fun g137 => absurd g137 (by decide))
      refine lv_bipush (v := nI 6) hx hb d_m_putText_145 (by decide) ?_
      refine q_writeVv (n := 2) (As := [.int (nI (pnN (tx k))), .int (nI 6)]) (rest := []) (wc := [(h, .inr (8, [.int (nI i0), .int (nI i1), .ref a2, .ref a3, .ref a4, .ref a5, .ref a6, .ref a7, .ref a8, .int (nI mm), .ref a10, .ref a11, .ref a12, .ref a13, .ref a14, .ref a15, .int (nI i16), .int (nI i17), .ref a18, .int (nI i19), .ref a20, .ref a21, .int (nI i22), .ref a23])), (a8, .inl (cI, 208, .inl (fun j => nI (bb j))))]) (wr := [(a2, .inl (cI, 45, .inl (fun j => nI (tx j))))]) (w1 := [(h, .inr (8, [.int (nI i0), .int (nI i1), .ref a2, .ref a3, .ref a4, .ref a5, .ref a6, .ref a7, .ref a8, .int (nI (mm + 6)), .ref a10, .ref a11, .ref a12, .ref a13, .ref a14, .ref a15, .int (nI i16), .int (nI i17), .ref a18, .int (nI i19), .ref a20, .ref a21, .int (nI i22), .ref a23])), (a8, .inl (cI, 208, .inl (fun j => nI ((ptL bb mm (pnN (tx k)) 6 6) j))))]) S (c_m_put l D cI cC h i0 i1 a2 a3 a4 a5 a6 a7 a8 mm a10 a11 a12 a13 a14 a15 i16 i17 a18 i19 a20 a21 i22 a23 bb (pnN (tx k)) 6 (by omega) (by decide) (by omega) H.size) hK hP hD hA (q0 := 0) rfl rfl [0, 2] [1] rfl rfl rfl rfl (by decide) rfl (q_goodV kw_879 kw_881 ks_23 kw_10 kw_882) (by decide +kernel) rfl rfl rfl ⟨Nat.le_trans (Nat.le_of_ble_eq_true rfl) hRf, Nat.le_trans (Nat.le_of_ble_eq_true rfl) hRl⟩ rfl hl.1 rfl (Nat.le_of_ble_eq_true rfl) d_m_putText_147 hRc hS (fun H locs hP hD hS => ?_)
      replace hP : va_P D classes [(h, .inr (8, [.int (nI i0), .int (nI i1), .ref a2, .ref a3, .ref a4, .ref a5, .ref a6, .ref a7, .ref a8, .int (nI (mm + 6)), .ref a10, .ref a11, .ref a12, .ref a13, .ref a14, .ref a15, .int (nI i16), .int (nI i17), .ref a18, .int (nI i19), .ref a20, .ref a21, .int (nI i22), .ref a23])), (a2, .inl (cI, 45, .inl (fun j => nI (tx j)))), (a8, .inl (cI, 208, .inl (fun j => nI ((ptL bb mm (pnN (tx k)) 6 6) j))))] H := hP.sub [1, 0, 2] rfl
      replace hD : va_D A [(h, .inr (8, [.int (nI i0), .int (nI i1), .ref a2, .ref a3, .ref a4, .ref a5, .ref a6, .ref a7, .ref a8, .int (nI (mm + 6)), .ref a10, .ref a11, .ref a12, .ref a13, .ref a14, .ref a15, .int (nI i16), .int (nI i17), .ref a18, .int (nI i19), .ref a20, .ref a21, .int (nI i22), .ref a23])), (a2, .inl (cI, 45, .inl (fun j => nI (tx j)))), (a8, .inl (cI, 208, .inl (fun j => nI ((ptL bb mm (pnN (tx k)) 6 6) j))))] := hD.sub [1, 0, 2] rfl rfl
      refine lv_iinc (k := 3) (v := nI (k + 2)) hx hb d_m_putText_150 hl rfl (nx_inc k 2) (Nat.le_of_ble_eq_true rfl) rfl (fun ls hl => ?_)
      have hl : lv_has ls 6 [(2, .int (nI (k + 2))), (3, .int (nI 0)), (0, .ref h), (1, .int (nI 2))] := hl
      refine lv_goto hx hb d_m_putText_153 (tgt := 43) rfl ?_
      obtain ⟨m9, rfl⟩ : ∃ m9, n = m9 + 1 := ⟨n - 1, by omega⟩
      rw [ptW_s (x := 1) (z := 6) (v := (pnN (tx k))) (y := k + 2) (by omega) (by show min (i1 - k) 2 = _; omega) (by first | rfl | (show (if _ = 3 then 10 else if _ = 2 then 7 else 4) = _; (repeat' split) <;> omega)) (by show 45 * 0 + pnN (tx k) = _; omega) (by omega)] at kx
      exact ih _ rfl (k + 2) (mm + 6) (ptL bb mm (pnN (tx k)) 6 6) (by omega) (by omega) kx ls H locs (lv_sub hl [2, 3, 0] rfl) hP hD hS
    · skip
      refine lv_iconst (v := nI 1) hx hb d_m_putText_89 (by decide) ?_
      refine lv_goto hx hb d_m_putText_90 (tgt := 94) rfl ?_
      refine lv_istore_n hx hb d_m_putText_94 rfl hl (Nat.le_of_ble_eq_true rfl) rfl (fun ls hl => ?_)
      have hl : lv_has ls 6 [(3, .int (nI 1)), (0, .ref h), (1, .int (nI 2)), (2, .int (nI k))] := hl
      refine lv_aload_n hx hb d_m_putText_95 rfl (lv_at hl 1 rfl) ?_
      refine lv_iload_n hx hb d_m_putText_96 rfl (lv_at hl 0 rfl) ?_
      refine n_if_eq hx hb d_m_putText_97 (tgt := 127) rfl (by omega) (fun g97 => absurd g97 (by decide)) (fun g97 => ?_)
      have hq1 := (plI_n (hk2 (k + 1) (by omega))).2
      have hu1 := htx (k + 1) (by omega)
      refine lv_bipush (v := nI 45) hx hb d_m_putText_100 (by decide) ?_
      refine lv_aload_n hx hb d_m_putText_102 rfl (lv_at hl 1 rfl) ?_
      refine n_get (C := R_Model) (T := F_Model) (N := 24) (v := .ref a2) hx hb hts u_Model_in hown hK hP 0 rfl rfl 2 (by decide) kw_778 rfl d_m_putText_103 ?_
      refine lv_iload_n hx hb d_m_putText_106 rfl (lv_at hl 3 rfl) ?_
      refine n_iald hx hb hK hP 1 0 rfl rfl (by omega) (by decide) d_m_putText_107 ?_
      refine q_pureS (n := 1) (As := [.int (nI (tx k))]) (rest := [.int (nI 45), .ref h]) S (c_m_plain l (tx k) (by omega)) (q_goodS kw_872 kw_873 kw_10 kw_874) (by decide +kernel) rfl rfl ⟨Nat.le_trans (Nat.le_of_ble_eq_true rfl) hRf, Nat.le_trans (Nat.le_of_ble_eq_true rfl) hRl⟩ rfl hl.1 rfl (Nat.le_of_ble_eq_true rfl) d_m_putText_108 hRc hS (fun H locs hkp hS => ?_)
      replace hP := hP.kept (fun k q hq => hkp q.1 (hP k q hq).lt)
      refine n_top (show (plI (tx k)) = (nI (pnN (tx k))) from (plI_n (hk2 k (by omega))).1) ?_
      refine n_imul hx hb d_m_putText_111 ?_
      refine lv_aload_n hx hb d_m_putText_112 rfl (lv_at hl 1 rfl) ?_
      refine n_get (C := R_Model) (T := F_Model) (N := 24) (v := .ref a2) hx hb hts u_Model_in hown hK hP 0 rfl rfl 2 (by decide) kw_778 rfl d_m_putText_113 ?_
      refine lv_iload_n hx hb d_m_putText_116 rfl (lv_at hl 3 rfl) ?_
      refine lv_iconst (v := nI 1) hx hb d_m_putText_117 (by decide) ?_
      refine n_iadd hx hb d_m_putText_118 ?_
      refine n_iald hx hb hK hP 1 0 rfl rfl (by omega) (by decide) d_m_putText_119 ?_
      refine q_pureS (n := 1) (As := [.int (nI (tx (k + 1)))]) (rest := [.int (nI (45 * (pnN (tx k)))), .ref h]) S (c_m_plain l (tx (k + 1)) (by omega)) (q_goodS kw_872 kw_873 kw_10 kw_874) (by decide +kernel) rfl rfl ⟨Nat.le_trans (Nat.le_of_ble_eq_true rfl) hRf, Nat.le_trans (Nat.le_of_ble_eq_true rfl) hRl⟩ rfl hl.1 rfl (Nat.le_of_ble_eq_true rfl) d_m_putText_120 hRc hS (fun H locs hkp hS => ?_)
      replace hP := hP.kept (fun k q hq => hkp q.1 (hP k q hq).lt)
      refine n_top (show (plI (tx (k + 1))) = (nI (pnN (tx (k + 1)))) from (plI_n (hk2 (k + 1) (by omega))).1) ?_
      refine n_iadd hx hb d_m_putText_123 ?_
      refine lv_goto hx hb d_m_putText_124 (tgt := 136) rfl ?_
      refine lv_iload_n hx hb d_m_putText_136 rfl (lv_at hl 0 rfl) ?_
      refine n_if_eq hx hb d_m_putText_137 (tgt := 145) rfl (by omega) (fun g137 => absurd g137 (by decide)) (fun g137 => ?_)
      refine lv_bipush (v := nI 11) hx hb d_m_putText_140 (by decide) ?_
      refine lv_goto hx hb d_m_putText_142 (tgt := 147) rfl ?_
      refine q_writeVv (n := 2) (As := [.int (nI ((45 * (pnN (tx k))) + (pnN (tx (k + 1))))), .int (nI 11)]) (rest := []) (wc := [(h, .inr (8, [.int (nI i0), .int (nI i1), .ref a2, .ref a3, .ref a4, .ref a5, .ref a6, .ref a7, .ref a8, .int (nI mm), .ref a10, .ref a11, .ref a12, .ref a13, .ref a14, .ref a15, .int (nI i16), .int (nI i17), .ref a18, .int (nI i19), .ref a20, .ref a21, .int (nI i22), .ref a23])), (a8, .inl (cI, 208, .inl (fun j => nI (bb j))))]) (wr := [(a2, .inl (cI, 45, .inl (fun j => nI (tx j))))]) (w1 := [(h, .inr (8, [.int (nI i0), .int (nI i1), .ref a2, .ref a3, .ref a4, .ref a5, .ref a6, .ref a7, .ref a8, .int (nI (mm + 11)), .ref a10, .ref a11, .ref a12, .ref a13, .ref a14, .ref a15, .int (nI i16), .int (nI i17), .ref a18, .int (nI i19), .ref a20, .ref a21, .int (nI i22), .ref a23])), (a8, .inl (cI, 208, .inl (fun j => nI ((ptL bb mm ((45 * (pnN (tx k))) + (pnN (tx (k + 1)))) 11 11) j))))]) S (c_m_put l D cI cC h i0 i1 a2 a3 a4 a5 a6 a7 a8 mm a10 a11 a12 a13 a14 a15 i16 i17 a18 i19 a20 a21 i22 a23 bb ((45 * (pnN (tx k))) + (pnN (tx (k + 1)))) 11 (by omega) (by decide) (by omega) H.size) hK hP hD hA (q0 := 0) rfl rfl [0, 2] [1] rfl rfl rfl rfl (by decide) rfl (q_goodV kw_879 kw_881 ks_23 kw_10 kw_882) (by decide +kernel) rfl rfl rfl ⟨Nat.le_trans (Nat.le_of_ble_eq_true rfl) hRf, Nat.le_trans (Nat.le_of_ble_eq_true rfl) hRl⟩ rfl hl.1 rfl (Nat.le_of_ble_eq_true rfl) d_m_putText_147 hRc hS (fun H locs hP hD hS => ?_)
      replace hP : va_P D classes [(h, .inr (8, [.int (nI i0), .int (nI i1), .ref a2, .ref a3, .ref a4, .ref a5, .ref a6, .ref a7, .ref a8, .int (nI (mm + 11)), .ref a10, .ref a11, .ref a12, .ref a13, .ref a14, .ref a15, .int (nI i16), .int (nI i17), .ref a18, .int (nI i19), .ref a20, .ref a21, .int (nI i22), .ref a23])), (a2, .inl (cI, 45, .inl (fun j => nI (tx j)))), (a8, .inl (cI, 208, .inl (fun j => nI ((ptL bb mm ((45 * (pnN (tx k))) + (pnN (tx (k + 1)))) 11 11) j))))] H := hP.sub [1, 0, 2] rfl
      replace hD : va_D A [(h, .inr (8, [.int (nI i0), .int (nI i1), .ref a2, .ref a3, .ref a4, .ref a5, .ref a6, .ref a7, .ref a8, .int (nI (mm + 11)), .ref a10, .ref a11, .ref a12, .ref a13, .ref a14, .ref a15, .int (nI i16), .int (nI i17), .ref a18, .int (nI i19), .ref a20, .ref a21, .int (nI i22), .ref a23])), (a2, .inl (cI, 45, .inl (fun j => nI (tx j)))), (a8, .inl (cI, 208, .inl (fun j => nI ((ptL bb mm ((45 * (pnN (tx k))) + (pnN (tx (k + 1)))) 11 11) j))))] := hD.sub [1, 0, 2] rfl rfl
      refine lv_iinc (k := 3) (v := nI (k + 2)) hx hb d_m_putText_150 hl rfl (nx_inc k 2) (Nat.le_of_ble_eq_true rfl) rfl (fun ls hl => ?_)
      have hl : lv_has ls 6 [(2, .int (nI (k + 2))), (3, .int (nI 1)), (0, .ref h), (1, .int (nI 2))] := hl
      refine lv_goto hx hb d_m_putText_153 (tgt := 43) rfl ?_
      obtain ⟨m9, rfl⟩ : ∃ m9, n = m9 + 1 := ⟨n - 1, by omega⟩
      rw [ptW_s (x := 2) (z := 11) (v := ((45 * (pnN (tx k))) + (pnN (tx (k + 1))))) (y := k + 2) (by omega) (by show min (i1 - k) 2 = _; omega) (by first | rfl | (show (if _ = 3 then 10 else if _ = 2 then 7 else 4) = _; (repeat' split) <;> omega)) (by show 45 * (45 * 0 + pnN (tx k)) + pnN (tx (k + 1)) = _; omega) (by omega)] at kx
      exact ih _ rfl (k + 2) (mm + 11) (ptL bb mm ((45 * (pnN (tx k))) + (pnN (tx (k + 1)))) 11 11) (by omega) (by omega) kx ls H locs (lv_sub hl [2, 3, 0] rfl) hP hD hS
set_option maxHeartbeats 1000000 in
set_option maxRecDepth 100000 in
theorem bd_m_putText_2 (cI cC : ClassId) (h i0 i1 a2 a3 a4 a5 a6 a7 a8 i9 a10 a11 a12 a13 a14 a15 i16 i17 a18 i19 a20 a21 i22 a23 : Nat) (tx bi : Nat → Nat) (hi1 : i1 ≤ 45) (htx : ∀ j, j < 45 → tx j < 65536) (hk2 : ∀ j, j < i1 → 0 ≤ plI (tx j)) (S : CallFix p m c b_m_putText 6 s args (cd_m_putText :: WS) R_Model) (hRf : 1 ≤ R.frames) (hRl : 23 ≤ R.locals) (hRc : cells ≤ R.cells ∧ slots ≤ R.slots) (hK : va_K D classes [(cI, .int), (cC, .char)] s) (hA : ∀ q, H0.size ≤ q → A q) (kr : ∀ (pc : Nat) (ls : Array Slot) (H : Heap) (locs : List Loc), decode b_m_putText pc = .ok (.return_, 1) → va_P D classes [(h, .inr (8, [.int (nI i0), .int (nI i1), .ref a2, .ref a3, .ref a4, .ref a5, .ref a6, .ref a7, .ref a8, .int (nI ((pxR 2 tx i1 bi).1)), .ref a10, .ref a11, .ref a12, .ref a13, .ref a14, .ref a15, .int (nI i16), .int (nI i17), .ref a18, .int (nI i19), .ref a20, .ref a21, .int (nI i22), .ref a23])), (a2, .inl (cI, 45, .inl (fun j => nI (tx j)))), (a8, .inl (cI, 208, .inl (fun j => nI (((pxR 2 tx i1 bi).2) j))))] H → va_D A [(h, .inr (8, [.int (nI i0), .int (nI i1), .ref a2, .ref a3, .ref a4, .ref a5, .ref a6, .ref a7, .ref a8, .int (nI ((pxR 2 tx i1 bi).1)), .ref a10, .ref a11, .ref a12, .ref a13, .ref a14, .ref a15, .int (nI i16), .int (nI i17), .ref a18, .int (nI i19), .ref a20, .ref a21, .int (nI i22), .ref a23])), (a2, .inl (cI, 45, .inl (fun j => nI (tx j)))), (a8, .inl (cI, 208, .inl (fun j => nI (((pxR 2 tx i1 bi).2) j))))] → va_S A H0 H locs → W p l e R s m args below meth c H locs cells slots Q (F0 m pc ls [])) : ∀ (ls : Array Slot) (H : Heap) (locs : List Loc), lv_has ls 6 [(0, .ref h), (1, .int (nI 2))] → va_P D classes [(h, .inr (8, [.int (nI i0), .int (nI i1), .ref a2, .ref a3, .ref a4, .ref a5, .ref a6, .ref a7, .ref a8, .int (nI i9), .ref a10, .ref a11, .ref a12, .ref a13, .ref a14, .ref a15, .int (nI i16), .int (nI i17), .ref a18, .int (nI i19), .ref a20, .ref a21, .int (nI i22), .ref a23])), (a2, .inl (cI, 45, .inl (fun j => nI (tx j)))), (a8, .inl (cI, 208, .inl (fun j => nI (bi j))))] H → va_D A [(h, .inr (8, [.int (nI i0), .int (nI i1), .ref a2, .ref a3, .ref a4, .ref a5, .ref a6, .ref a7, .ref a8, .int (nI i9), .ref a10, .ref a11, .ref a12, .ref a13, .ref a14, .ref a15, .int (nI i16), .int (nI i17), .ref a18, .int (nI i19), .ref a20, .ref a21, .int (nI i22), .ref a23])), (a2, .inl (cI, 45, .inl (fun j => nI (tx j)))), (a8, .inl (cI, 208, .inl (fun j => nI (bi j))))] → va_S A H0 H locs → W p l e R s m args below meth c H locs cells slots Q (F0 m 0 ls []) := by
  obtain ⟨hx, hb, hml, hown, hts⟩ := id S
  intro ls H locs hl hP hD hS
  refine lv_aload_n hx hb d_m_putText_0 rfl (lv_at hl 0 rfl) ?_
  refine lv_iconst (v := nI 0) hx hb d_m_putText_1 (by decide) ?_
  refine n_put (C := R_Model) (T := F_Model) (N := 24) (v := .int (nI 0)) hx hb hts u_Model_in t_Model t_Model_ok n_Model hown hK hP hD hS 0 rfl rfl 9 (by decide) kw_785 rfl rfl rfl (Nat.le_of_ble_eq_true rfl) d_m_putText_2 (fun H locs hP hD hS => ?_)
  have hP : va_P D classes [(h, .inr (8, [.int (nI i0), .int (nI i1), .ref a2, .ref a3, .ref a4, .ref a5, .ref a6, .ref a7, .ref a8, .int (nI 0), .ref a10, .ref a11, .ref a12, .ref a13, .ref a14, .ref a15, .int (nI i16), .int (nI i17), .ref a18, .int (nI i19), .ref a20, .ref a21, .int (nI i22), .ref a23])), (a2, .inl (cI, 45, .inl (fun j => nI (tx j)))), (a8, .inl (cI, 208, .inl (fun j => nI (bi j))))] H := hP
  have hD : va_D A [(h, .inr (8, [.int (nI i0), .int (nI i1), .ref a2, .ref a3, .ref a4, .ref a5, .ref a6, .ref a7, .ref a8, .int (nI 0), .ref a10, .ref a11, .ref a12, .ref a13, .ref a14, .ref a15, .int (nI i16), .int (nI i17), .ref a18, .int (nI i19), .ref a20, .ref a21, .int (nI i22), .ref a23])), (a2, .inl (cI, 45, .inl (fun j => nI (tx j)))), (a8, .inl (cI, 208, .inl (fun j => nI (bi j))))] := hD
  refine lv_aload_n hx hb d_m_putText_5 rfl (lv_at hl 0 rfl) ?_
  refine lv_iload_n hx hb d_m_putText_6 rfl (lv_at hl 1 rfl) ?_
  refine lv_iconst (v := nI 4) hx hb d_m_putText_7 (by decide) ?_
  refine q_writeVv (n := 2) (As := [.int (nI 2), .int (nI 4)]) (rest := []) (wc := [(h, .inr (8, [.int (nI i0), .int (nI i1), .ref a2, .ref a3, .ref a4, .ref a5, .ref a6, .ref a7, .ref a8, .int (nI 0), .ref a10, .ref a11, .ref a12, .ref a13, .ref a14, .ref a15, .int (nI i16), .int (nI i17), .ref a18, .int (nI i19), .ref a20, .ref a21, .int (nI i22), .ref a23])), (a8, .inl (cI, 208, .inl (fun j => nI (bi j))))]) (wr := [(a2, .inl (cI, 45, .inl (fun j => nI (tx j))))]) (w1 := [(h, .inr (8, [.int (nI i0), .int (nI i1), .ref a2, .ref a3, .ref a4, .ref a5, .ref a6, .ref a7, .ref a8, .int (nI (0 + 4)), .ref a10, .ref a11, .ref a12, .ref a13, .ref a14, .ref a15, .int (nI i16), .int (nI i17), .ref a18, .int (nI i19), .ref a20, .ref a21, .int (nI i22), .ref a23])), (a8, .inl (cI, 208, .inl (fun j => nI ((ptL bi 0 2 4 4) j))))]) S (c_m_put l D cI cC h i0 i1 a2 a3 a4 a5 a6 a7 a8 0 a10 a11 a12 a13 a14 a15 i16 i17 a18 i19 a20 a21 i22 a23 bi 2 4 (by decide) (by decide) (by decide) H.size) hK hP hD hA (q0 := 0) rfl rfl [0, 2] [1] rfl rfl rfl rfl (by decide) rfl (q_goodV kw_879 kw_881 ks_23 kw_10 kw_882) (by decide +kernel) rfl rfl rfl ⟨Nat.le_trans (Nat.le_of_ble_eq_true rfl) hRf, Nat.le_trans (Nat.le_of_ble_eq_true rfl) hRl⟩ rfl hl.1 rfl (Nat.le_of_ble_eq_true rfl) d_m_putText_8 hRc hS (fun H locs hP hD hS => ?_)
  replace hP : va_P D classes [(h, .inr (8, [.int (nI i0), .int (nI i1), .ref a2, .ref a3, .ref a4, .ref a5, .ref a6, .ref a7, .ref a8, .int (nI (0 + 4)), .ref a10, .ref a11, .ref a12, .ref a13, .ref a14, .ref a15, .int (nI i16), .int (nI i17), .ref a18, .int (nI i19), .ref a20, .ref a21, .int (nI i22), .ref a23])), (a2, .inl (cI, 45, .inl (fun j => nI (tx j)))), (a8, .inl (cI, 208, .inl (fun j => nI ((ptL bi 0 2 4 4) j))))] H := hP.sub [1, 0, 2] rfl
  replace hD : va_D A [(h, .inr (8, [.int (nI i0), .int (nI i1), .ref a2, .ref a3, .ref a4, .ref a5, .ref a6, .ref a7, .ref a8, .int (nI (0 + 4)), .ref a10, .ref a11, .ref a12, .ref a13, .ref a14, .ref a15, .int (nI i16), .int (nI i17), .ref a18, .int (nI i19), .ref a20, .ref a21, .int (nI i22), .ref a23])), (a2, .inl (cI, 45, .inl (fun j => nI (tx j)))), (a8, .inl (cI, 208, .inl (fun j => nI ((ptL bi 0 2 4 4) j))))] := hD.sub [1, 0, 2] rfl rfl
  refine lv_aload_n hx hb d_m_putText_11 rfl (lv_at hl 0 rfl) ?_
  refine lv_aload_n hx hb d_m_putText_12 rfl (lv_at hl 0 rfl) ?_
  refine n_get (C := R_Model) (T := F_Model) (N := 24) (v := .int (nI i1)) hx hb hts u_Model_in hown hK hP 0 rfl rfl 1 (by decide) kw_777 rfl d_m_putText_13 ?_
  refine lv_iload_n hx hb d_m_putText_16 rfl (lv_at hl 1 rfl) ?_
  refine lv_iconst (v := nI 1) hx hb d_m_putText_17 (by decide) ?_
  refine n_icmp_ne hx hb d_m_putText_18 (tgt := 26) rfl (by omega) (by omega) (fun g18 => ?_) (fun g18 => absurd g18 (by decide))
  refine lv_iload_n hx hb d_m_putText_26 rfl (lv_at hl 1 rfl) ?_
  refine lv_iconst (v := nI 2) hx hb d_m_putText_27 (by decide) ?_
  refine n_icmp_ne hx hb d_m_putText_28 (tgt := 36) rfl (by omega) (by omega) (fun g28 => absurd g28 (by decide)) (fun g28 => ?_)
  refine lv_bipush (v := nI 9) hx hb d_m_putText_31 (by decide) ?_
  refine lv_goto hx hb d_m_putText_33 (tgt := 38) rfl ?_
  refine q_writeVv (n := 2) (As := [.int (nI i1), .int (nI 9)]) (rest := []) (wc := [(h, .inr (8, [.int (nI i0), .int (nI i1), .ref a2, .ref a3, .ref a4, .ref a5, .ref a6, .ref a7, .ref a8, .int (nI (0 + 4)), .ref a10, .ref a11, .ref a12, .ref a13, .ref a14, .ref a15, .int (nI i16), .int (nI i17), .ref a18, .int (nI i19), .ref a20, .ref a21, .int (nI i22), .ref a23])), (a8, .inl (cI, 208, .inl (fun j => nI ((ptL bi 0 2 4 4) j))))]) (wr := [(a2, .inl (cI, 45, .inl (fun j => nI (tx j))))]) (w1 := [(h, .inr (8, [.int (nI i0), .int (nI i1), .ref a2, .ref a3, .ref a4, .ref a5, .ref a6, .ref a7, .ref a8, .int (nI ((0 + 4) + 9)), .ref a10, .ref a11, .ref a12, .ref a13, .ref a14, .ref a15, .int (nI i16), .int (nI i17), .ref a18, .int (nI i19), .ref a20, .ref a21, .int (nI i22), .ref a23])), (a8, .inl (cI, 208, .inl (fun j => nI ((ptL (ptL bi 0 2 4 4) (0 + 4) i1 9 9) j))))]) S (c_m_put l D cI cC h i0 i1 a2 a3 a4 a5 a6 a7 a8 (0 + 4) a10 a11 a12 a13 a14 a15 i16 i17 a18 i19 a20 a21 i22 a23 (ptL bi 0 2 4 4) i1 9 (by omega) (by decide) (by decide) H.size) hK hP hD hA (q0 := 0) rfl rfl [0, 2] [1] rfl rfl rfl rfl (by decide) rfl (q_goodV kw_879 kw_881 ks_23 kw_10 kw_882) (by decide +kernel) rfl rfl rfl ⟨Nat.le_trans (Nat.le_of_ble_eq_true rfl) hRf, Nat.le_trans (Nat.le_of_ble_eq_true rfl) hRl⟩ rfl hl.1 rfl (Nat.le_of_ble_eq_true rfl) d_m_putText_38 hRc hS (fun H locs hP hD hS => ?_)
  replace hP : va_P D classes [(h, .inr (8, [.int (nI i0), .int (nI i1), .ref a2, .ref a3, .ref a4, .ref a5, .ref a6, .ref a7, .ref a8, .int (nI ((0 + 4) + 9)), .ref a10, .ref a11, .ref a12, .ref a13, .ref a14, .ref a15, .int (nI i16), .int (nI i17), .ref a18, .int (nI i19), .ref a20, .ref a21, .int (nI i22), .ref a23])), (a2, .inl (cI, 45, .inl (fun j => nI (tx j)))), (a8, .inl (cI, 208, .inl (fun j => nI ((ptL (ptL bi 0 2 4 4) (0 + 4) i1 9 9) j))))] H := hP.sub [1, 0, 2] rfl
  replace hD : va_D A [(h, .inr (8, [.int (nI i0), .int (nI i1), .ref a2, .ref a3, .ref a4, .ref a5, .ref a6, .ref a7, .ref a8, .int (nI ((0 + 4) + 9)), .ref a10, .ref a11, .ref a12, .ref a13, .ref a14, .ref a15, .int (nI i16), .int (nI i17), .ref a18, .int (nI i19), .ref a20, .ref a21, .int (nI i22), .ref a23])), (a2, .inl (cI, 45, .inl (fun j => nI (tx j)))), (a8, .inl (cI, 208, .inl (fun j => nI ((ptL (ptL bi 0 2 4 4) (0 + 4) i1 9 9) j))))] := hD.sub [1, 0, 2] rfl rfl
  refine lv_iconst (v := nI 0) hx hb d_m_putText_41 (by decide) ?_
  refine lv_istore_n hx hb d_m_putText_42 rfl hl (Nat.le_of_ble_eq_true rfl) rfl (fun ls hl => ?_)
  have hl : lv_has ls 6 [(2, .int (nI 0)), (0, .ref h), (1, .int (nI 2))] := hl
  refine lw_m_putText_2_43 cI cC h i0 i1 a2 a3 a4 a5 a6 a7 a8 i9 a10 a11 a12 a13 a14 a15 i16 i17 a18 i19 a20 a21 i22 a23 tx bi hi1 htx hk2 S hRf hRl hRc hK hA  i1 0 (0 + 4 + 9) (ptL (ptL bi 0 2 4 4) (0 + 4) i1 9 9) (Nat.le_refl _) ⟨by omega, by omega⟩ (fun ls H locs hl hP hD hS => ?_) ls H locs (lv_sub hl [1, 2, 0] rfl) hP hD hS
  exact kr _ ls H locs d_m_putText_249 hP hD hS
set_option maxHeartbeats 1000000 in
set_option maxRecDepth 100000 in
theorem c_m_putText_2 (l : Launch) (D : va_G) (cI cC : ClassId) (h i0 i1 a2 a3 a4 a5 a6 a7 a8 i9 a10 a11 a12 a13 a14 a15 i16 i17 a18 i19 a20 a21 i22 a23 : Nat) (tx bi : Nat → Nat) (hi1 : i1 ≤ 45) (htx : ∀ j, j < 45 → tx j < 65536) (hk2 : ∀ j, j < i1 → 0 ≤ plI (tx j)) (sz : Nat) : Met l y_m_putText (cd_m_putText :: WS) { frames := 1, cells := 0, slots := 0, locals := 23 } (va_Pc [.ref h, .int (nI 2)] (wP D [(h, .inr (8, [.int (nI i0), .int (nI i1), .ref a2, .ref a3, .ref a4, .ref a5, .ref a6, .ref a7, .ref a8, .int (nI i9), .ref a10, .ref a11, .ref a12, .ref a13, .ref a14, .ref a15, .int (nI i16), .int (nI i17), .ref a18, .int (nI i19), .ref a20, .ref a21, .int (nI i22), .ref a23])), (a2, .inl (cI, 45, .inl (fun j => nI (tx j)))), (a8, .inl (cI, 208, .inl (fun j => nI (bi j))))] [(cI, .int), (cC, .char)] sz)) (wQv D [(h, .inr (8, [.int (nI i0), .int (nI i1), .ref a2, .ref a3, .ref a4, .ref a5, .ref a6, .ref a7, .ref a8, .int (nI i9), .ref a10, .ref a11, .ref a12, .ref a13, .ref a14, .ref a15, .int (nI i16), .int (nI i17), .ref a18, .int (nI i19), .ref a20, .ref a21, .int (nI i22), .ref a23])), (a2, .inl (cI, 45, .inl (fun j => nI (tx j)))), (a8, .inl (cI, 208, .inl (fun j => nI (bi j))))] [(h, .inr (8, [.int (nI i0), .int (nI i1), .ref a2, .ref a3, .ref a4, .ref a5, .ref a6, .ref a7, .ref a8, .int (nI ((pxR 2 tx i1 bi).1)), .ref a10, .ref a11, .ref a12, .ref a13, .ref a14, .ref a15, .int (nI i16), .int (nI i17), .ref a18, .int (nI i19), .ref a20, .ref a21, .int (nI i22), .ref a23])), (a2, .inl (cI, 45, .inl (fun j => nI (tx j)))), (a8, .inl (cI, 208, .inl (fun j => nI (((pxR 2 tx i1 bi).2) j))))] sz) 0 0 (va_A [(h, .inr (8, [.int (nI i0), .int (nI i1), .ref a2, .ref a3, .ref a4, .ref a5, .ref a6, .ref a7, .ref a8, .int (nI i9), .ref a10, .ref a11, .ref a12, .ref a13, .ref a14, .ref a15, .int (nI i16), .int (nI i17), .ref a18, .int (nI i19), .ref a20, .ref a21, .int (nI i22), .ref a23])), (a2, .inl (cI, 45, .inl (fun j => nI (tx j)))), (a8, .inl (cI, 208, .inl (fun j => nI (bi j))))] sz) := by
  refine Met.ofW (cc := b_m_putText) (maxL := 6) (ret := none) (by decide) rfl ?_
  intro p e s m args below meth c s₁ B hml hv0
  obtain ⟨rfl, hP, hK, hD0, hsz⟩ := hv0
  have hts := atoms_spec (ws := cd_m_putText :: WS) B.pre
  have hown : s.vm.findClass R_Model = some m.cls := findClass_of_methodNamed B.named
  have hlocks := B.notSynchronized
  subst hsz
  have hD := hD0.self (sz := s.heap.size)
  have hl := lv_entry ([.ref h, .int (nI 2)]) (n := 6) (Nat.le_of_ble_eq_true rfl)
  rw [lg_entry_eq]
  generalize (lg_sl ([.ref h, .int (nI 2)]) ++ List.replicate (6 - (lg_sl ([.ref h, .int (nI 2)])).length) Slot.unset).toArray = ls at hl ⊢
  refine bd_m_putText_2 cI cC h i0 i1 a2 a3 a4 a5 a6 a7 a8 i9 a10 a11 a12 a13 a14 a15 i16 i17 a18 i19 a20 a21 i22 a23 tx bi hi1 htx hk2 ⟨B.exec, B.bytes, hml, hown, hts⟩ (Nat.le_refl _) (Nat.le_refl _) ⟨Nat.le_refl _, Nat.le_refl _⟩ hK (fun q h => Or.inr h) (fun pc ls H locs hd hP hD hS => ?_) ls _ _ hl hP hD (va_S.rf)
  exact W.vret B.exec B.bytes B.returns (fun t ht _ => ⟨⟨(), rfl, trivial, (by have h9 := hP; rw [← ht] at h9; exact h9)⟩, hS.F ht⟩) hS.2.2 hd
end
section
variable {p : Program} {l : Launch} {e : Env} {R : Room} {s : State} {m : MethodId} {args : Array Value} {below : List Frame} {meth : Method} {c : Code} {cells slots : Nat} {Q : State → Prop} {A : Nat → Prop} {H0 : Heap} {D : va_G}
set_option maxHeartbeats 1000000 in
set_option maxRecDepth 100000 in
theorem lp_m_putText_1_183 (cI cC : ClassId) (h i0 i1 a2 a3 a4 a5 a6 a7 a8 i9 a10 a11 a12 a13 a14 a15 i16 i17 a18 i19 a20 a21 i22 a23 : Nat) (tx bi : Nat → Nat) (hi1 : i1 ≤ 45) (htx : ∀ j, j < 45 → tx j < 65536) (hk1 : ∀ j, j < i1 → 48 ≤ tx j ∧ tx j ≤ 57) (S : CallFix p m c b_m_putText 6 s args (cd_m_putText :: WS) R_Model) (hRf : 1 ≤ R.frames) (hRl : 23 ≤ R.locals) (hRc : cells ≤ R.cells ∧ slots ≤ R.slots) (hK : va_K D classes [(cI, .int), (cC, .char)] s) (hA : ∀ q, H0.size ≤ q → A q) (k mm : Nat) (bb : Nat → Nat) (x : Nat) (hx3 : x ≤ 3) (hkx : k + x ≤ i1) (kx : ∀ (ls : Array Slot) (H : Heap) (locs : List Loc), lv_has ls 6 [(0, .ref h), (1, .int (nI 1)), (2, .int (nI k)), (3, .int (nI x)), (4, .int (nI (gvL 1 tx k x))), (5, .int (nI x))] → va_P D classes [(h, .inr (8, [.int (nI i0), .int (nI i1), .ref a2, .ref a3, .ref a4, .ref a5, .ref a6, .ref a7, .ref a8, .int (nI mm), .ref a10, .ref a11, .ref a12, .ref a13, .ref a14, .ref a15, .int (nI i16), .int (nI i17), .ref a18, .int (nI i19), .ref a20, .ref a21, .int (nI i22), .ref a23])), (a2, .inl (cI, 45, .inl (fun j => nI (tx j)))), (a8, .inl (cI, 208, .inl (fun j => nI (bb j))))] H → va_D A [(h, .inr (8, [.int (nI i0), .int (nI i1), .ref a2, .ref a3, .ref a4, .ref a5, .ref a6, .ref a7, .ref a8, .int (nI mm), .ref a10, .ref a11, .ref a12, .ref a13, .ref a14, .ref a15, .int (nI i16), .int (nI i17), .ref a18, .int (nI i19), .ref a20, .ref a21, .int (nI i22), .ref a23])), (a2, .inl (cI, 45, .inl (fun j => nI (tx j)))), (a8, .inl (cI, 208, .inl (fun j => nI (bb j))))] → va_S A H0 H locs → W p l e R s m args below meth c H locs cells slots Q (F0 m 215 ls [])) :
    ∀ j, j ≤ x → ∀ (ls : Array Slot) (H : Heap) (locs : List Loc), lv_has ls 6 [(0, .ref h), (1, .int (nI 1)), (2, .int (nI k)), (3, .int (nI x)), (4, .int (nI (gvL 1 tx k j))), (5, .int (nI j))] → va_P D classes [(h, .inr (8, [.int (nI i0), .int (nI i1), .ref a2, .ref a3, .ref a4, .ref a5, .ref a6, .ref a7, .ref a8, .int (nI mm), .ref a10, .ref a11, .ref a12, .ref a13, .ref a14, .ref a15, .int (nI i16), .int (nI i17), .ref a18, .int (nI i19), .ref a20, .ref a21, .int (nI i22), .ref a23])), (a2, .inl (cI, 45, .inl (fun j => nI (tx j)))), (a8, .inl (cI, 208, .inl (fun j => nI (bb j))))] H → va_D A [(h, .inr (8, [.int (nI i0), .int (nI i1), .ref a2, .ref a3, .ref a4, .ref a5, .ref a6, .ref a7, .ref a8, .int (nI mm), .ref a10, .ref a11, .ref a12, .ref a13, .ref a14, .ref a15, .int (nI i16), .int (nI i17), .ref a18, .int (nI i19), .ref a20, .ref a21, .int (nI i22), .ref a23])), (a2, .inl (cI, 45, .inl (fun j => nI (tx j)))), (a8, .inl (cI, 208, .inl (fun j => nI (bb j))))] → va_S A H0 H locs → W p l e R s m args below meth c H locs cells slots Q (F0 m 183 ls []) := by
  obtain ⟨hx, hb, hml, hown, hts⟩ := id S
  refine up_loop (fun j hkj ih => ?_)
  intro ls H locs hl hP hD hS
  have hg9 := gvL_1 (t := tx) (k := k) j (fun i hi => hk1 (k + i) (by omega))
  have hp9 : 10 ^ j ≤ 10 ^ 3 := Nat.pow_le_pow_right (by decide) (by omega)
  refine lv_iload hx hb d_m_putText_183 (lv_at hl 5 rfl) ?_
  refine lv_iload_n hx hb d_m_putText_185 rfl (lv_at hl 3 rfl) ?_
  refine n_icmp_ge hx hb d_m_putText_186 (tgt := 215) rfl (by omega) (by omega) (fun g186 => ?_) (fun g186 => ?_)
  · skip
    obtain rfl : j = x := by omega
    exact kx ls H locs (lv_sub hl [0, 1, 2, 3, 4, 5] rfl) hP hD hS
  · skip
    refine lv_bipush (v := nI 10) hx hb d_m_putText_189 (by decide) ?_
    refine lv_iload hx hb d_m_putText_191 (lv_at hl 4 rfl) ?_
    refine n_imul hx hb d_m_putText_193 ?_
    refine lv_aload_n hx hb d_m_putText_194 rfl (lv_at hl 0 rfl) ?_
    refine n_get (C := R_Model) (T := F_Model) (N := 24) (v := .ref a2) hx hb hts u_Model_in hown hK hP 0 rfl rfl 2 (by decide) kw_778 rfl d_m_putText_195 ?_
    refine lv_iload_n hx hb d_m_putText_198 rfl (lv_at hl 2 rfl) ?_
    refine lv_iload hx hb d_m_putText_199 (lv_at hl 5 rfl) ?_
    refine n_iadd hx hb d_m_putText_201 ?_
    refine n_iald hx hb hK hP 1 0 rfl rfl (by omega) (by decide) d_m_putText_202 ?_
    have hc0 := hk1 (k + j) (by omega)
    refine n_iadd hx hb d_m_putText_203 ?_
    refine lv_bipush (v := nI 48) hx hb d_m_putText_204 (by decide) ?_
    refine n_isub hx hb d_m_putText_206 (by omega) ?_
    refine n_topn (show ((10 * (gvL 1 tx k j)) + (tx (k + j))) - 48 = gvL 1 tx k (j + 1) from (by show _ = 10 * gvL 1 tx k j + (tx (k + j) - 48); omega)) ?_
    refine lv_istore hx hb d_m_putText_207 hl (Nat.le_of_ble_eq_true rfl) rfl (fun ls hl => ?_)
    have hl : lv_has ls 6 [(4, .int (nI (gvL 1 tx k (j + 1)))), (0, .ref h), (1, .int (nI 1)), (2, .int (nI k)), (3, .int (nI x)), (5, .int (nI j))] := hl
    refine lv_iinc (k := 5) (v := nI (j + 1)) hx hb d_m_putText_209 hl rfl (nx_inc j 1) (Nat.le_of_ble_eq_true rfl) rfl (fun ls hl => ?_)
    have hl : lv_has ls 6 [(5, .int (nI (j + 1))), (4, .int (nI (gvL 1 tx k (j + 1)))), (0, .ref h), (1, .int (nI 1)), (2, .int (nI k)), (3, .int (nI x))] := hl
    refine lv_goto hx hb d_m_putText_212 (tgt := 183) rfl ?_
    exact ih (by omega) ls H locs (lv_sub hl [2, 3, 4, 5, 1, 0] rfl) hP hD hS
set_option maxHeartbeats 1000000 in
set_option maxRecDepth 100000 in
theorem lw_m_putText_1_43 (cI cC : ClassId) (h i0 i1 a2 a3 a4 a5 a6 a7 a8 i9 a10 a11 a12 a13 a14 a15 i16 i17 a18 i19 a20 a21 i22 a23 : Nat) (tx bi : Nat → Nat) (hi1 : i1 ≤ 45) (htx : ∀ j, j < 45 → tx j < 65536) (hk1 : ∀ j, j < i1 → 48 ≤ tx j ∧ tx j ≤ 57) (S : CallFix p m c b_m_putText 6 s args (cd_m_putText :: WS) R_Model) (hRf : 1 ≤ R.frames) (hRl : 23 ≤ R.locals) (hRc : cells ≤ R.cells ∧ slots ≤ R.slots) (hK : va_K D classes [(cI, .int), (cC, .char)] s) (hA : ∀ q, H0.size ≤ q → A q) :
    ∀ (n : Nat) (k : Nat) (mm : Nat) (bb : Nat → Nat), (i1 - k ≤ n) → (mm ≤ 20 + 11 * k ∧ k ≤ 47) → (∀ (ls : Array Slot) (H : Heap) (locs : List Loc), lv_has ls 6 [(0, .ref h)] → va_P D classes [(h, .inr (8, [.int (nI i0), .int (nI i1), .ref a2, .ref a3, .ref a4, .ref a5, .ref a6, .ref a7, .ref a8, .int (nI ((ptW tx i1 1 n k mm bb).1)), .ref a10, .ref a11, .ref a12, .ref a13, .ref a14, .ref a15, .int (nI i16), .int (nI i17), .ref a18, .int (nI i19), .ref a20, .ref a21, .int (nI i22), .ref a23])), (a2, .inl (cI, 45, .inl (fun j => nI (tx j)))), (a8, .inl (cI, 208, .inl (fun j => nI (((ptW tx i1 1 n k mm bb).2) j))))] H → va_D A [(h, .inr (8, [.int (nI i0), .int (nI i1), .ref a2, .ref a3, .ref a4, .ref a5, .ref a6, .ref a7, .ref a8, .int (nI ((ptW tx i1 1 n k mm bb).1)), .ref a10, .ref a11, .ref a12, .ref a13, .ref a14, .ref a15, .int (nI i16), .int (nI i17), .ref a18, .int (nI i19), .ref a20, .ref a21, .int (nI i22), .ref a23])), (a2, .inl (cI, 45, .inl (fun j => nI (tx j)))), (a8, .inl (cI, 208, .inl (fun j => nI (((ptW tx i1 1 n k mm bb).2) j))))] → va_S A H0 H locs → W p l e R s m args below meth c H locs cells slots Q (F0 m 249 ls [])) → ∀ (ls : Array Slot) (H : Heap) (locs : List Loc), lv_has ls 6 [(0, .ref h), (1, .int (nI 1)), (2, .int (nI k))] → va_P D classes [(h, .inr (8, [.int (nI i0), .int (nI i1), .ref a2, .ref a3, .ref a4, .ref a5, .ref a6, .ref a7, .ref a8, .int (nI mm), .ref a10, .ref a11, .ref a12, .ref a13, .ref a14, .ref a15, .int (nI i16), .int (nI i17), .ref a18, .int (nI i19), .ref a20, .ref a21, .int (nI i22), .ref a23])), (a2, .inl (cI, 45, .inl (fun j => nI (tx j)))), (a8, .inl (cI, 208, .inl (fun j => nI (bb j))))] H → va_D A [(h, .inr (8, [.int (nI i0), .int (nI i1), .ref a2, .ref a3, .ref a4, .ref a5, .ref a6, .ref a7, .ref a8, .int (nI mm), .ref a10, .ref a11, .ref a12, .ref a13, .ref a14, .ref a15, .int (nI i16), .int (nI i17), .ref a18, .int (nI i19), .ref a20, .ref a21, .int (nI i22), .ref a23])), (a2, .inl (cI, 45, .inl (fun j => nI (tx j)))), (a8, .inl (cI, 208, .inl (fun j => nI (bb j))))] → va_S A H0 H locs → W p l e R s m args below meth c H locs cells slots Q (F0 m 43 ls []) := by
  obtain ⟨hx, hb, hml, hown, hts⟩ := id S
  refine fuel_ind (fun n ih => ?_)
  intro k mm bb hkn hmm kx ls H locs hl hP hD hS
  refine lv_iload_n hx hb d_m_putText_43 rfl (lv_at hl 2 rfl) ?_
  refine lv_aload_n hx hb d_m_putText_44 rfl (lv_at hl 0 rfl) ?_
  refine n_get (C := R_Model) (T := F_Model) (N := 24) (v := .int (nI i1)) hx hb hts u_Model_in hown hK hP 0 rfl rfl 1 (by decide) kw_777 rfl d_m_putText_45 ?_
  refine n_icmp_ge hx hb d_m_putText_48 (tgt := 249) rfl (by omega) (by omega) (fun g48 => ?_) (fun g48 => ?_)
  · skip
    rw [ptW_z (by omega)] at kx
    exact kx ls H locs (lv_sub hl [0] rfl) hP hD hS
  · skip
    refine lv_iload_n hx hb d_m_putText_51 rfl (lv_at hl 1 rfl) ?_
    refine lv_iconst (v := nI 4) hx hb d_m_putText_52 (by decide) ?_
    refine n_icmp_ne hx hb d_m_putText_53 (tgt := 74) rfl (by omega) (by omega) (fun g53 => ?_) (fun g53 => absurd g53 (by decide))
    refine lv_iload_n hx hb d_m_putText_74 rfl (lv_at hl 1 rfl) ?_
    refine lv_iconst (v := nI 2) hx hb d_m_putText_75 (by decide) ?_
    refine n_icmp_ne hx hb d_m_putText_76 (tgt := 156) rfl (by omega) (by omega) (fun g76 => ?_) (fun g76 => absurd g76 (by decide))
    refine lv_aload_n hx hb d_m_putText_156 rfl (lv_at hl 0 rfl) ?_
    refine n_get (C := R_Model) (T := F_Model) (N := 24) (v := .int (nI i1)) hx hb hts u_Model_in hown hK hP 0 rfl rfl 1 (by decide) kw_777 rfl d_m_putText_157 ?_
    refine lv_iload_n hx hb d_m_putText_160 rfl (lv_at hl 2 rfl) ?_
    refine n_isub hx hb d_m_putText_161 (by omega) ?_
    refine lv_iconst (v := nI 3) hx hb d_m_putText_162 (by decide) ?_
    refine n_icmp_ge hx hb d_m_putText_163 (tgt := 175) rfl (by omega) (by omega) (fun g163 => ?_) (fun g163 => ?_)
    · skip
      refine lv_iconst (v := nI 3) hx hb d_m_putText_175 (by decide) ?_
      refine lv_istore_n hx hb d_m_putText_176 rfl hl (Nat.le_of_ble_eq_true rfl) rfl (fun ls hl => ?_)
      have hl : lv_has ls 6 [(3, .int (nI 3)), (0, .ref h), (1, .int (nI 1)), (2, .int (nI k))] := hl
      refine lv_iconst (v := nI 0) hx hb d_m_putText_177 (by decide) ?_
      refine lv_istore hx hb d_m_putText_178 hl (Nat.le_of_ble_eq_true rfl) rfl (fun ls hl => ?_)
      have hl : lv_has ls 6 [(4, .int (nI 0)), (3, .int (nI 3)), (0, .ref h), (1, .int (nI 1)), (2, .int (nI k))] := hl
      refine lv_iconst (v := nI 0) hx hb d_m_putText_180 (by decide) ?_
      refine lv_istore hx hb d_m_putText_181 hl (Nat.le_of_ble_eq_true rfl) rfl (fun ls hl => ?_)
      have hl : lv_has ls 6 [(5, .int (nI 0)), (4, .int (nI 0)), (3, .int (nI 3)), (0, .ref h), (1, .int (nI 1)), (2, .int (nI k))] := hl
      refine lp_m_putText_1_183 cI cC h i0 i1 a2 a3 a4 a5 a6 a7 a8 i9 a10 a11 a12 a13 a14 a15 i16 i17 a18 i19 a20 a21 i22 a23 tx bi hi1 htx hk1 S hRf hRl hRc hK hA k mm bb 3 (by omega) (by omega) (fun ls H locs hl hP hD hS => ?_) 0 (by omega) ls H locs (lv_sub hl [3, 4, 5, 2, 1, 0] rfl) hP hD hS
      have hg9 := gvL_1 (t := tx) (k := k) 3 (fun i hi => hk1 (k + i) (by omega))
      have hp9 : 10 ^ 3 ≤ 10 ^ 3 := Nat.pow_le_pow_right (by decide) (by omega)
      refine lv_aload_n hx hb d_m_putText_215 rfl (lv_at hl 0 rfl) ?_
      refine lv_iload hx hb d_m_putText_216 (lv_at hl 4 rfl) ?_
      refine lv_iload_n hx hb d_m_putText_218 rfl (lv_at hl 3 rfl) ?_
      refine lv_iconst (v := nI 3) hx hb d_m_putText_219 (by decide) ?_
      refine n_icmp_ne hx hb d_m_putText_220 (tgt := 228) rfl (by omega) (by omega) (fun g220 => absurd g220 (by decide)) (fun g220 => ?_)
      refine lv_bipush (v := nI 10) hx hb d_m_putText_223 (by decide) ?_
      refine lv_goto hx hb d_m_putText_225 (tgt := 239) rfl ?_
      refine q_writeVv (n := 2) (As := [.int (nI (gvL 1 tx k 3)), .int (nI 10)]) (rest := []) (wc := [(h, .inr (8, [.int (nI i0), .int (nI i1), .ref a2, .ref a3, .ref a4, .ref a5, .ref a6, .ref a7, .ref a8, .int (nI mm), .ref a10, .ref a11, .ref a12, .ref a13, .ref a14, .ref a15, .int (nI i16), .int (nI i17), .ref a18, .int (nI i19), .ref a20, .ref a21, .int (nI i22), .ref a23])), (a8, .inl (cI, 208, .inl (fun j => nI (bb j))))]) (wr := [(a2, .inl (cI, 45, .inl (fun j => nI (tx j))))]) (w1 := [(h, .inr (8, [.int (nI i0), .int (nI i1), .ref a2, .ref a3, .ref a4, .ref a5, .ref a6, .ref a7, .ref a8, .int (nI (mm + 10)), .ref a10, .ref a11, .ref a12, .ref a13, .ref a14, .ref a15, .int (nI i16), .int (nI i17), .ref a18, .int (nI i19), .ref a20, .ref a21, .int (nI i22), .ref a23])), (a8, .inl (cI, 208, .inl (fun j => nI ((ptL bb mm (gvL 1 tx k 3) 10 10) j))))]) S (c_m_put l D cI cC h i0 i1 a2 a3 a4 a5 a6 a7 a8 mm a10 a11 a12 a13 a14 a15 i16 i17 a18 i19 a20 a21 i22 a23 bb (gvL 1 tx k 3) 10 (by omega) (by decide) (by omega) H.size) hK hP hD hA (q0 := 0) rfl rfl [0, 2] [1] rfl rfl rfl rfl (by decide) rfl (q_goodV kw_879 kw_881 ks_23 kw_10 kw_882) (by decide +kernel) rfl rfl rfl ⟨Nat.le_trans (Nat.le_of_ble_eq_true rfl) hRf, Nat.le_trans (Nat.le_of_ble_eq_true rfl) hRl⟩ rfl hl.1 rfl (Nat.le_of_ble_eq_true rfl) d_m_putText_239 hRc hS (fun H locs hP hD hS => ?_)
      replace hP : va_P D classes [(h, .inr (8, [.int (nI i0), .int (nI i1), .ref a2, .ref a3, .ref a4, .ref a5, .ref a6, .ref a7, .ref a8, .int (nI (mm + 10)), .ref a10, .ref a11, .ref a12, .ref a13, .ref a14, .ref a15, .int (nI i16), .int (nI i17), .ref a18, .int (nI i19), .ref a20, .ref a21, .int (nI i22), .ref a23])), (a2, .inl (cI, 45, .inl (fun j => nI (tx j)))), (a8, .inl (cI, 208, .inl (fun j => nI ((ptL bb mm (gvL 1 tx k 3) 10 10) j))))] H := hP.sub [1, 0, 2] rfl
      replace hD : va_D A [(h, .inr (8, [.int (nI i0), .int (nI i1), .ref a2, .ref a3, .ref a4, .ref a5, .ref a6, .ref a7, .ref a8, .int (nI (mm + 10)), .ref a10, .ref a11, .ref a12, .ref a13, .ref a14, .ref a15, .int (nI i16), .int (nI i17), .ref a18, .int (nI i19), .ref a20, .ref a21, .int (nI i22), .ref a23])), (a2, .inl (cI, 45, .inl (fun j => nI (tx j)))), (a8, .inl (cI, 208, .inl (fun j => nI ((ptL bb mm (gvL 1 tx k 3) 10 10) j))))] := hD.sub [1, 0, 2] rfl rfl
      refine lv_iload_n hx hb d_m_putText_242 rfl (lv_at hl 2 rfl) ?_
      refine lv_iload_n hx hb d_m_putText_243 rfl (lv_at hl 3 rfl) ?_
      refine n_iadd hx hb d_m_putText_244 ?_
      refine lv_istore_n hx hb d_m_putText_245 rfl hl (Nat.le_of_ble_eq_true rfl) rfl (fun ls hl => ?_)
      have hl : lv_has ls 6 [(2, .int (nI (k + 3))), (0, .ref h), (1, .int (nI 1)), (3, .int (nI 3)), (4, .int (nI (gvL 1 tx k 3))), (5, .int (nI 3))] := hl
      refine lv_goto hx hb d_m_putText_246 (tgt := 43) rfl ?_
      obtain ⟨m9, rfl⟩ : ∃ m9, n = m9 + 1 := ⟨n - 1, by omega⟩
      rw [ptW_s (x := 3) (z := 10) (v := (gvL 1 tx k 3)) (y := k + 3) (by omega) (by show min (i1 - k) 3 = _; omega) (by first | rfl | (show (if _ = 3 then 10 else if _ = 2 then 7 else 4) = _; (repeat' split) <;> omega)) rfl (by omega)] at kx
      exact ih _ rfl (k + 3) (mm + 10) (ptL bb mm (gvL 1 tx k 3) 10 10) (by omega) (by omega) kx ls H locs (lv_sub hl [1, 2, 0] rfl) hP hD hS
    · skip
      refine lv_aload_n hx hb d_m_putText_166 rfl (lv_at hl 0 rfl) ?_
      refine n_get (C := R_Model) (T := F_Model) (N := 24) (v := .int (nI i1)) hx hb hts u_Model_in hown hK hP 0 rfl rfl 1 (by decide) kw_777 rfl d_m_putText_167 ?_
      refine lv_iload_n hx hb d_m_putText_170 rfl (lv_at hl 2 rfl) ?_
      refine n_isub hx hb d_m_putText_171 (by omega) ?_
      refine lv_goto hx hb d_m_putText_172 (tgt := 176) rfl ?_
      refine lv_istore_n hx hb d_m_putText_176 rfl hl (Nat.le_of_ble_eq_true rfl) rfl (fun ls hl => ?_)
      have hl : lv_has ls 6 [(3, .int (nI (i1 - k))), (0, .ref h), (1, .int (nI 1)), (2, .int (nI k))] := hl
      refine lv_iconst (v := nI 0) hx hb d_m_putText_177 (by decide) ?_
      refine lv_istore hx hb d_m_putText_178 hl (Nat.le_of_ble_eq_true rfl) rfl (fun ls hl => ?_)
      have hl : lv_has ls 6 [(4, .int (nI 0)), (3, .int (nI (i1 - k))), (0, .ref h), (1, .int (nI 1)), (2, .int (nI k))] := hl
      refine lv_iconst (v := nI 0) hx hb d_m_putText_180 (by decide) ?_
      refine lv_istore hx hb d_m_putText_181 hl (Nat.le_of_ble_eq_true rfl) rfl (fun ls hl => ?_)
      have hl : lv_has ls 6 [(5, .int (nI 0)), (4, .int (nI 0)), (3, .int (nI (i1 - k))), (0, .ref h), (1, .int (nI 1)), (2, .int (nI k))] := hl
      refine lp_m_putText_1_183 cI cC h i0 i1 a2 a3 a4 a5 a6 a7 a8 i9 a10 a11 a12 a13 a14 a15 i16 i17 a18 i19 a20 a21 i22 a23 tx bi hi1 htx hk1 S hRf hRl hRc hK hA k mm bb (i1 - k) (by omega) (by omega) (fun ls H locs hl hP hD hS => ?_) 0 (by omega) ls H locs (lv_sub hl [3, 4, 5, 2, 1, 0] rfl) hP hD hS
      have hg9 := gvL_1 (t := tx) (k := k) (i1 - k) (fun i hi => hk1 (k + i) (by omega))
      have hp9 : 10 ^ (i1 - k) ≤ 10 ^ 3 := Nat.pow_le_pow_right (by decide) (by omega)
      refine lv_aload_n hx hb d_m_putText_215 rfl (lv_at hl 0 rfl) ?_
      refine lv_iload hx hb d_m_putText_216 (lv_at hl 4 rfl) ?_
      refine lv_iload_n hx hb d_m_putText_218 rfl (lv_at hl 3 rfl) ?_
      refine lv_iconst (v := nI 3) hx hb d_m_putText_219 (by decide) ?_
      refine n_icmp_ne hx hb d_m_putText_220 (tgt := 228) rfl (by omega) (by omega) (fun g220 => ?_) (fun g220 => ?_)
      · skip
        refine lv_iload_n hx hb d_m_putText_228 rfl (lv_at hl 3 rfl) ?_
        refine lv_iconst (v := nI 2) hx hb d_m_putText_229 (by decide) ?_
        refine n_icmp_ne hx hb d_m_putText_230 (tgt := 238) rfl (by omega) (by omega) (fun g230 => ?_) (fun g230 => ?_)
        · skip
          refine lv_iconst (v := nI 4) hx hb d_m_putText_238 (by decide) ?_
          refine q_writeVv (n := 2) (As := [.int (nI (gvL 1 tx k (i1 - k))), .int (nI 4)]) (rest := []) (wc := [(h, .inr (8, [.int (nI i0), .int (nI i1), .ref a2, .ref a3, .ref a4, .ref a5, .ref a6, .ref a7, .ref a8, .int (nI mm), .ref a10, .ref a11, .ref a12, .ref a13, .ref a14, .ref a15, .int (nI i16), .int (nI i17), .ref a18, .int (nI i19), .ref a20, .ref a21, .int (nI i22), .ref a23])), (a8, .inl (cI, 208, .inl (fun j => nI (bb j))))]) (wr := [(a2, .inl (cI, 45, .inl (fun j => nI (tx j))))]) (w1 := [(h, .inr (8, [.int (nI i0), .int (nI i1), .ref a2, .ref a3, .ref a4, .ref a5, .ref a6, .ref a7, .ref a8, .int (nI (mm + 4)), .ref a10, .ref a11, .ref a12, .ref a13, .ref a14, .ref a15, .int (nI i16), .int (nI i17), .ref a18, .int (nI i19), .ref a20, .ref a21, .int (nI i22), .ref a23])), (a8, .inl (cI, 208, .inl (fun j => nI ((ptL bb mm (gvL 1 tx k (i1 - k)) 4 4) j))))]) S (c_m_put l D cI cC h i0 i1 a2 a3 a4 a5 a6 a7 a8 mm a10 a11 a12 a13 a14 a15 i16 i17 a18 i19 a20 a21 i22 a23 bb (gvL 1 tx k (i1 - k)) 4 (by omega) (by decide) (by omega) H.size) hK hP hD hA (q0 := 0) rfl rfl [0, 2] [1] rfl rfl rfl rfl (by decide) rfl (q_goodV kw_879 kw_881 ks_23 kw_10 kw_882) (by decide +kernel) rfl rfl rfl ⟨Nat.le_trans (Nat.le_of_ble_eq_true rfl) hRf, Nat.le_trans (Nat.le_of_ble_eq_true rfl) hRl⟩ rfl hl.1 rfl (Nat.le_of_ble_eq_true rfl) d_m_putText_239 hRc hS (fun H locs hP hD hS => ?_)
          replace hP : va_P D classes [(h, .inr (8, [.int (nI i0), .int (nI i1), .ref a2, .ref a3, .ref a4, .ref a5, .ref a6, .ref a7, .ref a8, .int (nI (mm + 4)), .ref a10, .ref a11, .ref a12, .ref a13, .ref a14, .ref a15, .int (nI i16), .int (nI i17), .ref a18, .int (nI i19), .ref a20, .ref a21, .int (nI i22), .ref a23])), (a2, .inl (cI, 45, .inl (fun j => nI (tx j)))), (a8, .inl (cI, 208, .inl (fun j => nI ((ptL bb mm (gvL 1 tx k (i1 - k)) 4 4) j))))] H := hP.sub [1, 0, 2] rfl
          replace hD : va_D A [(h, .inr (8, [.int (nI i0), .int (nI i1), .ref a2, .ref a3, .ref a4, .ref a5, .ref a6, .ref a7, .ref a8, .int (nI (mm + 4)), .ref a10, .ref a11, .ref a12, .ref a13, .ref a14, .ref a15, .int (nI i16), .int (nI i17), .ref a18, .int (nI i19), .ref a20, .ref a21, .int (nI i22), .ref a23])), (a2, .inl (cI, 45, .inl (fun j => nI (tx j)))), (a8, .inl (cI, 208, .inl (fun j => nI ((ptL bb mm (gvL 1 tx k (i1 - k)) 4 4) j))))] := hD.sub [1, 0, 2] rfl rfl
          refine lv_iload_n hx hb d_m_putText_242 rfl (lv_at hl 2 rfl) ?_
          refine lv_iload_n hx hb d_m_putText_243 rfl (lv_at hl 3 rfl) ?_
          refine n_iadd hx hb d_m_putText_244 ?_
          refine lv_istore_n hx hb d_m_putText_245 rfl hl (Nat.le_of_ble_eq_true rfl) rfl (fun ls hl => ?_)
          have hl : lv_has ls 6 [(2, .int (nI (k + (i1 - k)))), (0, .ref h), (1, .int (nI 1)), (3, .int (nI (i1 - k))), (4, .int (nI (gvL 1 tx k (i1 - k)))), (5, .int (nI (i1 - k)))] := hl
          refine lv_goto hx hb d_m_putText_246 (tgt := 43) rfl ?_
          obtain ⟨m9, rfl⟩ : ∃ m9, n = m9 + 1 := ⟨n - 1, by omega⟩
          rw [ptW_s (x := (i1 - k)) (z := 4) (v := (gvL 1 tx k (i1 - k))) (y := k + (i1 - k)) (by omega) (by show min (i1 - k) 3 = _; omega) (by first | rfl | (show (if _ = 3 then 10 else if _ = 2 then 7 else 4) = _; (repeat' split) <;> omega)) rfl (by omega)] at kx
          exact ih _ rfl (k + (i1 - k)) (mm + 4) (ptL bb mm (gvL 1 tx k (i1 - k)) 4 4) (by omega) (by omega) kx ls H locs (lv_sub hl [1, 2, 0] rfl) hP hD hS
        · skip
          refine lv_bipush (v := nI 7) hx hb d_m_putText_233 (by decide) ?_
          refine lv_goto hx hb d_m_putText_235 (tgt := 239) rfl ?_
          refine q_writeVv (n := 2) (As := [.int (nI (gvL 1 tx k (i1 - k))), .int (nI 7)]) (rest := []) (wc := [(h, .inr (8, [.int (nI i0), .int (nI i1), .ref a2, .ref a3, .ref a4, .ref a5, .ref a6, .ref a7, .ref a8, .int (nI mm), .ref a10, .ref a11, .ref a12, .ref a13, .ref a14, .ref a15, .int (nI i16), .int (nI i17), .ref a18, .int (nI i19), .ref a20, .ref a21, .int (nI i22), .ref a23])), (a8, .inl (cI, 208, .inl (fun j => nI (bb j))))]) (wr := [(a2, .inl (cI, 45, .inl (fun j => nI (tx j))))]) (w1 := [(h, .inr (8, [.int (nI i0), .int (nI i1), .ref a2, .ref a3, .ref a4, .ref a5, .ref a6, .ref a7, .ref a8, .int (nI (mm + 7)), .ref a10, .ref a11, .ref a12, .ref a13, .ref a14, .ref a15, .int (nI i16), .int (nI i17), .ref a18, .int (nI i19), .ref a20, .ref a21, .int (nI i22), .ref a23])), (a8, .inl (cI, 208, .inl (fun j => nI ((ptL bb mm (gvL 1 tx k (i1 - k)) 7 7) j))))]) S (c_m_put l D cI cC h i0 i1 a2 a3 a4 a5 a6 a7 a8 mm a10 a11 a12 a13 a14 a15 i16 i17 a18 i19 a20 a21 i22 a23 bb (gvL 1 tx k (i1 - k)) 7 (by omega) (by decide) (by omega) H.size) hK hP hD hA (q0 := 0) rfl rfl [0, 2] [1] rfl rfl rfl rfl (by decide) rfl (q_goodV kw_879 kw_881 ks_23 kw_10 kw_882) (by decide +kernel) rfl rfl rfl ⟨Nat.le_trans (Nat.le_of_ble_eq_true rfl) hRf, Nat.le_trans (Nat.le_of_ble_eq_true rfl) hRl⟩ rfl hl.1 rfl (Nat.le_of_ble_eq_true rfl) d_m_putText_239 hRc hS (fun H locs hP hD hS => ?_)
          replace hP : va_P D classes [(h, .inr (8, [.int (nI i0), .int (nI i1), .ref a2, .ref a3, .ref a4, .ref a5, .ref a6, .ref a7, .ref a8, .int (nI (mm + 7)), .ref a10, .ref a11, .ref a12, .ref a13, .ref a14, .ref a15, .int (nI i16), .int (nI i17), .ref a18, .int (nI i19), .ref a20, .ref a21, .int (nI i22), .ref a23])), (a2, .inl (cI, 45, .inl (fun j => nI (tx j)))), (a8, .inl (cI, 208, .inl (fun j => nI ((ptL bb mm (gvL 1 tx k (i1 - k)) 7 7) j))))] H := hP.sub [1, 0, 2] rfl
          replace hD : va_D A [(h, .inr (8, [.int (nI i0), .int (nI i1), .ref a2, .ref a3, .ref a4, .ref a5, .ref a6, .ref a7, .ref a8, .int (nI (mm + 7)), .ref a10, .ref a11, .ref a12, .ref a13, .ref a14, .ref a15, .int (nI i16), .int (nI i17), .ref a18, .int (nI i19), .ref a20, .ref a21, .int (nI i22), .ref a23])), (a2, .inl (cI, 45, .inl (fun j => nI (tx j)))), (a8, .inl (cI, 208, .inl (fun j => nI ((ptL bb mm (gvL 1 tx k (i1 - k)) 7 7) j))))] := hD.sub [1, 0, 2] rfl rfl
          refine lv_iload_n hx hb d_m_putText_242 rfl (lv_at hl 2 rfl) ?_
          refine lv_iload_n hx hb d_m_putText_243 rfl (lv_at hl 3 rfl) ?_
          refine n_iadd hx hb d_m_putText_244 ?_
          refine lv_istore_n hx hb d_m_putText_245 rfl hl (Nat.le_of_ble_eq_true rfl) rfl (fun ls hl => ?_)
          have hl : lv_has ls 6 [(2, .int (nI (k + (i1 - k)))), (0, .ref h), (1, .int (nI 1)), (3, .int (nI (i1 - k))), (4, .int (nI (gvL 1 tx k (i1 - k)))), (5, .int (nI (i1 - k)))] := hl
          refine lv_goto hx hb d_m_putText_246 (tgt := 43) rfl ?_
          obtain ⟨m9, rfl⟩ : ∃ m9, n = m9 + 1 := ⟨n - 1, by omega⟩
          rw [ptW_s (x := (i1 - k)) (z := 7) (v := (gvL 1 tx k (i1 - k))) (y := k + (i1 - k)) (by omega) (by show min (i1 - k) 3 = _; omega) (by first | rfl | (show (if _ = 3 then 10 else if _ = 2 then 7 else 4) = _; (repeat' split) <;> omega)) rfl (by omega)] at kx
          exact ih _ rfl (k + (i1 - k)) (mm + 7) (ptL bb mm (gvL 1 tx k (i1 - k)) 7 7) (by omega) (by omega) kx ls H locs (lv_sub hl [1, 2, 0] rfl) hP hD hS
      · skip
        refine lv_bipush (v := nI 10) hx hb d_m_putText_223 (by decide) ?_
        refine lv_goto hx hb d_m_putText_225 (tgt := 239) rfl ?_
        refine q_writeVv (n := 2) (As := [.int (nI (gvL 1 tx k (i1 - k))), .int (nI 10)]) (rest := []) (wc := [(h, .inr (8, [.int (nI i0), .int (nI i1), .ref a2, .ref a3, .ref a4, .ref a5, .ref a6, .ref a7, .ref a8, .int (nI mm), .ref a10, .ref a11, .ref a12, .ref a13, .ref a14, .ref a15, .int (nI i16), .int (nI i17), .ref a18, .int (nI i19), .ref a20, .ref a21, .int (nI i22), .ref a23])), (a8, .inl (cI, 208, .inl (fun j => nI (bb j))))]) (wr := [(a2, .inl (cI, 45, .inl (fun j => nI (tx j))))]) (w1 := [(h, .inr (8, [.int (nI i0), .int (nI i1), .ref a2, .ref a3, .ref a4, .ref a5, .ref a6, .ref a7, .ref a8, .int (nI (mm + 10)), .ref a10, .ref a11, .ref a12, .ref a13, .ref a14, .ref a15, .int (nI i16), .int (nI i17), .ref a18, .int (nI i19), .ref a20, .ref a21, .int (nI i22), .ref a23])), (a8, .inl (cI, 208, .inl (fun j => nI ((ptL bb mm (gvL 1 tx k (i1 - k)) 10 10) j))))]) S (c_m_put l D cI cC h i0 i1 a2 a3 a4 a5 a6 a7 a8 mm a10 a11 a12 a13 a14 a15 i16 i17 a18 i19 a20 a21 i22 a23 bb (gvL 1 tx k (i1 - k)) 10 (by omega) (by decide) (by omega) H.size) hK hP hD hA (q0 := 0) rfl rfl [0, 2] [1] rfl rfl rfl rfl (by decide) rfl (q_goodV kw_879 kw_881 ks_23 kw_10 kw_882) (by decide +kernel) rfl rfl rfl ⟨Nat.le_trans (Nat.le_of_ble_eq_true rfl) hRf, Nat.le_trans (Nat.le_of_ble_eq_true rfl) hRl⟩ rfl hl.1 rfl (Nat.le_of_ble_eq_true rfl) d_m_putText_239 hRc hS (fun H locs hP hD hS => ?_)
        replace hP : va_P D classes [(h, .inr (8, [.int (nI i0), .int (nI i1), .ref a2, .ref a3, .ref a4, .ref a5, .ref a6, .ref a7, .ref a8, .int (nI (mm + 10)), .ref a10, .ref a11, .ref a12, .ref a13, .ref a14, .ref a15, .int (nI i16), .int (nI i17), .ref a18, .int (nI i19), .ref a20, .ref a21, .int (nI i22), .ref a23])), (a2, .inl (cI, 45, .inl (fun j => nI (tx j)))), (a8, .inl (cI, 208, .inl (fun j => nI ((ptL bb mm (gvL 1 tx k (i1 - k)) 10 10) j))))] H := hP.sub [1, 0, 2] rfl
        replace hD : va_D A [(h, .inr (8, [.int (nI i0), .int (nI i1), .ref a2, .ref a3, .ref a4, .ref a5, .ref a6, .ref a7, .ref a8, .int (nI (mm + 10)), .ref a10, .ref a11, .ref a12, .ref a13, .ref a14, .ref a15, .int (nI i16), .int (nI i17), .ref a18, .int (nI i19), .ref a20, .ref a21, .int (nI i22), .ref a23])), (a2, .inl (cI, 45, .inl (fun j => nI (tx j)))), (a8, .inl (cI, 208, .inl (fun j => nI ((ptL bb mm (gvL 1 tx k (i1 - k)) 10 10) j))))] := hD.sub [1, 0, 2] rfl rfl
        refine lv_iload_n hx hb d_m_putText_242 rfl (lv_at hl 2 rfl) ?_
        refine lv_iload_n hx hb d_m_putText_243 rfl (lv_at hl 3 rfl) ?_
        refine n_iadd hx hb d_m_putText_244 ?_
        refine lv_istore_n hx hb d_m_putText_245 rfl hl (Nat.le_of_ble_eq_true rfl) rfl (fun ls hl => ?_)
        have hl : lv_has ls 6 [(2, .int (nI (k + (i1 - k)))), (0, .ref h), (1, .int (nI 1)), (3, .int (nI (i1 - k))), (4, .int (nI (gvL 1 tx k (i1 - k)))), (5, .int (nI (i1 - k)))] := hl
        refine lv_goto hx hb d_m_putText_246 (tgt := 43) rfl ?_
        obtain ⟨m9, rfl⟩ : ∃ m9, n = m9 + 1 := ⟨n - 1, by omega⟩
        rw [ptW_s (x := (i1 - k)) (z := 10) (v := (gvL 1 tx k (i1 - k))) (y := k + (i1 - k)) (by omega) (by show min (i1 - k) 3 = _; omega) (by first | rfl | (show (if _ = 3 then 10 else if _ = 2 then 7 else 4) = _; (repeat' split) <;> omega)) rfl (by omega)] at kx
        exact ih _ rfl (k + (i1 - k)) (mm + 10) (ptL bb mm (gvL 1 tx k (i1 - k)) 10 10) (by omega) (by omega) kx ls H locs (lv_sub hl [1, 2, 0] rfl) hP hD hS
set_option maxHeartbeats 1000000 in
set_option maxRecDepth 100000 in
theorem bd_m_putText_1 (cI cC : ClassId) (h i0 i1 a2 a3 a4 a5 a6 a7 a8 i9 a10 a11 a12 a13 a14 a15 i16 i17 a18 i19 a20 a21 i22 a23 : Nat) (tx bi : Nat → Nat) (hi1 : i1 ≤ 45) (htx : ∀ j, j < 45 → tx j < 65536) (hk1 : ∀ j, j < i1 → 48 ≤ tx j ∧ tx j ≤ 57) (S : CallFix p m c b_m_putText 6 s args (cd_m_putText :: WS) R_Model) (hRf : 1 ≤ R.frames) (hRl : 23 ≤ R.locals) (hRc : cells ≤ R.cells ∧ slots ≤ R.slots) (hK : va_K D classes [(cI, .int), (cC, .char)] s) (hA : ∀ q, H0.size ≤ q → A q) (kr : ∀ (pc : Nat) (ls : Array Slot) (H : Heap) (locs : List Loc), decode b_m_putText pc = .ok (.return_, 1) → va_P D classes [(h, .inr (8, [.int (nI i0), .int (nI i1), .ref a2, .ref a3, .ref a4, .ref a5, .ref a6, .ref a7, .ref a8, .int (nI ((pxR 1 tx i1 bi).1)), .ref a10, .ref a11, .ref a12, .ref a13, .ref a14, .ref a15, .int (nI i16), .int (nI i17), .ref a18, .int (nI i19), .ref a20, .ref a21, .int (nI i22), .ref a23])), (a2, .inl (cI, 45, .inl (fun j => nI (tx j)))), (a8, .inl (cI, 208, .inl (fun j => nI (((pxR 1 tx i1 bi).2) j))))] H → va_D A [(h, .inr (8, [.int (nI i0), .int (nI i1), .ref a2, .ref a3, .ref a4, .ref a5, .ref a6, .ref a7, .ref a8, .int (nI ((pxR 1 tx i1 bi).1)), .ref a10, .ref a11, .ref a12, .ref a13, .ref a14, .ref a15, .int (nI i16), .int (nI i17), .ref a18, .int (nI i19), .ref a20, .ref a21, .int (nI i22), .ref a23])), (a2, .inl (cI, 45, .inl (fun j => nI (tx j)))), (a8, .inl (cI, 208, .inl (fun j => nI (((pxR 1 tx i1 bi).2) j))))] → va_S A H0 H locs → W p l e R s m args below meth c H locs cells slots Q (F0 m pc ls [])) : ∀ (ls : Array Slot) (H : Heap) (locs : List Loc), lv_has ls 6 [(0, .ref h), (1, .int (nI 1))] → va_P D classes [(h, .inr (8, [.int (nI i0), .int (nI i1), .ref a2, .ref a3, .ref a4, .ref a5, .ref a6, .ref a7, .ref a8, .int (nI i9), .ref a10, .ref a11, .ref a12, .ref a13, .ref a14, .ref a15, .int (nI i16), .int (nI i17), .ref a18, .int (nI i19), .ref a20, .ref a21, .int (nI i22), .ref a23])), (a2, .inl (cI, 45, .inl (fun j => nI (tx j)))), (a8, .inl (cI, 208, .inl (fun j => nI (bi j))))] H → va_D A [(h, .inr (8, [.int (nI i0), .int (nI i1), .ref a2, .ref a3, .ref a4, .ref a5, .ref a6, .ref a7, .ref a8, .int (nI i9), .ref a10, .ref a11, .ref a12, .ref a13, .ref a14, .ref a15, .int (nI i16), .int (nI i17), .ref a18, .int (nI i19), .ref a20, .ref a21, .int (nI i22), .ref a23])), (a2, .inl (cI, 45, .inl (fun j => nI (tx j)))), (a8, .inl (cI, 208, .inl (fun j => nI (bi j))))] → va_S A H0 H locs → W p l e R s m args below meth c H locs cells slots Q (F0 m 0 ls []) := by
  obtain ⟨hx, hb, hml, hown, hts⟩ := id S
  intro ls H locs hl hP hD hS
  refine lv_aload_n hx hb d_m_putText_0 rfl (lv_at hl 0 rfl) ?_
  refine lv_iconst (v := nI 0) hx hb d_m_putText_1 (by decide) ?_
  refine n_put (C := R_Model) (T := F_Model) (N := 24) (v := .int (nI 0)) hx hb hts u_Model_in t_Model t_Model_ok n_Model hown hK hP hD hS 0 rfl rfl 9 (by decide) kw_785 rfl rfl rfl (Nat.le_of_ble_eq_true rfl) d_m_putText_2 (fun H locs hP hD hS => ?_)
  have hP : va_P D classes [(h, .inr (8, [.int (nI i0), .int (nI i1), .ref a2, .ref a3, .ref a4, .ref a5, .ref a6, .ref a7, .ref a8, .int (nI 0), .ref a10, .ref a11, .ref a12, .ref a13, .ref a14, .ref a15, .int (nI i16), .int (nI i17), .ref a18, .int (nI i19), .ref a20, .ref a21, .int (nI i22), .ref a23])), (a2, .inl (cI, 45, .inl (fun j => nI (tx j)))), (a8, .inl (cI, 208, .inl (fun j => nI (bi j))))] H := hP
  have hD : va_D A [(h, .inr (8, [.int (nI i0), .int (nI i1), .ref a2, .ref a3, .ref a4, .ref a5, .ref a6, .ref a7, .ref a8, .int (nI 0), .ref a10, .ref a11, .ref a12, .ref a13, .ref a14, .ref a15, .int (nI i16), .int (nI i17), .ref a18, .int (nI i19), .ref a20, .ref a21, .int (nI i22), .ref a23])), (a2, .inl (cI, 45, .inl (fun j => nI (tx j)))), (a8, .inl (cI, 208, .inl (fun j => nI (bi j))))] := hD
  refine lv_aload_n hx hb d_m_putText_5 rfl (lv_at hl 0 rfl) ?_
  refine lv_iload_n hx hb d_m_putText_6 rfl (lv_at hl 1 rfl) ?_
  refine lv_iconst (v := nI 4) hx hb d_m_putText_7 (by decide) ?_
  refine q_writeVv (n := 2) (As := [.int (nI 1), .int (nI 4)]) (rest := []) (wc := [(h, .inr (8, [.int (nI i0), .int (nI i1), .ref a2, .ref a3, .ref a4, .ref a5, .ref a6, .ref a7, .ref a8, .int (nI 0), .ref a10, .ref a11, .ref a12, .ref a13, .ref a14, .ref a15, .int (nI i16), .int (nI i17), .ref a18, .int (nI i19), .ref a20, .ref a21, .int (nI i22), .ref a23])), (a8, .inl (cI, 208, .inl (fun j => nI (bi j))))]) (wr := [(a2, .inl (cI, 45, .inl (fun j => nI (tx j))))]) (w1 := [(h, .inr (8, [.int (nI i0), .int (nI i1), .ref a2, .ref a3, .ref a4, .ref a5, .ref a6, .ref a7, .ref a8, .int (nI (0 + 4)), .ref a10, .ref a11, .ref a12, .ref a13, .ref a14, .ref a15, .int (nI i16), .int (nI i17), .ref a18, .int (nI i19), .ref a20, .ref a21, .int (nI i22), .ref a23])), (a8, .inl (cI, 208, .inl (fun j => nI ((ptL bi 0 1 4 4) j))))]) S (c_m_put l D cI cC h i0 i1 a2 a3 a4 a5 a6 a7 a8 0 a10 a11 a12 a13 a14 a15 i16 i17 a18 i19 a20 a21 i22 a23 bi 1 4 (by decide) (by decide) (by decide) H.size) hK hP hD hA (q0 := 0) rfl rfl [0, 2] [1] rfl rfl rfl rfl (by decide) rfl (q_goodV kw_879 kw_881 ks_23 kw_10 kw_882) (by decide +kernel) rfl rfl rfl ⟨Nat.le_trans (Nat.le_of_ble_eq_true rfl) hRf, Nat.le_trans (Nat.le_of_ble_eq_true rfl) hRl⟩ rfl hl.1 rfl (Nat.le_of_ble_eq_true rfl) d_m_putText_8 hRc hS (fun H locs hP hD hS => ?_)
  replace hP : va_P D classes [(h, .inr (8, [.int (nI i0), .int (nI i1), .ref a2, .ref a3, .ref a4, .ref a5, .ref a6, .ref a7, .ref a8, .int (nI (0 + 4)), .ref a10, .ref a11, .ref a12, .ref a13, .ref a14, .ref a15, .int (nI i16), .int (nI i17), .ref a18, .int (nI i19), .ref a20, .ref a21, .int (nI i22), .ref a23])), (a2, .inl (cI, 45, .inl (fun j => nI (tx j)))), (a8, .inl (cI, 208, .inl (fun j => nI ((ptL bi 0 1 4 4) j))))] H := hP.sub [1, 0, 2] rfl
  replace hD : va_D A [(h, .inr (8, [.int (nI i0), .int (nI i1), .ref a2, .ref a3, .ref a4, .ref a5, .ref a6, .ref a7, .ref a8, .int (nI (0 + 4)), .ref a10, .ref a11, .ref a12, .ref a13, .ref a14, .ref a15, .int (nI i16), .int (nI i17), .ref a18, .int (nI i19), .ref a20, .ref a21, .int (nI i22), .ref a23])), (a2, .inl (cI, 45, .inl (fun j => nI (tx j)))), (a8, .inl (cI, 208, .inl (fun j => nI ((ptL bi 0 1 4 4) j))))] := hD.sub [1, 0, 2] rfl rfl
  refine lv_aload_n hx hb d_m_putText_11 rfl (lv_at hl 0 rfl) ?_
  refine lv_aload_n hx hb d_m_putText_12 rfl (lv_at hl 0 rfl) ?_
  refine n_get (C := R_Model) (T := F_Model) (N := 24) (v := .int (nI i1)) hx hb hts u_Model_in hown hK hP 0 rfl rfl 1 (by decide) kw_777 rfl d_m_putText_13 ?_
  refine lv_iload_n hx hb d_m_putText_16 rfl (lv_at hl 1 rfl) ?_
  refine lv_iconst (v := nI 1) hx hb d_m_putText_17 (by decide) ?_
  refine n_icmp_ne hx hb d_m_putText_18 (tgt := 26) rfl (by omega) (by omega) (fun g18 => absurd g18 (by decide)) (fun g18 => ?_)
  refine lv_bipush (v := nI 10) hx hb d_m_putText_21 (by decide) ?_
  refine lv_goto hx hb d_m_putText_23 (tgt := 38) rfl ?_
  refine q_writeVv (n := 2) (As := [.int (nI i1), .int (nI 10)]) (rest := []) (wc := [(h, .inr (8, [.int (nI i0), .int (nI i1), .ref a2, .ref a3, .ref a4, .ref a5, .ref a6, .ref a7, .ref a8, .int (nI (0 + 4)), .ref a10, .ref a11, .ref a12, .ref a13, .ref a14, .ref a15, .int (nI i16), .int (nI i17), .ref a18, .int (nI i19), .ref a20, .ref a21, .int (nI i22), .ref a23])), (a8, .inl (cI, 208, .inl (fun j => nI ((ptL bi 0 1 4 4) j))))]) (wr := [(a2, .inl (cI, 45, .inl (fun j => nI (tx j))))]) (w1 := [(h, .inr (8, [.int (nI i0), .int (nI i1), .ref a2, .ref a3, .ref a4, .ref a5, .ref a6, .ref a7, .ref a8, .int (nI ((0 + 4) + 10)), .ref a10, .ref a11, .ref a12, .ref a13, .ref a14, .ref a15, .int (nI i16), .int (nI i17), .ref a18, .int (nI i19), .ref a20, .ref a21, .int (nI i22), .ref a23])), (a8, .inl (cI, 208, .inl (fun j => nI ((ptL (ptL bi 0 1 4 4) (0 + 4) i1 10 10) j))))]) S (c_m_put l D cI cC h i0 i1 a2 a3 a4 a5 a6 a7 a8 (0 + 4) a10 a11 a12 a13 a14 a15 i16 i17 a18 i19 a20 a21 i22 a23 (ptL bi 0 1 4 4) i1 10 (by omega) (by decide) (by decide) H.size) hK hP hD hA (q0 := 0) rfl rfl [0, 2] [1] rfl rfl rfl rfl (by decide) rfl (q_goodV kw_879 kw_881 ks_23 kw_10 kw_882) (by decide +kernel) rfl rfl rfl ⟨Nat.le_trans (Nat.le_of_ble_eq_true rfl) hRf, Nat.le_trans (Nat.le_of_ble_eq_true rfl) hRl⟩ rfl hl.1 rfl (Nat.le_of_ble_eq_true rfl) d_m_putText_38 hRc hS (fun H locs hP hD hS => ?_)
  replace hP : va_P D classes [(h, .inr (8, [.int (nI i0), .int (nI i1), .ref a2, .ref a3, .ref a4, .ref a5, .ref a6, .ref a7, .ref a8, .int (nI ((0 + 4) + 10)), .ref a10, .ref a11, .ref a12, .ref a13, .ref a14, .ref a15, .int (nI i16), .int (nI i17), .ref a18, .int (nI i19), .ref a20, .ref a21, .int (nI i22), .ref a23])), (a2, .inl (cI, 45, .inl (fun j => nI (tx j)))), (a8, .inl (cI, 208, .inl (fun j => nI ((ptL (ptL bi 0 1 4 4) (0 + 4) i1 10 10) j))))] H := hP.sub [1, 0, 2] rfl
  replace hD : va_D A [(h, .inr (8, [.int (nI i0), .int (nI i1), .ref a2, .ref a3, .ref a4, .ref a5, .ref a6, .ref a7, .ref a8, .int (nI ((0 + 4) + 10)), .ref a10, .ref a11, .ref a12, .ref a13, .ref a14, .ref a15, .int (nI i16), .int (nI i17), .ref a18, .int (nI i19), .ref a20, .ref a21, .int (nI i22), .ref a23])), (a2, .inl (cI, 45, .inl (fun j => nI (tx j)))), (a8, .inl (cI, 208, .inl (fun j => nI ((ptL (ptL bi 0 1 4 4) (0 + 4) i1 10 10) j))))] := hD.sub [1, 0, 2] rfl rfl
  refine lv_iconst (v := nI 0) hx hb d_m_putText_41 (by decide) ?_
  refine lv_istore_n hx hb d_m_putText_42 rfl hl (Nat.le_of_ble_eq_true rfl) rfl (fun ls hl => ?_)
  have hl : lv_has ls 6 [(2, .int (nI 0)), (0, .ref h), (1, .int (nI 1))] := hl
  refine lw_m_putText_1_43 cI cC h i0 i1 a2 a3 a4 a5 a6 a7 a8 i9 a10 a11 a12 a13 a14 a15 i16 i17 a18 i19 a20 a21 i22 a23 tx bi hi1 htx hk1 S hRf hRl hRc hK hA  i1 0 (0 + 4 + 10) (ptL (ptL bi 0 1 4 4) (0 + 4) i1 10 10) (Nat.le_refl _) ⟨by omega, by omega⟩ (fun ls H locs hl hP hD hS => ?_) ls H locs (lv_sub hl [1, 2, 0] rfl) hP hD hS
  exact kr _ ls H locs d_m_putText_249 hP hD hS
set_option maxHeartbeats 1000000 in
set_option maxRecDepth 100000 in
theorem c_m_putText_1 (l : Launch) (D : va_G) (cI cC : ClassId) (h i0 i1 a2 a3 a4 a5 a6 a7 a8 i9 a10 a11 a12 a13 a14 a15 i16 i17 a18 i19 a20 a21 i22 a23 : Nat) (tx bi : Nat → Nat) (hi1 : i1 ≤ 45) (htx : ∀ j, j < 45 → tx j < 65536) (hk1 : ∀ j, j < i1 → 48 ≤ tx j ∧ tx j ≤ 57) (sz : Nat) : Met l y_m_putText (cd_m_putText :: WS) { frames := 1, cells := 0, slots := 0, locals := 23 } (va_Pc [.ref h, .int (nI 1)] (wP D [(h, .inr (8, [.int (nI i0), .int (nI i1), .ref a2, .ref a3, .ref a4, .ref a5, .ref a6, .ref a7, .ref a8, .int (nI i9), .ref a10, .ref a11, .ref a12, .ref a13, .ref a14, .ref a15, .int (nI i16), .int (nI i17), .ref a18, .int (nI i19), .ref a20, .ref a21, .int (nI i22), .ref a23])), (a2, .inl (cI, 45, .inl (fun j => nI (tx j)))), (a8, .inl (cI, 208, .inl (fun j => nI (bi j))))] [(cI, .int), (cC, .char)] sz)) (wQv D [(h, .inr (8, [.int (nI i0), .int (nI i1), .ref a2, .ref a3, .ref a4, .ref a5, .ref a6, .ref a7, .ref a8, .int (nI i9), .ref a10, .ref a11, .ref a12, .ref a13, .ref a14, .ref a15, .int (nI i16), .int (nI i17), .ref a18, .int (nI i19), .ref a20, .ref a21, .int (nI i22), .ref a23])), (a2, .inl (cI, 45, .inl (fun j => nI (tx j)))), (a8, .inl (cI, 208, .inl (fun j => nI (bi j))))] [(h, .inr (8, [.int (nI i0), .int (nI i1), .ref a2, .ref a3, .ref a4, .ref a5, .ref a6, .ref a7, .ref a8, .int (nI ((pxR 1 tx i1 bi).1)), .ref a10, .ref a11, .ref a12, .ref a13, .ref a14, .ref a15, .int (nI i16), .int (nI i17), .ref a18, .int (nI i19), .ref a20, .ref a21, .int (nI i22), .ref a23])), (a2, .inl (cI, 45, .inl (fun j => nI (tx j)))), (a8, .inl (cI, 208, .inl (fun j => nI (((pxR 1 tx i1 bi).2) j))))] sz) 0 0 (va_A [(h, .inr (8, [.int (nI i0), .int (nI i1), .ref a2, .ref a3, .ref a4, .ref a5, .ref a6, .ref a7, .ref a8, .int (nI i9), .ref a10, .ref a11, .ref a12, .ref a13, .ref a14, .ref a15, .int (nI i16), .int (nI i17), .ref a18, .int (nI i19), .ref a20, .ref a21, .int (nI i22), .ref a23])), (a2, .inl (cI, 45, .inl (fun j => nI (tx j)))), (a8, .inl (cI, 208, .inl (fun j => nI (bi j))))] sz) := by
  refine Met.ofW (cc := b_m_putText) (maxL := 6) (ret := none) (by decide) rfl ?_
  intro p e s m args below meth c s₁ B hml hv0
  obtain ⟨rfl, hP, hK, hD0, hsz⟩ := hv0
  have hts := atoms_spec (ws := cd_m_putText :: WS) B.pre
  have hown : s.vm.findClass R_Model = some m.cls := findClass_of_methodNamed B.named
  have hlocks := B.notSynchronized
  subst hsz
  have hD := hD0.self (sz := s.heap.size)
  have hl := lv_entry ([.ref h, .int (nI 1)]) (n := 6) (Nat.le_of_ble_eq_true rfl)
  rw [lg_entry_eq]
  generalize (lg_sl ([.ref h, .int (nI 1)]) ++ List.replicate (6 - (lg_sl ([.ref h, .int (nI 1)])).length) Slot.unset).toArray = ls at hl ⊢
  refine bd_m_putText_1 cI cC h i0 i1 a2 a3 a4 a5 a6 a7 a8 i9 a10 a11 a12 a13 a14 a15 i16 i17 a18 i19 a20 a21 i22 a23 tx bi hi1 htx hk1 ⟨B.exec, B.bytes, hml, hown, hts⟩ (Nat.le_refl _) (Nat.le_refl _) ⟨Nat.le_refl _, Nat.le_refl _⟩ hK (fun q h => Or.inr h) (fun pc ls H locs hd hP hD hS => ?_) ls _ _ hl hP hD (va_S.rf)
  exact W.vret B.exec B.bytes B.returns (fun t ht _ => ⟨⟨(), rfl, trivial, (by have h9 := hP; rw [← ht] at h9; exact h9)⟩, hS.F ht⟩) hS.2.2 hd
end
section
variable {p : Program} {l : Launch} {e : Env} {R : Room} {s : State} {m : MethodId} {args : Array Value} {below : List Frame} {meth : Method} {c : Code} {cells slots : Nat} {Q : State → Prop} {A : Nat → Prop} {H0 : Heap} {D : va_G}
set_option maxHeartbeats 1000000 in
set_option maxRecDepth 100000 in
theorem c_m_putText (l : Launch) (D : va_G) (cI cC : ClassId) (h i0 i1 a2 a3 a4 a5 a6 a7 a8 i9 a10 a11 a12 a13 a14 a15 i16 i17 a18 i19 a20 a21 i22 a23 : Nat) (tx bi : Nat → Nat) (kd : Nat) (hi1 : i1 ≤ 45) (hkd : kd = 1 ∨ kd = 2 ∨ kd = 4) (htx : ∀ j, j < 45 → tx j < 65536) (hk1 : kd = 1 → ∀ j, j < i1 → 48 ≤ tx j ∧ tx j ≤ 57) (hk2 : kd = 2 → ∀ j, j < i1 → 0 ≤ plI (tx j)) (sz : Nat) : Met l y_m_putText (cd_m_putText :: WS) { frames := 1, cells := 0, slots := 0, locals := 23 } (va_Pc [.ref h, .int (nI kd)] (wP D [(h, .inr (8, [.int (nI i0), .int (nI i1), .ref a2, .ref a3, .ref a4, .ref a5, .ref a6, .ref a7, .ref a8, .int (nI i9), .ref a10, .ref a11, .ref a12, .ref a13, .ref a14, .ref a15, .int (nI i16), .int (nI i17), .ref a18, .int (nI i19), .ref a20, .ref a21, .int (nI i22), .ref a23])), (a2, .inl (cI, 45, .inl (fun j => nI (tx j)))), (a8, .inl (cI, 208, .inl (fun j => nI (bi j))))] [(cI, .int), (cC, .char)] sz)) (wQv D [(h, .inr (8, [.int (nI i0), .int (nI i1), .ref a2, .ref a3, .ref a4, .ref a5, .ref a6, .ref a7, .ref a8, .int (nI i9), .ref a10, .ref a11, .ref a12, .ref a13, .ref a14, .ref a15, .int (nI i16), .int (nI i17), .ref a18, .int (nI i19), .ref a20, .ref a21, .int (nI i22), .ref a23])), (a2, .inl (cI, 45, .inl (fun j => nI (tx j)))), (a8, .inl (cI, 208, .inl (fun j => nI (bi j))))] [(h, .inr (8, [.int (nI i0), .int (nI i1), .ref a2, .ref a3, .ref a4, .ref a5, .ref a6, .ref a7, .ref a8, .int (nI ((pxR kd tx i1 bi).1)), .ref a10, .ref a11, .ref a12, .ref a13, .ref a14, .ref a15, .int (nI i16), .int (nI i17), .ref a18, .int (nI i19), .ref a20, .ref a21, .int (nI i22), .ref a23])), (a2, .inl (cI, 45, .inl (fun j => nI (tx j)))), (a8, .inl (cI, 208, .inl (fun j => nI (((pxR kd tx i1 bi).2) j))))] sz) 0 0 (va_A [(h, .inr (8, [.int (nI i0), .int (nI i1), .ref a2, .ref a3, .ref a4, .ref a5, .ref a6, .ref a7, .ref a8, .int (nI i9), .ref a10, .ref a11, .ref a12, .ref a13, .ref a14, .ref a15, .int (nI i16), .int (nI i17), .ref a18, .int (nI i19), .ref a20, .ref a21, .int (nI i22), .ref a23])), (a2, .inl (cI, 45, .inl (fun j => nI (tx j)))), (a8, .inl (cI, 208, .inl (fun j => nI (bi j))))] sz) := by
  rcases hkd with rfl | rfl | rfl
  · exact c_m_putText_1 l D cI cC h i0 i1 a2 a3 a4 a5 a6 a7 a8 i9 a10 a11 a12 a13 a14 a15 i16 i17 a18 i19 a20 a21 i22 a23 tx bi hi1 htx (hk1 rfl) sz
  · exact c_m_putText_2 l D cI cC h i0 i1 a2 a3 a4 a5 a6 a7 a8 i9 a10 a11 a12 a13 a14 a15 i16 i17 a18 i19 a20 a21 i22 a23 tx bi hi1 htx (hk2 rfl) sz
  · exact c_m_putText_4 l D cI cC h i0 i1 a2 a3 a4 a5 a6 a7 a8 i9 a10 a11 a12 a13 a14 a15 i16 i17 a18 i19 a20 a21 i22 a23 tx bi hi1 htx sz
end
