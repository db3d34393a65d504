theorem kw_969 : (Jvm.Cond.methodLink "SquareCodesModel" (142 : Nat) ({ cls := "SquareCodesModel", name := "inverse", desc := "(I)I" } : Jvm.MethodName)) ∈ WS := WS_tbl 969 (by decide +kernel) rfl
theorem kw_970 : (Jvm.Cond.static ({ cls := "SquareCodesModel", name := "inverse", desc := "(I)I" } : Jvm.MethodName)) ∈ WS := WS_tbl 970 (by decide +kernel) rfl
set_option maxRecDepth 1000000 in
theorem kw_971 : cd_m_inverse ∈ WS := WS_tbl 971 rfl rfl
theorem kw_789 : (Jvm.Cond.fieldLink "SquareCodesModel" (40 : Nat) "SquareCodesModel" "solution" "[I") ∈ WS := WS_tbl 789 (by decide +kernel) rfl
section
theorem d_m_solve_0 : decode b_m_solve 0 = .ok (.iload_n 1, 1) := by decide +kernel
theorem d_m_solve_1 : decode b_m_solve 1 = .ok (.iconst 1, 1) := by decide +kernel
theorem d_m_solve_2 : decode b_m_solve 2 = .ok (.iadd, 1) := by decide +kernel
theorem d_m_solve_3 : decode b_m_solve 3 = .ok (.istore_n 2, 1) := by decide +kernel
theorem d_m_solve_4 : decode b_m_solve 4 = .ok (.iconst 0, 1) := by decide +kernel
theorem d_m_solve_5 : decode b_m_solve 5 = .ok (.istore_n 3, 1) := by decide +kernel
theorem d_m_solve_6 : decode b_m_solve 6 = .ok (.iload_n 3, 1) := by decide +kernel
theorem d_m_solve_7 : decode b_m_solve 7 = .ok (.iload_n 1, 1) := by decide +kernel
theorem d_m_solve_8 : decode b_m_solve 8 = .ok (.if_icmp .ge 226, 3) := by decide +kernel
theorem d_m_solve_11 : decode b_m_solve 11 = .ok (.iload_n 3, 1) := by decide +kernel
theorem d_m_solve_12 : decode b_m_solve 12 = .ok (.istore 4, 2) := by decide +kernel
theorem d_m_solve_14 : decode b_m_solve 14 = .ok (.iload 4, 2) := by decide +kernel
theorem d_m_solve_16 : decode b_m_solve 16 = .ok (.iload_n 1, 1) := by decide +kernel
theorem d_m_solve_17 : decode b_m_solve 17 = .ok (.if_icmp .ge 23, 3) := by decide +kernel
theorem d_m_solve_20 : decode b_m_solve 20 = .ok (.aload_n 0, 1) := by decide +kernel
theorem d_m_solve_21 : decode b_m_solve 21 = .ok (.getfield 37, 3) := by decide +kernel
theorem d_m_solve_24 : decode b_m_solve 24 = .ok (.iload_n 2, 1) := by decide +kernel
theorem d_m_solve_25 : decode b_m_solve 25 = .ok (.iload 4, 2) := by decide +kernel
theorem d_m_solve_27 : decode b_m_solve 27 = .ok (.imul, 1) := by decide +kernel
theorem d_m_solve_28 : decode b_m_solve 28 = .ok (.iload_n 3, 1) := by decide +kernel
theorem d_m_solve_29 : decode b_m_solve 29 = .ok (.iadd, 1) := by decide +kernel
theorem d_m_solve_30 : decode b_m_solve 30 = .ok (.iaload, 1) := by decide +kernel
theorem d_m_solve_31 : decode b_m_solve 31 = .ok (.ifCond .ne 9, 3) := by decide +kernel
theorem d_m_solve_34 : decode b_m_solve 34 = .ok (.iinc 4 1, 3) := by decide +kernel
theorem d_m_solve_37 : decode b_m_solve 37 = .ok (.goto (-23), 3) := by decide +kernel
theorem d_m_solve_40 : decode b_m_solve 40 = .ok (.iload 4, 2) := by decide +kernel
theorem d_m_solve_42 : decode b_m_solve 42 = .ok (.iload_n 1, 1) := by decide +kernel
theorem d_m_solve_43 : decode b_m_solve 43 = .ok (.if_icmp .ne 5, 3) := by decide +kernel
theorem d_m_solve_46 : decode b_m_solve 46 = .ok (.iconst 0, 1) := by decide +kernel
theorem d_m_solve_47 : decode b_m_solve 47 = .ok (.ireturn, 1) := by decide +kernel
theorem d_m_solve_48 : decode b_m_solve 48 = .ok (.aload_n 0, 1) := by decide +kernel
theorem d_m_solve_49 : decode b_m_solve 49 = .ok (.getfield 37, 3) := by decide +kernel
theorem d_m_solve_52 : decode b_m_solve 52 = .ok (.iload_n 2, 1) := by decide +kernel
theorem d_m_solve_53 : decode b_m_solve 53 = .ok (.iload 4, 2) := by decide +kernel
theorem d_m_solve_55 : decode b_m_solve 55 = .ok (.imul, 1) := by decide +kernel
theorem d_m_solve_56 : decode b_m_solve 56 = .ok (.iload_n 3, 1) := by decide +kernel
theorem d_m_solve_57 : decode b_m_solve 57 = .ok (.iadd, 1) := by decide +kernel
theorem d_m_solve_58 : decode b_m_solve 58 = .ok (.iaload, 1) := by decide +kernel
theorem d_m_solve_59 : decode b_m_solve 59 = .ok (.invokestatic 142, 3) := by decide +kernel
theorem d_m_solve_62 : decode b_m_solve 62 = .ok (.istore 5, 2) := by decide +kernel
theorem d_m_solve_64 : decode b_m_solve 64 = .ok (.iconst 0, 1) := by decide +kernel
theorem d_m_solve_65 : decode b_m_solve 65 = .ok (.istore 6, 2) := by decide +kernel
theorem d_m_solve_67 : decode b_m_solve 67 = .ok (.iload 6, 2) := by decide +kernel
theorem d_m_solve_69 : decode b_m_solve 69 = .ok (.iload_n 2, 1) := by decide +kernel
theorem d_m_solve_70 : decode b_m_solve 70 = .ok (.if_icmp .ge 64, 3) := by decide +kernel
theorem d_m_solve_73 : decode b_m_solve 73 = .ok (.aload_n 0, 1) := by decide +kernel
theorem d_m_solve_74 : decode b_m_solve 74 = .ok (.getfield 37, 3) := by decide +kernel
theorem d_m_solve_77 : decode b_m_solve 77 = .ok (.iload_n 2, 1) := by decide +kernel
theorem d_m_solve_78 : decode b_m_solve 78 = .ok (.iload 4, 2) := by decide +kernel
theorem d_m_solve_80 : decode b_m_solve 80 = .ok (.imul, 1) := by decide +kernel
theorem d_m_solve_81 : decode b_m_solve 81 = .ok (.iload 6, 2) := by decide +kernel
theorem d_m_solve_83 : decode b_m_solve 83 = .ok (.iadd, 1) := by decide +kernel
theorem d_m_solve_84 : decode b_m_solve 84 = .ok (.iaload, 1) := by decide +kernel
theorem d_m_solve_85 : decode b_m_solve 85 = .ok (.iload 5, 2) := by decide +kernel
theorem d_m_solve_87 : decode b_m_solve 87 = .ok (.invokestatic 72, 3) := by decide +kernel
theorem d_m_solve_90 : decode b_m_solve 90 = .ok (.istore 7, 2) := by decide +kernel
theorem d_m_solve_92 : decode b_m_solve 92 = .ok (.aload_n 0, 1) := by decide +kernel
theorem d_m_solve_93 : decode b_m_solve 93 = .ok (.getfield 37, 3) := by decide +kernel
theorem d_m_solve_96 : decode b_m_solve 96 = .ok (.iload_n 2, 1) := by decide +kernel
theorem d_m_solve_97 : decode b_m_solve 97 = .ok (.iload 4, 2) := by decide +kernel
theorem d_m_solve_99 : decode b_m_solve 99 = .ok (.imul, 1) := by decide +kernel
theorem d_m_solve_100 : decode b_m_solve 100 = .ok (.iload 6, 2) := by decide +kernel
theorem d_m_solve_102 : decode b_m_solve 102 = .ok (.iadd, 1) := by decide +kernel
theorem d_m_solve_103 : decode b_m_solve 103 = .ok (.aload_n 0, 1) := by decide +kernel
theorem d_m_solve_104 : decode b_m_solve 104 = .ok (.getfield 37, 3) := by decide +kernel
theorem d_m_solve_107 : decode b_m_solve 107 = .ok (.iload_n 2, 1) := by decide +kernel
theorem d_m_solve_108 : decode b_m_solve 108 = .ok (.iload_n 3, 1) := by decide +kernel
theorem d_m_solve_109 : decode b_m_solve 109 = .ok (.imul, 1) := by decide +kernel
theorem d_m_solve_110 : decode b_m_solve 110 = .ok (.iload 6, 2) := by decide +kernel
theorem d_m_solve_112 : decode b_m_solve 112 = .ok (.iadd, 1) := by decide +kernel
theorem d_m_solve_113 : decode b_m_solve 113 = .ok (.iaload, 1) := by decide +kernel
theorem d_m_solve_114 : decode b_m_solve 114 = .ok (.iastore, 1) := by decide +kernel
theorem d_m_solve_115 : decode b_m_solve 115 = .ok (.aload_n 0, 1) := by decide +kernel
theorem d_m_solve_116 : decode b_m_solve 116 = .ok (.getfield 37, 3) := by decide +kernel
theorem d_m_solve_119 : decode b_m_solve 119 = .ok (.iload_n 2, 1) := by decide +kernel
theorem d_m_solve_120 : decode b_m_solve 120 = .ok (.iload_n 3, 1) := by decide +kernel
theorem d_m_solve_121 : decode b_m_solve 121 = .ok (.imul, 1) := by decide +kernel
theorem d_m_solve_122 : decode b_m_solve 122 = .ok (.iload 6, 2) := by decide +kernel
theorem d_m_solve_124 : decode b_m_solve 124 = .ok (.iadd, 1) := by decide +kernel
theorem d_m_solve_125 : decode b_m_solve 125 = .ok (.iload 7, 2) := by decide +kernel
theorem d_m_solve_127 : decode b_m_solve 127 = .ok (.iastore, 1) := by decide +kernel
theorem d_m_solve_128 : decode b_m_solve 128 = .ok (.iinc 6 1, 3) := by decide +kernel
theorem d_m_solve_131 : decode b_m_solve 131 = .ok (.goto (-64), 3) := by decide +kernel
theorem d_m_solve_134 : decode b_m_solve 134 = .ok (.iconst 0, 1) := by decide +kernel
theorem d_m_solve_135 : decode b_m_solve 135 = .ok (.istore 6, 2) := by decide +kernel
theorem d_m_solve_137 : decode b_m_solve 137 = .ok (.iload 6, 2) := by decide +kernel
theorem d_m_solve_139 : decode b_m_solve 139 = .ok (.iload_n 1, 1) := by decide +kernel
theorem d_m_solve_140 : decode b_m_solve 140 = .ok (.if_icmp .ge 88, 3) := by decide +kernel
theorem d_m_solve_143 : decode b_m_solve 143 = .ok (.iload 6, 2) := by decide +kernel
theorem d_m_solve_145 : decode b_m_solve 145 = .ok (.iload_n 3, 1) := by decide +kernel
theorem d_m_solve_146 : decode b_m_solve 146 = .ok (.if_icmp .ne 7, 3) := by decide +kernel
theorem d_m_solve_149 : decode b_m_solve 149 = .ok (.iconst 0, 1) := by decide +kernel
theorem d_m_solve_150 : decode b_m_solve 150 = .ok (.goto 14, 3) := by decide +kernel
theorem d_m_solve_153 : decode b_m_solve 153 = .ok (.aload_n 0, 1) := by decide +kernel
theorem d_m_solve_154 : decode b_m_solve 154 = .ok (.getfield 37, 3) := by decide +kernel
theorem d_m_solve_157 : decode b_m_solve 157 = .ok (.iload_n 2, 1) := by decide +kernel
theorem d_m_solve_158 : decode b_m_solve 158 = .ok (.iload 6, 2) := by decide +kernel
theorem d_m_solve_160 : decode b_m_solve 160 = .ok (.imul, 1) := by decide +kernel
theorem d_m_solve_161 : decode b_m_solve 161 = .ok (.iload_n 3, 1) := by decide +kernel
theorem d_m_solve_162 : decode b_m_solve 162 = .ok (.iadd, 1) := by decide +kernel
theorem d_m_solve_163 : decode b_m_solve 163 = .ok (.iaload, 1) := by decide +kernel
theorem d_m_solve_164 : decode b_m_solve 164 = .ok (.istore 7, 2) := by decide +kernel
theorem d_m_solve_166 : decode b_m_solve 166 = .ok (.iconst 0, 1) := by decide +kernel
theorem d_m_solve_167 : decode b_m_solve 167 = .ok (.istore 8, 2) := by decide +kernel
theorem d_m_solve_169 : decode b_m_solve 169 = .ok (.iload 8, 2) := by decide +kernel
theorem d_m_solve_171 : decode b_m_solve 171 = .ok (.iload_n 2, 1) := by decide +kernel
theorem d_m_solve_172 : decode b_m_solve 172 = .ok (.if_icmp .ge 50, 3) := by decide +kernel
theorem d_m_solve_175 : decode b_m_solve 175 = .ok (.aload_n 0, 1) := by decide +kernel
theorem d_m_solve_176 : decode b_m_solve 176 = .ok (.getfield 37, 3) := by decide +kernel
theorem d_m_solve_179 : decode b_m_solve 179 = .ok (.iload_n 2, 1) := by decide +kernel
theorem d_m_solve_180 : decode b_m_solve 180 = .ok (.iload 6, 2) := by decide +kernel
theorem d_m_solve_182 : decode b_m_solve 182 = .ok (.imul, 1) := by decide +kernel
theorem d_m_solve_183 : decode b_m_solve 183 = .ok (.iload 8, 2) := by decide +kernel
theorem d_m_solve_185 : decode b_m_solve 185 = .ok (.iadd, 1) := by decide +kernel
theorem d_m_solve_186 : decode b_m_solve 186 = .ok (.aload_n 0, 1) := by decide +kernel
theorem d_m_solve_187 : decode b_m_solve 187 = .ok (.getfield 37, 3) := by decide +kernel
theorem d_m_solve_190 : decode b_m_solve 190 = .ok (.iload_n 2, 1) := by decide +kernel
theorem d_m_solve_191 : decode b_m_solve 191 = .ok (.iload 6, 2) := by decide +kernel
theorem d_m_solve_193 : decode b_m_solve 193 = .ok (.imul, 1) := by decide +kernel
theorem d_m_solve_194 : decode b_m_solve 194 = .ok (.iload 8, 2) := by decide +kernel
theorem d_m_solve_196 : decode b_m_solve 196 = .ok (.iadd, 1) := by decide +kernel
theorem d_m_solve_197 : decode b_m_solve 197 = .ok (.iaload, 1) := by decide +kernel
theorem d_m_solve_198 : decode b_m_solve 198 = .ok (.iload 7, 2) := by decide +kernel
theorem d_m_solve_200 : decode b_m_solve 200 = .ok (.aload_n 0, 1) := by decide +kernel
theorem d_m_solve_201 : decode b_m_solve 201 = .ok (.getfield 37, 3) := by decide +kernel
theorem d_m_solve_204 : decode b_m_solve 204 = .ok (.iload_n 2, 1) := by decide +kernel
theorem d_m_solve_205 : decode b_m_solve 205 = .ok (.iload_n 3, 1) := by decide +kernel
theorem d_m_solve_206 : decode b_m_solve 206 = .ok (.imul, 1) := by decide +kernel
theorem d_m_solve_207 : decode b_m_solve 207 = .ok (.iload 8, 2) := by decide +kernel
theorem d_m_solve_209 : decode b_m_solve 209 = .ok (.iadd, 1) := by decide +kernel
theorem d_m_solve_210 : decode b_m_solve 210 = .ok (.iaload, 1) := by decide +kernel
theorem d_m_solve_211 : decode b_m_solve 211 = .ok (.invokestatic 72, 3) := by decide +kernel
theorem d_m_solve_214 : decode b_m_solve 214 = .ok (.ixor, 1) := by decide +kernel
theorem d_m_solve_215 : decode b_m_solve 215 = .ok (.iastore, 1) := by decide +kernel
theorem d_m_solve_216 : decode b_m_solve 216 = .ok (.iinc 8 1, 3) := by decide +kernel
theorem d_m_solve_219 : decode b_m_solve 219 = .ok (.goto (-50), 3) := by decide +kernel
theorem d_m_solve_222 : decode b_m_solve 222 = .ok (.iinc 6 1, 3) := by decide +kernel
theorem d_m_solve_225 : decode b_m_solve 225 = .ok (.goto (-88), 3) := by decide +kernel
theorem d_m_solve_228 : decode b_m_solve 228 = .ok (.iinc 3 1, 3) := by decide +kernel
theorem d_m_solve_231 : decode b_m_solve 231 = .ok (.goto (-225), 3) := by decide +kernel
theorem d_m_solve_234 : decode b_m_solve 234 = .ok (.iconst 0, 1) := by decide +kernel
theorem d_m_solve_235 : decode b_m_solve 235 = .ok (.istore_n 3, 1) := by decide +kernel
theorem d_m_solve_236 : decode b_m_solve 236 = .ok (.iload_n 3, 1) := by decide +kernel
theorem d_m_solve_237 : decode b_m_solve 237 = .ok (.iload_n 1, 1) := by decide +kernel
theorem d_m_solve_238 : decode b_m_solve 238 = .ok (.if_icmp .ge 25, 3) := by decide +kernel
theorem d_m_solve_241 : decode b_m_solve 241 = .ok (.aload_n 0, 1) := by decide +kernel
theorem d_m_solve_242 : decode b_m_solve 242 = .ok (.getfield 40, 3) := by decide +kernel
theorem d_m_solve_245 : decode b_m_solve 245 = .ok (.iload_n 3, 1) := by decide +kernel
theorem d_m_solve_246 : decode b_m_solve 246 = .ok (.aload_n 0, 1) := by decide +kernel
theorem d_m_solve_247 : decode b_m_solve 247 = .ok (.getfield 37, 3) := by decide +kernel
theorem d_m_solve_250 : decode b_m_solve 250 = .ok (.iload_n 2, 1) := by decide +kernel
theorem d_m_solve_251 : decode b_m_solve 251 = .ok (.iload_n 3, 1) := by decide +kernel
theorem d_m_solve_252 : decode b_m_solve 252 = .ok (.imul, 1) := by decide +kernel
theorem d_m_solve_253 : decode b_m_solve 253 = .ok (.iload_n 1, 1) := by decide +kernel
theorem d_m_solve_254 : decode b_m_solve 254 = .ok (.iadd, 1) := by decide +kernel
theorem d_m_solve_255 : decode b_m_solve 255 = .ok (.iaload, 1) := by decide +kernel
theorem d_m_solve_256 : decode b_m_solve 256 = .ok (.iastore, 1) := by decide +kernel
theorem d_m_solve_257 : decode b_m_solve 257 = .ok (.iinc 3 1, 3) := by decide +kernel
theorem d_m_solve_260 : decode b_m_solve 260 = .ok (.goto (-24), 3) := by decide +kernel
theorem d_m_solve_263 : decode b_m_solve 263 = .ok (.iconst 1, 1) := by decide +kernel
theorem d_m_solve_264 : decode b_m_solve 264 = .ok (.ireturn, 1) := by decide +kernel
end
section
variable {p : Program} {l : Launch} {e : Env} {R : Room} {s : State} {m : MethodId} {args : Array Value} {below : List Frame} {meth : Method} {c : Code} {cells slots : Nat} {Q : State → Prop} {A : Nat → Prop} {H0 : Heap} {D : va_G}
set_option maxHeartbeats 1000000 in
set_option maxRecDepth 100000 in
theorem lw_m_solve_ok_14 (cI cC : ClassId) (h i0 i1 a2 a3 a4 a5 a6 a7 a8 i9 a10 a11 a12 a13 a14 a15 i16 i17 a18 i19 a20 a21 i22 a23 : Nat) (sy sl : Nat → Nat) (x : Nat) (hx0 : x ≤ 8) (hsy : lt256 72 sy) (hpv : ∀ d, d < x → (pvW (slI sy x d) x d (x - d) d) < x) (S : CallFix p m c b_m_solve 9 s args (cd_m_solve :: WS) R_Model) (hRf : 2 ≤ R.frames) (hRl : 45 ≤ R.locals) (hRc : cells ≤ R.cells ∧ slots ≤ R.slots) (hK : va_K D classes [(cI, .int), (cC, .char)] s) (hA : ∀ q, H0.size ≤ q → A q) (d : Nat) (hd9 : d < x) (hdm : d ≤ x) :
    ∀ (n : Nat) (q : Nat), (x - q ≤ n) → (q ≤ x) → (∀ (ls : Array Slot) (H : Heap) (locs : List Loc), lv_has ls 9 [(0, .ref h), (1, .int (nI x)), (2, .int (nI (x + 1))), (3, .int (nI d)), (4, .int (nI (pvW (slI sy x d) x d n q)))] → va_P D classes [(h, .inr (8, [.int (nI i0), .int (nI i1), .ref a2, .ref a3, .ref a4, .ref a5, .ref a6, .ref a7, .ref a8, .int (nI i9), .ref a10, .ref a11, .ref a12, .ref a13, .ref a14, .ref a15, .int (nI i16), .int (nI i17), .ref a18, .int (nI i19), .ref a20, .ref a21, .int (nI i22), .ref a23])), (a12, .inl (cI, 72, .inl (fun j => nI ((slI sy x d) j)))), (a13, .inl (cI, 8, .inl (fun j => nI (sl j))))] H → va_D A [(h, .inr (8, [.int (nI i0), .int (nI i1), .ref a2, .ref a3, .ref a4, .ref a5, .ref a6, .ref a7, .ref a8, .int (nI i9), .ref a10, .ref a11, .ref a12, .ref a13, .ref a14, .ref a15, .int (nI i16), .int (nI i17), .ref a18, .int (nI i19), .ref a20, .ref a21, .int (nI i22), .ref a23])), (a12, .inl (cI, 72, .inl (fun j => nI ((slI sy x d) j)))), (a13, .inl (cI, 8, .inl (fun j => nI (sl j))))] → va_S A H0 H locs → W p l e R s m args below meth c H locs cells slots Q (F0 m 40 ls [])) → ∀ (ls : Array Slot) (H : Heap) (locs : List Loc), lv_has ls 9 [(0, .ref h), (1, .int (nI x)), (2, .int (nI (x + 1))), (3, .int (nI d)), (4, .int (nI q))] → va_P D classes [(h, .inr (8, [.int (nI i0), .int (nI i1), .ref a2, .ref a3, .ref a4, .ref a5, .ref a6, .ref a7, .ref a8, .int (nI i9), .ref a10, .ref a11, .ref a12, .ref a13, .ref a14, .ref a15, .int (nI i16), .int (nI i17), .ref a18, .int (nI i19), .ref a20, .ref a21, .int (nI i22), .ref a23])), (a12, .inl (cI, 72, .inl (fun j => nI ((slI sy x d) j)))), (a13, .inl (cI, 8, .inl (fun j => nI (sl j))))] H → va_D A [(h, .inr (8, [.int (nI i0), .int (nI i1), .ref a2, .ref a3, .ref a4, .ref a5, .ref a6, .ref a7, .ref a8, .int (nI i9), .ref a10, .ref a11, .ref a12, .ref a13, .ref a14, .ref a15, .int (nI i16), .int (nI i17), .ref a18, .int (nI i19), .ref a20, .ref a21, .int (nI i22), .ref a23])), (a12, .inl (cI, 72, .inl (fun j => nI ((slI sy x d) j)))), (a13, .inl (cI, 8, .inl (fun j => nI (sl j))))] → va_S A H0 H locs → W p l e R s m args below meth c H locs cells slots Q (F0 m 14 ls []) := by
  obtain ⟨hx, hb, hml, hown, hts⟩ := id S
  refine fuel_ind (fun n ih => ?_)
  intro q hqn hqx kx ls H locs hl hP hD hS
  have hs9 := slI_lt hx0 hsy d (by omega) (fun d9 h9 => hpv d9 (by omega))
  refine lv_iload hx hb d_m_solve_14 (lv_at hl 4 rfl) ?_
  refine lv_iload_n hx hb d_m_solve_16 rfl (lv_at hl 1 rfl) ?_
  refine n_icmp_ge hx hb d_m_solve_17 (tgt := 40) rfl (by omega) (by omega) (fun g17 => ?_) (fun g17 => ?_)
  · skip
    first | rw [pvW_z (Or.inl g17)] at kx | rw [pvW_z (Or.inr g31)] at kx
    exact kx ls H locs (lv_sub hl [0, 1, 2, 3, 4] rfl) hP hD hS
  · skip
    refine lv_aload_n hx hb d_m_solve_20 rfl (lv_at hl 0 rfl) ?_
    refine n_get (C := R_Model) (T := F_Model) (N := 24) (v := .ref a12) hx hb hts u_Model_in hown hK hP 0 rfl rfl 12 (by decide) kw_788 rfl d_m_solve_21 ?_
    refine lv_iload_n hx hb d_m_solve_24 rfl (lv_at hl 2 rfl) ?_
    refine lv_iload hx hb d_m_solve_25 (lv_at hl 4 rfl) ?_
    refine n_imul hx hb d_m_solve_27 ?_
    refine lv_iload_n hx hb d_m_solve_28 rfl (lv_at hl 3 rfl) ?_
    refine n_iadd hx hb d_m_solve_29 ?_
    refine n_iald hx hb hK hP 1 0 rfl rfl (ix72 hx0 (by omega) (by omega)) (by decide) d_m_solve_30 ?_
    refine n_if_ne hx hb d_m_solve_31 (tgt := 40) rfl (Nat.lt_trans (hs9 _ (ix72 hx0 (by omega) (by omega))) (by decide)) (fun g31 => ?_) (fun g31 => ?_)
    · skip
      first | rw [pvW_z (Or.inl g17)] at kx | rw [pvW_z (Or.inr g31)] at kx
      exact kx ls H locs (lv_sub hl [0, 1, 2, 3, 4] rfl) hP hD hS
    · skip
      refine lv_iinc (k := 4) (v := nI (q + 1)) hx hb d_m_solve_34 hl rfl (nx_inc q 1) (Nat.le_of_ble_eq_true rfl) rfl (fun ls hl => ?_)
      have hl : lv_has ls 9 [(4, .int (nI (q + 1))), (0, .ref h), (1, .int (nI x)), (2, .int (nI (x + 1))), (3, .int (nI d))] := hl
      refine lv_goto hx hb d_m_solve_37 (tgt := 14) rfl ?_
      obtain ⟨m9, rfl⟩ : ∃ m9, n = m9 + 1 := ⟨n - 1, by omega⟩
      rw [pvW_s g17 g31] at kx
      exact ih _ rfl (q + 1) (by omega) (by omega) kx ls H locs (lv_sub hl [1, 2, 3, 4, 0] rfl) hP hD hS
set_option maxHeartbeats 1000000 in
set_option maxRecDepth 100000 in
theorem lp_m_solve_ok_169 (cI cC : ClassId) (h i0 i1 a2 a3 a4 a5 a6 a7 a8 i9 a10 a11 a12 a13 a14 a15 i16 i17 a18 i19 a20 a21 i22 a23 : Nat) (sy sl : Nat → Nat) (x : Nat) (hx0 : x ≤ 8) (hsy : lt256 72 sy) (hpv : ∀ d, d < x → (pvW (slI sy x d) x d (x - d) d) < x) (S : CallFix p m c b_m_solve 9 s args (cd_m_solve :: WS) R_Model) (hRf : 2 ≤ R.frames) (hRl : 45 ≤ R.locals) (hRc : cells ≤ R.cells ∧ slots ≤ R.slots) (hK : va_K D classes [(cI, .int), (cC, .char)] s) (hA : ∀ q, H0.size ≤ q → A q) (d : Nat) (hd9 : d < x) (hdm : d ≤ x) (hpv9 : (pvW (slI sy x d) x d (x - d) d) < x) (r : Nat) (hr9 : r < x) (f : Nat) (hf9 : f < 256) (kx : ∀ (ls : Array Slot) (H : Heap) (locs : List Loc), lv_has ls 9 [(0, .ref h), (1, .int (nI x)), (2, .int (nI (x + 1))), (3, .int (nI d)), (6, .int (nI r)), (7, .int (nI f)), (8, .int (nI (x + 1)))] → va_P D classes [(h, .inr (8, [.int (nI i0), .int (nI i1), .ref a2, .ref a3, .ref a4, .ref a5, .ref a6, .ref a7, .ref a8, .int (nI i9), .ref a10, .ref a11, .ref a12, .ref a13, .ref a14, .ref a15, .int (nI i16), .int (nI i17), .ref a18, .int (nI i19), .ref a20, .ref a21, .int (nI i22), .ref a23])), (a12, .inl (cI, 72, .inl (fun j => nI ((slK (slR (slJ (slI sy x d) x (pvW (slI sy x d) x d (x - d) d) d (ivN ((slI sy x d) ((x + 1) * (pvW (slI sy x d) x d (x - d) d) + d))) (x + 1)) x d r) x r d f (x + 1)) j)))), (a13, .inl (cI, 8, .inl (fun j => nI (sl j))))] H → va_D A [(h, .inr (8, [.int (nI i0), .int (nI i1), .ref a2, .ref a3, .ref a4, .ref a5, .ref a6, .ref a7, .ref a8, .int (nI i9), .ref a10, .ref a11, .ref a12, .ref a13, .ref a14, .ref a15, .int (nI i16), .int (nI i17), .ref a18, .int (nI i19), .ref a20, .ref a21, .int (nI i22), .ref a23])), (a12, .inl (cI, 72, .inl (fun j => nI ((slK (slR (slJ (slI sy x d) x (pvW (slI sy x d) x d (x - d) d) d (ivN ((slI sy x d) ((x + 1) * (pvW (slI sy x d) x d (x - d) d) + d))) (x + 1)) x d r) x r d f (x + 1)) j)))), (a13, .inl (cI, 8, .inl (fun j => nI (sl j))))] → va_S A H0 H locs → W p l e R s m args below meth c H locs cells slots Q (F0 m 222 ls [])) :
    ∀ k, k ≤ x + 1 → ∀ (ls : Array Slot) (H : Heap) (locs : List Loc), lv_has ls 9 [(0, .ref h), (1, .int (nI x)), (2, .int (nI (x + 1))), (3, .int (nI d)), (6, .int (nI r)), (7, .int (nI f)), (8, .int (nI k))] → va_P D classes [(h, .inr (8, [.int (nI i0), .int (nI i1), .ref a2, .ref a3, .ref a4, .ref a5, .ref a6, .ref a7, .ref a8, .int (nI i9), .ref a10, .ref a11, .ref a12, .ref a13, .ref a14, .ref a15, .int (nI i16), .int (nI i17), .ref a18, .int (nI i19), .ref a20, .ref a21, .int (nI i22), .ref a23])), (a12, .inl (cI, 72, .inl (fun j => nI ((slK (slR (slJ (slI sy x d) x (pvW (slI sy x d) x d (x - d) d) d (ivN ((slI sy x d) ((x + 1) * (pvW (slI sy x d) x d (x - d) d) + d))) (x + 1)) x d r) x r d f k) j)))), (a13, .inl (cI, 8, .inl (fun j => nI (sl j))))] H → va_D A [(h, .inr (8, [.int (nI i0), .int (nI i1), .ref a2, .ref a3, .ref a4, .ref a5, .ref a6, .ref a7, .ref a8, .int (nI i9), .ref a10, .ref a11, .ref a12, .ref a13, .ref a14, .ref a15, .int (nI i16), .int (nI i17), .ref a18, .int (nI i19), .ref a20, .ref a21, .int (nI i22), .ref a23])), (a12, .inl (cI, 72, .inl (fun j => nI ((slK (slR (slJ (slI sy x d) x (pvW (slI sy x d) x d (x - d) d) d (ivN ((slI sy x d) ((x + 1) * (pvW (slI sy x d) x d (x - d) d) + d))) (x + 1)) x d r) x r d f k) j)))), (a13, .inl (cI, 8, .inl (fun j => nI (sl j))))] → va_S A H0 H locs → W p l e R s m args below meth c H locs cells slots Q (F0 m 169 ls []) := by
  obtain ⟨hx, hb, hml, hown, hts⟩ := id S
  refine up_loop (fun k hkk ih => ?_)
  intro ls H locs hl hP hD hS
  have hsR := slR_lt hx0 hd9 (slJ_lt (p := (pvW (slI sy x d) x d (x - d) d)) (c := d) (sc := (ivN ((slI sy x d) ((x + 1) * (pvW (slI sy x d) x d (x - d) d) + d)))) hx0 hpv9 hd9 (slI_lt hx0 hsy d (by omega) (fun d9 h9 => hpv d9 (by omega))) (ivN_lt _) (x + 1) (by omega)) r (by omega)
  have hsK := slK_lt (c := d) hx0 hr9 hf9 hsR k (by omega)
  refine lv_iload hx hb d_m_solve_169 (lv_at hl 6 rfl) ?_
  refine lv_iload_n hx hb d_m_solve_171 rfl (lv_at hl 2 rfl) ?_
  refine n_icmp_ge hx hb d_m_solve_172 (tgt := 222) rfl (by omega) (by omega) (fun g172 => ?_) (fun g172 => ?_)
  · skip
    obtain rfl : k = x + 1 := by omega
    exact kx ls H locs (lv_sub hl [0, 1, 2, 3, 4, 5, 6] rfl) hP hD hS
  · skip
    refine lv_aload_n hx hb d_m_solve_175 rfl (lv_at hl 0 rfl) ?_
    refine n_get (C := R_Model) (T := F_Model) (N := 24) (v := .ref a12) hx hb hts u_Model_in hown hK hP 0 rfl rfl 12 (by decide) kw_788 rfl d_m_solve_176 ?_
    refine lv_iload_n hx hb d_m_solve_179 rfl (lv_at hl 2 rfl) ?_
    refine lv_iload hx hb d_m_solve_180 (lv_at hl 4 rfl) ?_
    refine n_imul hx hb d_m_solve_182 ?_
    refine lv_iload hx hb d_m_solve_183 (lv_at hl 6 rfl) ?_
    refine n_iadd hx hb d_m_solve_185 ?_
    refine lv_aload_n hx hb d_m_solve_186 rfl (lv_at hl 0 rfl) ?_
    refine n_get (C := R_Model) (T := F_Model) (N := 24) (v := .ref a12) hx hb hts u_Model_in hown hK hP 0 rfl rfl 12 (by decide) kw_788 rfl d_m_solve_187 ?_
    refine lv_iload_n hx hb d_m_solve_190 rfl (lv_at hl 2 rfl) ?_
    refine lv_iload hx hb d_m_solve_191 (lv_at hl 4 rfl) ?_
    refine n_imul hx hb d_m_solve_193 ?_
    refine lv_iload hx hb d_m_solve_194 (lv_at hl 6 rfl) ?_
    refine n_iadd hx hb d_m_solve_196 ?_
    refine n_iald hx hb hK hP 1 0 rfl rfl (ix72 hx0 (by omega) (by omega)) (by decide) d_m_solve_197 ?_
    refine lv_iload hx hb d_m_solve_198 (lv_at hl 5 rfl) ?_
    refine lv_aload_n hx hb d_m_solve_200 rfl (lv_at hl 0 rfl) ?_
    refine n_get (C := R_Model) (T := F_Model) (N := 24) (v := .ref a12) hx hb hts u_Model_in hown hK hP 0 rfl rfl 12 (by decide) kw_788 rfl d_m_solve_201 ?_
    refine lv_iload_n hx hb d_m_solve_204 rfl (lv_at hl 2 rfl) ?_
    refine lv_iload_n hx hb d_m_solve_205 rfl (lv_at hl 3 rfl) ?_
    refine n_imul hx hb d_m_solve_206 ?_
    refine lv_iload hx hb d_m_solve_207 (lv_at hl 6 rfl) ?_
    refine n_iadd hx hb d_m_solve_209 ?_
    refine n_iald hx hb hK hP 1 0 rfl rfl (ix72 hx0 (by omega) (by omega)) (by decide) d_m_solve_210 ?_
    refine q_pureS (n := 2) (As := [.int (nI f), .int (nI ((slK (slR (slJ (slI sy x d) x (pvW (slI sy x d) x d (x - d) d) d (ivN ((slI sy x d) ((x + 1) * (pvW (slI sy x d) x d (x - d) d) + d))) (x + 1)) x d r) x r d f k) (((x + 1) * d) + k)))]) (rest := [.int (nI ((slK (slR (slJ (slI sy x d) x (pvW (slI sy x d) x d (x - d) d) d (ivN ((slI sy x d) ((x + 1) * (pvW (slI sy x d) x d (x - d) d) + d))) (x + 1)) x d r) x r d f k) (((x + 1) * r) + k))), .int (nI (((x + 1) * r) + k)), .ref a12]) S (c_m_times l f ((slK (slR (slJ (slI sy x d) x (pvW (slI sy x d) x d (x - d) d) d (ivN ((slI sy x d) ((x + 1) * (pvW (slI sy x d) x d (x - d) d) + d))) (x + 1)) x d r) x r d f k) (((x + 1) * d) + k)) hf9 (hsK _ (ix72 hx0 (by omega) (by omega)))) (q_goodS kw_890 kw_891 kw_10 kw_892) (by decide +kernel) rfl rfl ⟨Nat.le_trans (Nat.le_of_ble_eq_true rfl) hRf, Nat.le_trans (Nat.le_of_ble_eq_true rfl) hRl⟩ rfl hl.1 rfl (Nat.le_of_ble_eq_true rfl) d_m_solve_211 hRc hS (fun H locs hkp hS => ?_)
    replace hP := hP.kept (fun k q hq => hkp q.1 (hP k q hq).lt)
    refine n_ixor hx hb d_m_solve_214 ?_
    refine n_iast hx hb hK hP hD hS 1 0 rfl rfl (ix72 hx0 (by omega) (by omega)) (by decide) d_m_solve_215 (fun H locs hP hD hS => ?_)
    have hP : va_P D classes [(h, .inr (8, [.int (nI i0), .int (nI i1), .ref a2, .ref a3, .ref a4, .ref a5, .ref a6, .ref a7, .ref a8, .int (nI i9), .ref a10, .ref a11, .ref a12, .ref a13, .ref a14, .ref a15, .int (nI i16), .int (nI i17), .ref a18, .int (nI i19), .ref a20, .ref a21, .int (nI i22), .ref a23])), (a12, .inl (cI, 72, .inl (fun j => nI ((va_up (slK (slR (slJ (slI sy x d) x (pvW (slI sy x d) x d (x - d) d) d (ivN ((slI sy x d) ((x + 1) * (pvW (slI sy x d) x d (x - d) d) + d))) (x + 1)) x d r) x r d f k) (((x + 1) * r) + k) (((slK (slR (slJ (slI sy x d) x (pvW (slI sy x d) x d (x - d) d) d (ivN ((slI sy x d) ((x + 1) * (pvW (slI sy x d) x d (x - d) d) + d))) (x + 1)) x d r) x r d f k) (((x + 1) * r) + k)) ^^^ (gm f ((slK (slR (slJ (slI sy x d) x (pvW (slI sy x d) x d (x - d) d) d (ivN ((slI sy x d) ((x + 1) * (pvW (slI sy x d) x d (x - d) d) + d))) (x + 1)) x d r) x r d f k) (((x + 1) * d) + k))))) j)))), (a13, .inl (cI, 8, .inl (fun j => nI (sl j))))] H := hP
    have hD : va_D A [(h, .inr (8, [.int (nI i0), .int (nI i1), .ref a2, .ref a3, .ref a4, .ref a5, .ref a6, .ref a7, .ref a8, .int (nI i9), .ref a10, .ref a11, .ref a12, .ref a13, .ref a14, .ref a15, .int (nI i16), .int (nI i17), .ref a18, .int (nI i19), .ref a20, .ref a21, .int (nI i22), .ref a23])), (a12, .inl (cI, 72, .inl (fun j => nI ((va_up (slK (slR (slJ (slI sy x d) x (pvW (slI sy x d) x d (x - d) d) d (ivN ((slI sy x d) ((x + 1) * (pvW (slI sy x d) x d (x - d) d) + d))) (x + 1)) x d r) x r d f k) (((x + 1) * r) + k) (((slK (slR (slJ (slI sy x d) x (pvW (slI sy x d) x d (x - d) d) d (ivN ((slI sy x d) ((x + 1) * (pvW (slI sy x d) x d (x - d) d) + d))) (x + 1)) x d r) x r d f k) (((x + 1) * r) + k)) ^^^ (gm f ((slK (slR (slJ (slI sy x d) x (pvW (slI sy x d) x d (x - d) d) d (ivN ((slI sy x d) ((x + 1) * (pvW (slI sy x d) x d (x - d) d) + d))) (x + 1)) x d r) x r d f k) (((x + 1) * d) + k))))) j)))), (a13, .inl (cI, 8, .inl (fun j => nI (sl j))))] := hD
    rw [show va_up (slK (slR (slJ (slI sy x d) x (pvW (slI sy x d) x d (x - d) d) d (ivN ((slI sy x d) ((x + 1) * (pvW (slI sy x d) x d (x - d) d) + d))) (x + 1)) x d r) x r d f k) (((x + 1) * r) + k) (((slK (slR (slJ (slI sy x d) x (pvW (slI sy x d) x d (x - d) d) d (ivN ((slI sy x d) ((x + 1) * (pvW (slI sy x d) x d (x - d) d) + d))) (x + 1)) x d r) x r d f k) (((x + 1) * r) + k)) ^^^ (gm f ((slK (slR (slJ (slI sy x d) x (pvW (slI sy x d) x d (x - d) d) d (ivN ((slI sy x d) ((x + 1) * (pvW (slI sy x d) x d (x - d) d) + d))) (x + 1)) x d r) x r d f k) (((x + 1) * d) + k)))) = slK (slR (slJ (slI sy x d) x (pvW (slI sy x d) x d (x - d) d) d (ivN ((slI sy x d) ((x + 1) * (pvW (slI sy x d) x d (x - d) d) + d))) (x + 1)) x d r) x r d f (k + 1) from rfl] at hP hD
    refine lv_iinc (k := 6) (v := nI (k + 1)) hx hb d_m_solve_216 hl rfl (nx_inc k 1) (Nat.le_of_ble_eq_true rfl) rfl (fun ls hl => ?_)
    have hl : lv_has ls 9 [(8, .int (nI (k + 1))), (0, .ref h), (1, .int (nI x)), (2, .int (nI (x + 1))), (3, .int (nI d)), (6, .int (nI r)), (7, .int (nI f))] := hl
    refine lv_goto hx hb d_m_solve_219 (tgt := 169) rfl ?_
    exact ih (by omega) ls H locs (lv_sub hl [1, 2, 3, 4, 5, 6, 0] rfl) hP hD hS
set_option maxHeartbeats 1000000 in
set_option maxRecDepth 100000 in
theorem lp_m_solve_ok_137 (cI cC : ClassId) (h i0 i1 a2 a3 a4 a5 a6 a7 a8 i9 a10 a11 a12 a13 a14 a15 i16 i17 a18 i19 a20 a21 i22 a23 : Nat) (sy sl : Nat → Nat) (x : Nat) (hx0 : x ≤ 8) (hsy : lt256 72 sy) (hpv : ∀ d, d < x → (pvW (slI sy x d) x d (x - d) d) < x) (S : CallFix p m c b_m_solve 9 s args (cd_m_solve :: WS) R_Model) (hRf : 2 ≤ R.frames) (hRl : 45 ≤ R.locals) (hRc : cells ≤ R.cells ∧ slots ≤ R.slots) (hK : va_K D classes [(cI, .int), (cC, .char)] s) (hA : ∀ q, H0.size ≤ q → A q) (d : Nat) (hd9 : d < x) (hdm : d ≤ x) (hpv9 : (pvW (slI sy x d) x d (x - d) d) < x) (kx : ∀ (ls : Array Slot) (H : Heap) (locs : List Loc), lv_has ls 9 [(0, .ref h), (1, .int (nI x)), (2, .int (nI (x + 1))), (3, .int (nI d)), (6, .int (nI x))] → va_P D classes [(h, .inr (8, [.int (nI i0), .int (nI i1), .ref a2, .ref a3, .ref a4, .ref a5, .ref a6, .ref a7, .ref a8, .int (nI i9), .ref a10, .ref a11, .ref a12, .ref a13, .ref a14, .ref a15, .int (nI i16), .int (nI i17), .ref a18, .int (nI i19), .ref a20, .ref a21, .int (nI i22), .ref a23])), (a12, .inl (cI, 72, .inl (fun j => nI ((slR (slJ (slI sy x d) x (pvW (slI sy x d) x d (x - d) d) d (ivN ((slI sy x d) ((x + 1) * (pvW (slI sy x d) x d (x - d) d) + d))) (x + 1)) x d x) j)))), (a13, .inl (cI, 8, .inl (fun j => nI (sl j))))] H → va_D A [(h, .inr (8, [.int (nI i0), .int (nI i1), .ref a2, .ref a3, .ref a4, .ref a5, .ref a6, .ref a7, .ref a8, .int (nI i9), .ref a10, .ref a11, .ref a12, .ref a13, .ref a14, .ref a15, .int (nI i16), .int (nI i17), .ref a18, .int (nI i19), .ref a20, .ref a21, .int (nI i22), .ref a23])), (a12, .inl (cI, 72, .inl (fun j => nI ((slR (slJ (slI sy x d) x (pvW (slI sy x d) x d (x - d) d) d (ivN ((slI sy x d) ((x + 1) * (pvW (slI sy x d) x d (x - d) d) + d))) (x + 1)) x d x) j)))), (a13, .inl (cI, 8, .inl (fun j => nI (sl j))))] → va_S A H0 H locs → W p l e R s m args below meth c H locs cells slots Q (F0 m 228 ls [])) :
    ∀ r, r ≤ x → ∀ (ls : Array Slot) (H : Heap) (locs : List Loc), lv_has ls 9 [(0, .ref h), (1, .int (nI x)), (2, .int (nI (x + 1))), (3, .int (nI d)), (6, .int (nI r))] → va_P D classes [(h, .inr (8, [.int (nI i0), .int (nI i1), .ref a2, .ref a3, .ref a4, .ref a5, .ref a6, .ref a7, .ref a8, .int (nI i9), .ref a10, .ref a11, .ref a12, .ref a13, .ref a14, .ref a15, .int (nI i16), .int (nI i17), .ref a18, .int (nI i19), .ref a20, .ref a21, .int (nI i22), .ref a23])), (a12, .inl (cI, 72, .inl (fun j => nI ((slR (slJ (slI sy x d) x (pvW (slI sy x d) x d (x - d) d) d (ivN ((slI sy x d) ((x + 1) * (pvW (slI sy x d) x d (x - d) d) + d))) (x + 1)) x d r) j)))), (a13, .inl (cI, 8, .inl (fun j => nI (sl j))))] H → va_D A [(h, .inr (8, [.int (nI i0), .int (nI i1), .ref a2, .ref a3, .ref a4, .ref a5, .ref a6, .ref a7, .ref a8, .int (nI i9), .ref a10, .ref a11, .ref a12, .ref a13, .ref a14, .ref a15, .int (nI i16), .int (nI i17), .ref a18, .int (nI i19), .ref a20, .ref a21, .int (nI i22), .ref a23])), (a12, .inl (cI, 72, .inl (fun j => nI ((slR (slJ (slI sy x d) x (pvW (slI sy x d) x d (x - d) d) d (ivN ((slI sy x d) ((x + 1) * (pvW (slI sy x d) x d (x - d) d) + d))) (x + 1)) x d r) j)))), (a13, .inl (cI, 8, .inl (fun j => nI (sl j))))] → va_S A H0 H locs → W p l e R s m args below meth c H locs cells slots Q (F0 m 137 ls []) := by
  obtain ⟨hx, hb, hml, hown, hts⟩ := id S
  refine up_loop (fun r hkr ih => ?_)
  intro ls H locs hl hP hD hS
  have hsR := slR_lt hx0 hd9 (slJ_lt (p := (pvW (slI sy x d) x d (x - d) d)) (c := d) (sc := (ivN ((slI sy x d) ((x + 1) * (pvW (slI sy x d) x d (x - d) d) + d)))) hx0 hpv9 hd9 (slI_lt hx0 hsy d (by omega) (fun d9 h9 => hpv d9 (by omega))) (ivN_lt _) (x + 1) (by omega)) r (by omega)
  refine lv_iload hx hb d_m_solve_137 (lv_at hl 4 rfl) ?_
  refine lv_iload_n hx hb d_m_solve_139 rfl (lv_at hl 1 rfl) ?_
  refine n_icmp_ge hx hb d_m_solve_140 (tgt := 228) rfl (by omega) (by omega) (fun g140 => ?_) (fun g140 => ?_)
  · skip
    obtain rfl : r = x := by omega
    exact kx ls H locs (lv_sub hl [0, 1, 2, 3, 4] rfl) hP hD hS
  · skip
    refine lv_iload hx hb d_m_solve_143 (lv_at hl 4 rfl) ?_
    refine lv_iload_n hx hb d_m_solve_145 rfl (lv_at hl 3 rfl) ?_
    refine n_icmp_ne hx hb d_m_solve_146 (tgt := 153) rfl (by omega) (by omega) (fun g146 => ?_) (fun g146 => ?_)
    · skip
      refine lv_aload_n hx hb d_m_solve_153 rfl (lv_at hl 0 rfl) ?_
      refine n_get (C := R_Model) (T := F_Model) (N := 24) (v := .ref a12) hx hb hts u_Model_in hown hK hP 0 rfl rfl 12 (by decide) kw_788 rfl d_m_solve_154 ?_
      refine lv_iload_n hx hb d_m_solve_157 rfl (lv_at hl 2 rfl) ?_
      refine lv_iload hx hb d_m_solve_158 (lv_at hl 4 rfl) ?_
      refine n_imul hx hb d_m_solve_160 ?_
      refine lv_iload_n hx hb d_m_solve_161 rfl (lv_at hl 3 rfl) ?_
      refine n_iadd hx hb d_m_solve_162 ?_
      refine n_iald hx hb hK hP 1 0 rfl rfl (ix72 hx0 (by omega) (by omega)) (by decide) d_m_solve_163 ?_
      refine lv_istore hx hb d_m_solve_164 hl (Nat.le_of_ble_eq_true rfl) rfl (fun ls hl => ?_)
      have hl : lv_has ls 9 [(7, .int (nI ((slR (slJ (slI sy x d) x (pvW (slI sy x d) x d (x - d) d) d (ivN ((slI sy x d) ((x + 1) * (pvW (slI sy x d) x d (x - d) d) + d))) (x + 1)) x d r) (((x + 1) * r) + d)))), (0, .ref h), (1, .int (nI x)), (2, .int (nI (x + 1))), (3, .int (nI d)), (6, .int (nI r))] := hl
      refine lv_iconst (v := nI 0) hx hb d_m_solve_166 (by decide) ?_
      refine lv_istore hx hb d_m_solve_167 hl (Nat.le_of_ble_eq_true rfl) rfl (fun ls hl => ?_)
      have hl : lv_has ls 9 [(8, .int (nI 0)), (7, .int (nI ((slR (slJ (slI sy x d) x (pvW (slI sy x d) x d (x - d) d) d (ivN ((slI sy x d) ((x + 1) * (pvW (slI sy x d) x d (x - d) d) + d))) (x + 1)) x d r) (((x + 1) * r) + d)))), (0, .ref h), (1, .int (nI x)), (2, .int (nI (x + 1))), (3, .int (nI d)), (6, .int (nI r))] := hl
      refine lp_m_solve_ok_169 cI cC h i0 i1 a2 a3 a4 a5 a6 a7 a8 i9 a10 a11 a12 a13 a14 a15 i16 i17 a18 i19 a20 a21 i22 a23 sy sl x hx0 hsy hpv S hRf hRl hRc hK hA d (by omega) (by omega) hpv9 r (by omega) ((slR (slJ (slI sy x d) x (pvW (slI sy x d) x d (x - d) d) d (ivN ((slI sy x d) ((x + 1) * (pvW (slI sy x d) x d (x - d) d) + d))) (x + 1)) x d r) (((x + 1) * r) + d)) (hsR _ (ix72 hx0 (by omega) (by omega))) (fun ls H locs hl hP hD hS => ?_) 0 (by omega) ls H locs (lv_sub hl [2, 3, 4, 5, 6, 1, 0] rfl) hP hD hS
      refine lv_iinc (k := 4) (v := nI (r + 1)) hx hb d_m_solve_222 hl rfl (nx_inc r 1) (Nat.le_of_ble_eq_true rfl) rfl (fun ls hl => ?_)
      have hl : lv_has ls 9 [(6, .int (nI (r + 1))), (0, .ref h), (1, .int (nI x)), (2, .int (nI (x + 1))), (3, .int (nI d)), (7, .int (nI ((slR (slJ (slI sy x d) x (pvW (slI sy x d) x d (x - d) d) d (ivN ((slI sy x d) ((x + 1) * (pvW (slI sy x d) x d (x - d) d) + d))) (x + 1)) x d r) (((x + 1) * r) + d)))), (8, .int (nI (x + 1)))] := hl
      refine lv_goto hx hb d_m_solve_225 (tgt := 137) rfl ?_
      rw [show slK (slR (slJ (slI sy x d) x (pvW (slI sy x d) x d (x - d) d) d (ivN ((slI sy x d) ((x + 1) * (pvW (slI sy x d) x d (x - d) d) + d))) (x + 1)) x d r) x r d ((slR (slJ (slI sy x d) x (pvW (slI sy x d) x d (x - d) d) d (ivN ((slI sy x d) ((x + 1) * (pvW (slI sy x d) x d (x - d) d) + d))) (x + 1)) x d r) (((x + 1) * r) + d)) (x + 1) = slR (slJ (slI sy x d) x (pvW (slI sy x d) x d (x - d) d) d (ivN ((slI sy x d) ((x + 1) * (pvW (slI sy x d) x d (x - d) d) + d))) (x + 1)) x d (r + 1) from (by first | exact (slR_t g146).symm | exact (slR_f g146).symm)] at hP hD
      exact ih (by omega) ls H locs (lv_sub hl [1, 2, 3, 4, 0] rfl) hP hD hS
    · skip
      refine lv_iconst (v := nI 0) hx hb d_m_solve_149 (by decide) ?_
      refine lv_goto hx hb d_m_solve_150 (tgt := 164) rfl ?_
      refine lv_istore hx hb d_m_solve_164 hl (Nat.le_of_ble_eq_true rfl) rfl (fun ls hl => ?_)
      have hl : lv_has ls 9 [(7, .int (nI 0)), (0, .ref h), (1, .int (nI x)), (2, .int (nI (x + 1))), (3, .int (nI d)), (6, .int (nI r))] := hl
      refine lv_iconst (v := nI 0) hx hb d_m_solve_166 (by decide) ?_
      refine lv_istore hx hb d_m_solve_167 hl (Nat.le_of_ble_eq_true rfl) rfl (fun ls hl => ?_)
      have hl : lv_has ls 9 [(8, .int (nI 0)), (7, .int (nI 0)), (0, .ref h), (1, .int (nI x)), (2, .int (nI (x + 1))), (3, .int (nI d)), (6, .int (nI r))] := hl
      refine lp_m_solve_ok_169 cI cC h i0 i1 a2 a3 a4 a5 a6 a7 a8 i9 a10 a11 a12 a13 a14 a15 i16 i17 a18 i19 a20 a21 i22 a23 sy sl x hx0 hsy hpv S hRf hRl hRc hK hA d (by omega) (by omega) hpv9 r (by omega) 0 (by decide) (fun ls H locs hl hP hD hS => ?_) 0 (by omega) ls H locs (lv_sub hl [2, 3, 4, 5, 6, 1, 0] rfl) hP hD hS
      refine lv_iinc (k := 4) (v := nI (r + 1)) hx hb d_m_solve_222 hl rfl (nx_inc r 1) (Nat.le_of_ble_eq_true rfl) rfl (fun ls hl => ?_)
      have hl : lv_has ls 9 [(6, .int (nI (r + 1))), (0, .ref h), (1, .int (nI x)), (2, .int (nI (x + 1))), (3, .int (nI d)), (7, .int (nI 0)), (8, .int (nI (x + 1)))] := hl
      refine lv_goto hx hb d_m_solve_225 (tgt := 137) rfl ?_
      rw [show slK (slR (slJ (slI sy x d) x (pvW (slI sy x d) x d (x - d) d) d (ivN ((slI sy x d) ((x + 1) * (pvW (slI sy x d) x d (x - d) d) + d))) (x + 1)) x d r) x r d 0 (x + 1) = slR (slJ (slI sy x d) x (pvW (slI sy x d) x d (x - d) d) d (ivN ((slI sy x d) ((x + 1) * (pvW (slI sy x d) x d (x - d) d) + d))) (x + 1)) x d (r + 1) from (by first | exact (slR_t g146).symm | exact (slR_f g146).symm)] at hP hD
      exact ih (by omega) ls H locs (lv_sub hl [1, 2, 3, 4, 0] rfl) hP hD hS
set_option maxHeartbeats 1000000 in
set_option maxRecDepth 100000 in
theorem lp_m_solve_ok_67 (cI cC : ClassId) (h i0 i1 a2 a3 a4 a5 a6 a7 a8 i9 a10 a11 a12 a13 a14 a15 i16 i17 a18 i19 a20 a21 i22 a23 : Nat) (sy sl : Nat → Nat) (x : Nat) (hx0 : x ≤ 8) (hsy : lt256 72 sy) (hpv : ∀ d, d < x → (pvW (slI sy x d) x d (x - d) d) < x) (S : CallFix p m c b_m_solve 9 s args (cd_m_solve :: WS) R_Model) (hRf : 2 ≤ R.frames) (hRl : 45 ≤ R.locals) (hRc : cells ≤ R.cells ∧ slots ≤ R.slots) (hK : va_K D classes [(cI, .int), (cC, .char)] s) (hA : ∀ q, H0.size ≤ q → A q) (d : Nat) (hd9 : d < x) (hdm : d ≤ x) (hpv9 : (pvW (slI sy x d) x d (x - d) d) < x) (kx : ∀ (ls : Array Slot) (H : Heap) (locs : List Loc), lv_has ls 9 [(0, .ref h), (1, .int (nI x)), (2, .int (nI (x + 1))), (3, .int (nI d)), (4, .int (nI (pvW (slI sy x d) x d (x - d) d))), (5, .int (nI (ivN ((slI sy x d) ((x + 1) * (pvW (slI sy x d) x d (x - d) d) + d))))), (6, .int (nI (x + 1)))] → va_P D classes [(h, .inr (8, [.int (nI i0), .int (nI i1), .ref a2, .ref a3, .ref a4, .ref a5, .ref a6, .ref a7, .ref a8, .int (nI i9), .ref a10, .ref a11, .ref a12, .ref a13, .ref a14, .ref a15, .int (nI i16), .int (nI i17), .ref a18, .int (nI i19), .ref a20, .ref a21, .int (nI i22), .ref a23])), (a12, .inl (cI, 72, .inl (fun j => nI ((slJ (slI sy x d) x (pvW (slI sy x d) x d (x - d) d) d (ivN ((slI sy x d) ((x + 1) * (pvW (slI sy x d) x d (x - d) d) + d))) (x + 1)) j)))), (a13, .inl (cI, 8, .inl (fun j => nI (sl j))))] H → va_D A [(h, .inr (8, [.int (nI i0), .int (nI i1), .ref a2, .ref a3, .ref a4, .ref a5, .ref a6, .ref a7, .ref a8, .int (nI i9), .ref a10, .ref a11, .ref a12, .ref a13, .ref a14, .ref a15, .int (nI i16), .int (nI i17), .ref a18, .int (nI i19), .ref a20, .ref a21, .int (nI i22), .ref a23])), (a12, .inl (cI, 72, .inl (fun j => nI ((slJ (slI sy x d) x (pvW (slI sy x d) x d (x - d) d) d (ivN ((slI sy x d) ((x + 1) * (pvW (slI sy x d) x d (x - d) d) + d))) (x + 1)) j)))), (a13, .inl (cI, 8, .inl (fun j => nI (sl j))))] → va_S A H0 H locs → W p l e R s m args below meth c H locs cells slots Q (F0 m 134 ls [])) :
    ∀ k, k ≤ x + 1 → ∀ (ls : Array Slot) (H : Heap) (locs : List Loc), lv_has ls 9 [(0, .ref h), (1, .int (nI x)), (2, .int (nI (x + 1))), (3, .int (nI d)), (4, .int (nI (pvW (slI sy x d) x d (x - d) d))), (5, .int (nI (ivN ((slI sy x d) ((x + 1) * (pvW (slI sy x d) x d (x - d) d) + d))))), (6, .int (nI k))] → va_P D classes [(h, .inr (8, [.int (nI i0), .int (nI i1), .ref a2, .ref a3, .ref a4, .ref a5, .ref a6, .ref a7, .ref a8, .int (nI i9), .ref a10, .ref a11, .ref a12, .ref a13, .ref a14, .ref a15, .int (nI i16), .int (nI i17), .ref a18, .int (nI i19), .ref a20, .ref a21, .int (nI i22), .ref a23])), (a12, .inl (cI, 72, .inl (fun j => nI ((slJ (slI sy x d) x (pvW (slI sy x d) x d (x - d) d) d (ivN ((slI sy x d) ((x + 1) * (pvW (slI sy x d) x d (x - d) d) + d))) k) j)))), (a13, .inl (cI, 8, .inl (fun j => nI (sl j))))] H → va_D A [(h, .inr (8, [.int (nI i0), .int (nI i1), .ref a2, .ref a3, .ref a4, .ref a5, .ref a6, .ref a7, .ref a8, .int (nI i9), .ref a10, .ref a11, .ref a12, .ref a13, .ref a14, .ref a15, .int (nI i16), .int (nI i17), .ref a18, .int (nI i19), .ref a20, .ref a21, .int (nI i22), .ref a23])), (a12, .inl (cI, 72, .inl (fun j => nI ((slJ (slI sy x d) x (pvW (slI sy x d) x d (x - d) d) d (ivN ((slI sy x d) ((x + 1) * (pvW (slI sy x d) x d (x - d) d) + d))) k) j)))), (a13, .inl (cI, 8, .inl (fun j => nI (sl j))))] → va_S A H0 H locs → W p l e R s m args below meth c H locs cells slots Q (F0 m 67 ls []) := by
  obtain ⟨hx, hb, hml, hown, hts⟩ := id S
  refine up_loop (fun k hkk ih => ?_)
  intro ls H locs hl hP hD hS
  have hs9 := slJ_lt (p := (pvW (slI sy x d) x d (x - d) d)) (c := d) (sc := (ivN ((slI sy x d) ((x + 1) * (pvW (slI sy x d) x d (x - d) d) + d)))) hx0 hpv9 hd9 (slI_lt hx0 hsy d (by omega) (fun d9 h9 => hpv d9 (by omega))) (ivN_lt _) k (by omega)
  have hiv := ivN_lt ((slI sy x d) ((x + 1) * (pvW (slI sy x d) x d (x - d) d) + d))
  refine lv_iload hx hb d_m_solve_67 (lv_at hl 6 rfl) ?_
  refine lv_iload_n hx hb d_m_solve_69 rfl (lv_at hl 2 rfl) ?_
  refine n_icmp_ge hx hb d_m_solve_70 (tgt := 134) rfl (by omega) (by omega) (fun g70 => ?_) (fun g70 => ?_)
  · skip
    obtain rfl : k = x + 1 := by omega
    exact kx ls H locs (lv_sub hl [0, 1, 2, 3, 4, 5, 6] rfl) hP hD hS
  · skip
    refine lv_aload_n hx hb d_m_solve_73 rfl (lv_at hl 0 rfl) ?_
    refine n_get (C := R_Model) (T := F_Model) (N := 24) (v := .ref a12) hx hb hts u_Model_in hown hK hP 0 rfl rfl 12 (by decide) kw_788 rfl d_m_solve_74 ?_
    refine lv_iload_n hx hb d_m_solve_77 rfl (lv_at hl 2 rfl) ?_
    refine lv_iload hx hb d_m_solve_78 (lv_at hl 4 rfl) ?_
    refine n_imul hx hb d_m_solve_80 ?_
    refine lv_iload hx hb d_m_solve_81 (lv_at hl 6 rfl) ?_
    refine n_iadd hx hb d_m_solve_83 ?_
    refine n_iald hx hb hK hP 1 0 rfl rfl (ix72 hx0 (by omega) (by omega)) (by decide) d_m_solve_84 ?_
    refine lv_iload hx hb d_m_solve_85 (lv_at hl 5 rfl) ?_
    refine q_pureS (n := 2) (As := [.int (nI ((slJ (slI sy x d) x (pvW (slI sy x d) x d (x - d) d) d (ivN ((slI sy x d) ((x + 1) * (pvW (slI sy x d) x d (x - d) d) + d))) k) (((x + 1) * (pvW (slI sy x d) x d (x - d) d)) + k))), .int (nI (ivN ((slI sy x d) ((x + 1) * (pvW (slI sy x d) x d (x - d) d) + d))))]) (rest := []) S (c_m_times l ((slJ (slI sy x d) x (pvW (slI sy x d) x d (x - d) d) d (ivN ((slI sy x d) ((x + 1) * (pvW (slI sy x d) x d (x - d) d) + d))) k) (((x + 1) * (pvW (slI sy x d) x d (x - d) d)) + k)) (ivN ((slI sy x d) ((x + 1) * (pvW (slI sy x d) x d (x - d) d) + d))) (hs9 _ (ix72 hx0 (by omega) (by omega))) (by omega)) (q_goodS kw_890 kw_891 kw_10 kw_892) (by decide +kernel) rfl rfl ⟨Nat.le_trans (Nat.le_of_ble_eq_true rfl) hRf, Nat.le_trans (Nat.le_of_ble_eq_true rfl) hRl⟩ rfl hl.1 rfl (Nat.le_of_ble_eq_true rfl) d_m_solve_87 hRc hS (fun H locs hkp hS => ?_)
    replace hP := hP.kept (fun k q hq => hkp q.1 (hP k q hq).lt)
    refine lv_istore hx hb d_m_solve_90 hl (Nat.le_of_ble_eq_true rfl) rfl (fun ls hl => ?_)
    have hl : lv_has ls 9 [(7, .int (nI (gm ((slJ (slI sy x d) x (pvW (slI sy x d) x d (x - d) d) d (ivN ((slI sy x d) ((x + 1) * (pvW (slI sy x d) x d (x - d) d) + d))) k) (((x + 1) * (pvW (slI sy x d) x d (x - d) d)) + k)) (ivN ((slI sy x d) ((x + 1) * (pvW (slI sy x d) x d (x - d) d) + d)))))), (0, .ref h), (1, .int (nI x)), (2, .int (nI (x + 1))), (3, .int (nI d)), (4, .int (nI (pvW (slI sy x d) x d (x - d) d))), (5, .int (nI (ivN ((slI sy x d) ((x + 1) * (pvW (slI sy x d) x d (x - d) d) + d))))), (6, .int (nI k))] := hl
    refine lv_aload_n hx hb d_m_solve_92 rfl (lv_at hl 1 rfl) ?_
    refine n_get (C := R_Model) (T := F_Model) (N := 24) (v := .ref a12) hx hb hts u_Model_in hown hK hP 0 rfl rfl 12 (by decide) kw_788 rfl d_m_solve_93 ?_
    refine lv_iload_n hx hb d_m_solve_96 rfl (lv_at hl 3 rfl) ?_
    refine lv_iload hx hb d_m_solve_97 (lv_at hl 5 rfl) ?_
    refine n_imul hx hb d_m_solve_99 ?_
    refine lv_iload hx hb d_m_solve_100 (lv_at hl 7 rfl) ?_
    refine n_iadd hx hb d_m_solve_102 ?_
    refine lv_aload_n hx hb d_m_solve_103 rfl (lv_at hl 1 rfl) ?_
    refine n_get (C := R_Model) (T := F_Model) (N := 24) (v := .ref a12) hx hb hts u_Model_in hown hK hP 0 rfl rfl 12 (by decide) kw_788 rfl d_m_solve_104 ?_
    refine lv_iload_n hx hb d_m_solve_107 rfl (lv_at hl 3 rfl) ?_
    refine lv_iload_n hx hb d_m_solve_108 rfl (lv_at hl 4 rfl) ?_
    refine n_imul hx hb d_m_solve_109 ?_
    refine lv_iload hx hb d_m_solve_110 (lv_at hl 7 rfl) ?_
    refine n_iadd hx hb d_m_solve_112 ?_
    refine n_iald hx hb hK hP 1 0 rfl rfl (ix72 hx0 (by omega) (by omega)) (by decide) d_m_solve_113 ?_
    refine n_iast hx hb hK hP hD hS 1 0 rfl rfl (ix72 hx0 (by omega) (by omega)) (by decide) d_m_solve_114 (fun H locs hP hD hS => ?_)
    have hP : va_P D classes [(h, .inr (8, [.int (nI i0), .int (nI i1), .ref a2, .ref a3, .ref a4, .ref a5, .ref a6, .ref a7, .ref a8, .int (nI i9), .ref a10, .ref a11, .ref a12, .ref a13, .ref a14, .ref a15, .int (nI i16), .int (nI i17), .ref a18, .int (nI i19), .ref a20, .ref a21, .int (nI i22), .ref a23])), (a12, .inl (cI, 72, .inl (fun j => nI ((va_up (slJ (slI sy x d) x (pvW (slI sy x d) x d (x - d) d) d (ivN ((slI sy x d) ((x + 1) * (pvW (slI sy x d) x d (x - d) d) + d))) k) (((x + 1) * (pvW (slI sy x d) x d (x - d) d)) + k) ((slJ (slI sy x d) x (pvW (slI sy x d) x d (x - d) d) d (ivN ((slI sy x d) ((x + 1) * (pvW (slI sy x d) x d (x - d) d) + d))) k) (((x + 1) * d) + k))) j)))), (a13, .inl (cI, 8, .inl (fun j => nI (sl j))))] H := hP
    have hD : va_D A [(h, .inr (8, [.int (nI i0), .int (nI i1), .ref a2, .ref a3, .ref a4, .ref a5, .ref a6, .ref a7, .ref a8, .int (nI i9), .ref a10, .ref a11, .ref a12, .ref a13, .ref a14, .ref a15, .int (nI i16), .int (nI i17), .ref a18, .int (nI i19), .ref a20, .ref a21, .int (nI i22), .ref a23])), (a12, .inl (cI, 72, .inl (fun j => nI ((va_up (slJ (slI sy x d) x (pvW (slI sy x d) x d (x - d) d) d (ivN ((slI sy x d) ((x + 1) * (pvW (slI sy x d) x d (x - d) d) + d))) k) (((x + 1) * (pvW (slI sy x d) x d (x - d) d)) + k) ((slJ (slI sy x d) x (pvW (slI sy x d) x d (x - d) d) d (ivN ((slI sy x d) ((x + 1) * (pvW (slI sy x d) x d (x - d) d) + d))) k) (((x + 1) * d) + k))) j)))), (a13, .inl (cI, 8, .inl (fun j => nI (sl j))))] := hD
    refine lv_aload_n hx hb d_m_solve_115 rfl (lv_at hl 1 rfl) ?_
    refine n_get (C := R_Model) (T := F_Model) (N := 24) (v := .ref a12) hx hb hts u_Model_in hown hK hP 0 rfl rfl 12 (by decide) kw_788 rfl d_m_solve_116 ?_
    refine lv_iload_n hx hb d_m_solve_119 rfl (lv_at hl 3 rfl) ?_
    refine lv_iload_n hx hb d_m_solve_120 rfl (lv_at hl 4 rfl) ?_
    refine n_imul hx hb d_m_solve_121 ?_
    refine lv_iload hx hb d_m_solve_122 (lv_at hl 7 rfl) ?_
    refine n_iadd hx hb d_m_solve_124 ?_
    refine lv_iload hx hb d_m_solve_125 (lv_at hl 0 rfl) ?_
    refine n_iast hx hb hK hP hD hS 1 0 rfl rfl (ix72 hx0 (by omega) (by omega)) (by decide) d_m_solve_127 (fun H locs hP hD hS => ?_)
    have hP : va_P D classes [(h, .inr (8, [.int (nI i0), .int (nI i1), .ref a2, .ref a3, .ref a4, .ref a5, .ref a6, .ref a7, .ref a8, .int (nI i9), .ref a10, .ref a11, .ref a12, .ref a13, .ref a14, .ref a15, .int (nI i16), .int (nI i17), .ref a18, .int (nI i19), .ref a20, .ref a21, .int (nI i22), .ref a23])), (a12, .inl (cI, 72, .inl (fun j => nI ((va_up (va_up (slJ (slI sy x d) x (pvW (slI sy x d) x d (x - d) d) d (ivN ((slI sy x d) ((x + 1) * (pvW (slI sy x d) x d (x - d) d) + d))) k) (((x + 1) * (pvW (slI sy x d) x d (x - d) d)) + k) ((slJ (slI sy x d) x (pvW (slI sy x d) x d (x - d) d) d (ivN ((slI sy x d) ((x + 1) * (pvW (slI sy x d) x d (x - d) d) + d))) k) (((x + 1) * d) + k))) (((x + 1) * d) + k) (gm ((slJ (slI sy x d) x (pvW (slI sy x d) x d (x - d) d) d (ivN ((slI sy x d) ((x + 1) * (pvW (slI sy x d) x d (x - d) d) + d))) k) (((x + 1) * (pvW (slI sy x d) x d (x - d) d)) + k)) (ivN ((slI sy x d) ((x + 1) * (pvW (slI sy x d) x d (x - d) d) + d))))) j)))), (a13, .inl (cI, 8, .inl (fun j => nI (sl j))))] H := hP
    have hD : va_D A [(h, .inr (8, [.int (nI i0), .int (nI i1), .ref a2, .ref a3, .ref a4, .ref a5, .ref a6, .ref a7, .ref a8, .int (nI i9), .ref a10, .ref a11, .ref a12, .ref a13, .ref a14, .ref a15, .int (nI i16), .int (nI i17), .ref a18, .int (nI i19), .ref a20, .ref a21, .int (nI i22), .ref a23])), (a12, .inl (cI, 72, .inl (fun j => nI ((va_up (va_up (slJ (slI sy x d) x (pvW (slI sy x d) x d (x - d) d) d (ivN ((slI sy x d) ((x + 1) * (pvW (slI sy x d) x d (x - d) d) + d))) k) (((x + 1) * (pvW (slI sy x d) x d (x - d) d)) + k) ((slJ (slI sy x d) x (pvW (slI sy x d) x d (x - d) d) d (ivN ((slI sy x d) ((x + 1) * (pvW (slI sy x d) x d (x - d) d) + d))) k) (((x + 1) * d) + k))) (((x + 1) * d) + k) (gm ((slJ (slI sy x d) x (pvW (slI sy x d) x d (x - d) d) d (ivN ((slI sy x d) ((x + 1) * (pvW (slI sy x d) x d (x - d) d) + d))) k) (((x + 1) * (pvW (slI sy x d) x d (x - d) d)) + k)) (ivN ((slI sy x d) ((x + 1) * (pvW (slI sy x d) x d (x - d) d) + d))))) j)))), (a13, .inl (cI, 8, .inl (fun j => nI (sl j))))] := hD
    rw [show va_up (va_up (slJ (slI sy x d) x (pvW (slI sy x d) x d (x - d) d) d (ivN ((slI sy x d) ((x + 1) * (pvW (slI sy x d) x d (x - d) d) + d))) k) (((x + 1) * (pvW (slI sy x d) x d (x - d) d)) + k) ((slJ (slI sy x d) x (pvW (slI sy x d) x d (x - d) d) d (ivN ((slI sy x d) ((x + 1) * (pvW (slI sy x d) x d (x - d) d) + d))) k) (((x + 1) * d) + k))) (((x + 1) * d) + k) (gm ((slJ (slI sy x d) x (pvW (slI sy x d) x d (x - d) d) d (ivN ((slI sy x d) ((x + 1) * (pvW (slI sy x d) x d (x - d) d) + d))) k) (((x + 1) * (pvW (slI sy x d) x d (x - d) d)) + k)) (ivN ((slI sy x d) ((x + 1) * (pvW (slI sy x d) x d (x - d) d) + d)))) = slJ (slI sy x d) x (pvW (slI sy x d) x d (x - d) d) d (ivN ((slI sy x d) ((x + 1) * (pvW (slI sy x d) x d (x - d) d) + d))) (k + 1) from rfl] at hP hD
    refine lv_iinc (k := 7) (v := nI (k + 1)) hx hb d_m_solve_128 hl rfl (nx_inc k 1) (Nat.le_of_ble_eq_true rfl) rfl (fun ls hl => ?_)
    have hl : lv_has ls 9 [(6, .int (nI (k + 1))), (7, .int (nI (gm ((slJ (slI sy x d) x (pvW (slI sy x d) x d (x - d) d) d (ivN ((slI sy x d) ((x + 1) * (pvW (slI sy x d) x d (x - d) d) + d))) k) (((x + 1) * (pvW (slI sy x d) x d (x - d) d)) + k)) (ivN ((slI sy x d) ((x + 1) * (pvW (slI sy x d) x d (x - d) d) + d)))))), (0, .ref h), (1, .int (nI x)), (2, .int (nI (x + 1))), (3, .int (nI d)), (4, .int (nI (pvW (slI sy x d) x d (x - d) d))), (5, .int (nI (ivN ((slI sy x d) ((x + 1) * (pvW (slI sy x d) x d (x - d) d) + d)))))] := hl
    refine lv_goto hx hb d_m_solve_131 (tgt := 67) rfl ?_
    exact ih (by omega) ls H locs (lv_sub hl [2, 3, 4, 5, 6, 7, 0] rfl) hP hD hS
set_option maxHeartbeats 1000000 in
set_option maxRecDepth 100000 in
theorem lp_m_solve_ok_6 (cI cC : ClassId) (h i0 i1 a2 a3 a4 a5 a6 a7 a8 i9 a10 a11 a12 a13 a14 a15 i16 i17 a18 i19 a20 a21 i22 a23 : Nat) (sy sl : Nat → Nat) (x : Nat) (hx0 : x ≤ 8) (hsy : lt256 72 sy) (hpv : ∀ d, d < x → (pvW (slI sy x d) x d (x - d) d) < x) (S : CallFix p m c b_m_solve 9 s args (cd_m_solve :: WS) R_Model) (hRf : 2 ≤ R.frames) (hRl : 45 ≤ R.locals) (hRc : cells ≤ R.cells ∧ slots ≤ R.slots) (hK : va_K D classes [(cI, .int), (cC, .char)] s) (hA : ∀ q, H0.size ≤ q → A q) (kx : ∀ (ls : Array Slot) (H : Heap) (locs : List Loc), lv_has ls 9 [(0, .ref h), (1, .int (nI x)), (2, .int (nI (x + 1))), (3, .int (nI x))] → va_P D classes [(h, .inr (8, [.int (nI i0), .int (nI i1), .ref a2, .ref a3, .ref a4, .ref a5, .ref a6, .ref a7, .ref a8, .int (nI i9), .ref a10, .ref a11, .ref a12, .ref a13, .ref a14, .ref a15, .int (nI i16), .int (nI i17), .ref a18, .int (nI i19), .ref a20, .ref a21, .int (nI i22), .ref a23])), (a12, .inl (cI, 72, .inl (fun j => nI ((slI sy x x) j)))), (a13, .inl (cI, 8, .inl (fun j => nI (sl j))))] H → va_D A [(h, .inr (8, [.int (nI i0), .int (nI i1), .ref a2, .ref a3, .ref a4, .ref a5, .ref a6, .ref a7, .ref a8, .int (nI i9), .ref a10, .ref a11, .ref a12, .ref a13, .ref a14, .ref a15, .int (nI i16), .int (nI i17), .ref a18, .int (nI i19), .ref a20, .ref a21, .int (nI i22), .ref a23])), (a12, .inl (cI, 72, .inl (fun j => nI ((slI sy x x) j)))), (a13, .inl (cI, 8, .inl (fun j => nI (sl j))))] → va_S A H0 H locs → W p l e R s m args below meth c H locs cells slots Q (F0 m 234 ls [])) :
    ∀ d, d ≤ x → ∀ (ls : Array Slot) (H : Heap) (locs : List Loc), lv_has ls 9 [(0, .ref h), (1, .int (nI x)), (2, .int (nI (x + 1))), (3, .int (nI d))] → va_P D classes [(h, .inr (8, [.int (nI i0), .int (nI i1), .ref a2, .ref a3, .ref a4, .ref a5, .ref a6, .ref a7, .ref a8, .int (nI i9), .ref a10, .ref a11, .ref a12, .ref a13, .ref a14, .ref a15, .int (nI i16), .int (nI i17), .ref a18, .int (nI i19), .ref a20, .ref a21, .int (nI i22), .ref a23])), (a12, .inl (cI, 72, .inl (fun j => nI ((slI sy x d) j)))), (a13, .inl (cI, 8, .inl (fun j => nI (sl j))))] H → va_D A [(h, .inr (8, [.int (nI i0), .int (nI i1), .ref a2, .ref a3, .ref a4, .ref a5, .ref a6, .ref a7, .ref a8, .int (nI i9), .ref a10, .ref a11, .ref a12, .ref a13, .ref a14, .ref a15, .int (nI i16), .int (nI i17), .ref a18, .int (nI i19), .ref a20, .ref a21, .int (nI i22), .ref a23])), (a12, .inl (cI, 72, .inl (fun j => nI ((slI sy x d) j)))), (a13, .inl (cI, 8, .inl (fun j => nI (sl j))))] → va_S A H0 H locs → W p l e R s m args below meth c H locs cells slots Q (F0 m 6 ls []) := by
  obtain ⟨hx, hb, hml, hown, hts⟩ := id S
  refine up_loop (fun d hkd ih => ?_)
  intro ls H locs hl hP hD hS
  refine lv_iload_n hx hb d_m_solve_6 rfl (lv_at hl 3 rfl) ?_
  refine lv_iload_n hx hb d_m_solve_7 rfl (lv_at hl 1 rfl) ?_
  refine n_icmp_ge hx hb d_m_solve_8 (tgt := 234) rfl (by omega) (by omega) (fun g8 => ?_) (fun g8 => ?_)
  · skip
    obtain rfl : d = x := by omega
    exact kx ls H locs (lv_sub hl [0, 1, 2, 3] rfl) hP hD hS
  · skip
    refine lv_iload_n hx hb d_m_solve_11 rfl (lv_at hl 3 rfl) ?_
    refine lv_istore hx hb d_m_solve_12 hl (Nat.le_of_ble_eq_true rfl) rfl (fun ls hl => ?_)
    have hl : lv_has ls 9 [(4, .int (nI d)), (0, .ref h), (1, .int (nI x)), (2, .int (nI (x + 1))), (3, .int (nI d))] := hl
    refine lw_m_solve_ok_14 cI cC h i0 i1 a2 a3 a4 a5 a6 a7 a8 i9 a10 a11 a12 a13 a14 a15 i16 i17 a18 i19 a20 a21 i22 a23 sy sl x hx0 hsy hpv S hRf hRl hRc hK hA d (by omega) (by omega)  (x - d) d (Nat.le_refl _) (by omega) (fun ls H locs hl hP hD hS => ?_) ls H locs (lv_sub hl [1, 2, 3, 4, 0] rfl) hP hD hS
    have hpv9 : (pvW (slI sy x d) x d (x - d) d) < x := hpv d (by omega)
    refine lv_iload hx hb d_m_solve_40 (lv_at hl 4 rfl) ?_
    refine lv_iload_n hx hb d_m_solve_42 rfl (lv_at hl 1 rfl) ?_
    refine n_icmp_ne hx hb d_m_solve_43 (tgt := 48) rfl (by omega) (by omega) (fun g43 => ?_) (fun g43 => absurd g43 (by omega))
    have hs9 := slI_lt hx0 hsy d (by omega) (fun d9 h9 => hpv d9 (by omega))
    have hp0 : (slI sy x d) ((x + 1) * (pvW (slI sy x d) x d (x - d) d) + d) ≠ 0 := pvW_ne hpv9 (by omega)
    refine lv_aload_n hx hb d_m_solve_48 rfl (lv_at hl 0 rfl) ?_
    refine n_get (C := R_Model) (T := F_Model) (N := 24) (v := .ref a12) hx hb hts u_Model_in hown hK hP 0 rfl rfl 12 (by decide) kw_788 rfl d_m_solve_49 ?_
    refine lv_iload_n hx hb d_m_solve_52 rfl (lv_at hl 2 rfl) ?_
    refine lv_iload hx hb d_m_solve_53 (lv_at hl 4 rfl) ?_
    refine n_imul hx hb d_m_solve_55 ?_
    refine lv_iload_n hx hb d_m_solve_56 rfl (lv_at hl 3 rfl) ?_
    refine n_iadd hx hb d_m_solve_57 ?_
    refine n_iald hx hb hK hP 1 0 rfl rfl (ix72 hx0 (by omega) (by omega)) (by decide) d_m_solve_58 ?_
    refine q_pureS (n := 1) (As := [.int (nI ((slI sy x d) (((x + 1) * (pvW (slI sy x d) x d (x - d) d)) + d)))]) (rest := []) S (c_m_inverse l ((slI sy x d) (((x + 1) * (pvW (slI sy x d) x d (x - d) d)) + d)) (hs9 _ (ix72 hx0 (by omega) (by omega))) hp0) (q_goodS kw_969 kw_970 kw_10 kw_971) (by decide +kernel) rfl rfl ⟨Nat.le_trans (Nat.le_of_ble_eq_true rfl) hRf, Nat.le_trans (Nat.le_of_ble_eq_true rfl) hRl⟩ rfl hl.1 rfl (Nat.le_of_ble_eq_true rfl) d_m_solve_59 hRc hS (fun H locs hkp hS => ?_)
    replace hP := hP.kept (fun k q hq => hkp q.1 (hP k q hq).lt)
    refine lv_istore hx hb d_m_solve_62 hl (Nat.le_of_ble_eq_true rfl) rfl (fun ls hl => ?_)
    have hl : lv_has ls 9 [(5, .int (nI (ivN ((slI sy x d) (((x + 1) * (pvW (slI sy x d) x d (x - d) d)) + d))))), (0, .ref h), (1, .int (nI x)), (2, .int (nI (x + 1))), (3, .int (nI d)), (4, .int (nI (pvW (slI sy x d) x d (x - d) d)))] := hl
    refine lv_iconst (v := nI 0) hx hb d_m_solve_64 (by decide) ?_
    refine lv_istore hx hb d_m_solve_65 hl (Nat.le_of_ble_eq_true rfl) rfl (fun ls hl => ?_)
    have hl : lv_has ls 9 [(6, .int (nI 0)), (5, .int (nI (ivN ((slI sy x d) (((x + 1) * (pvW (slI sy x d) x d (x - d) d)) + d))))), (0, .ref h), (1, .int (nI x)), (2, .int (nI (x + 1))), (3, .int (nI d)), (4, .int (nI (pvW (slI sy x d) x d (x - d) d)))] := hl
    refine lp_m_solve_ok_67 cI cC h i0 i1 a2 a3 a4 a5 a6 a7 a8 i9 a10 a11 a12 a13 a14 a15 i16 i17 a18 i19 a20 a21 i22 a23 sy sl x hx0 hsy hpv S hRf hRl hRc hK hA d (by omega) (by omega) hpv9 (fun ls H locs hl hP hD hS => ?_) 0 (by omega) ls H locs (lv_sub hl [2, 3, 4, 5, 6, 1, 0] rfl) hP hD hS
    refine lv_iconst (v := nI 0) hx hb d_m_solve_134 (by decide) ?_
    refine lv_istore hx hb d_m_solve_135 hl (Nat.le_of_ble_eq_true rfl) rfl (fun ls hl => ?_)
    have hl : lv_has ls 9 [(6, .int (nI 0)), (0, .ref h), (1, .int (nI x)), (2, .int (nI (x + 1))), (3, .int (nI d)), (4, .int (nI (pvW (slI sy x d) x d (x - d) d))), (5, .int (nI (ivN ((slI sy x d) ((x + 1) * (pvW (slI sy x d) x d (x - d) d) + d)))))] := hl
    refine lp_m_solve_ok_137 cI cC h i0 i1 a2 a3 a4 a5 a6 a7 a8 i9 a10 a11 a12 a13 a14 a15 i16 i17 a18 i19 a20 a21 i22 a23 sy sl x hx0 hsy hpv S hRf hRl hRc hK hA d (by omega) (by omega) hpv9 (fun ls H locs hl hP hD hS => ?_) 0 (by omega) ls H locs (lv_sub hl [1, 2, 3, 4, 0] rfl) hP hD hS
    refine lv_iinc (k := 3) (v := nI (d + 1)) hx hb d_m_solve_228 hl rfl (nx_inc d 1) (Nat.le_of_ble_eq_true rfl) rfl (fun ls hl => ?_)
    have hl : lv_has ls 9 [(3, .int (nI (d + 1))), (0, .ref h), (1, .int (nI x)), (2, .int (nI (x + 1))), (6, .int (nI x))] := hl
    refine lv_goto hx hb d_m_solve_231 (tgt := 6) rfl ?_
    rw [show slR (slJ (slI sy x d) x (pvW (slI sy x d) x d (x - d) d) d (ivN ((slI sy x d) ((x + 1) * (pvW (slI sy x d) x d (x - d) d) + d))) (x + 1)) x d x = slI sy x (d + 1) from rfl] at hP hD
    exact ih (by omega) ls H locs (lv_sub hl [1, 2, 3, 0] rfl) hP hD hS
set_option maxHeartbeats 1000000 in
set_option maxRecDepth 100000 in
theorem lp_m_solve_ok_236 (cI cC : ClassId) (h i0 i1 a2 a3 a4 a5 a6 a7 a8 i9 a10 a11 a12 a13 a14 a15 i16 i17 a18 i19 a20 a21 i22 a23 : Nat) (sy sl : Nat → Nat) (x : Nat) (hx0 : x ≤ 8) (hsy : lt256 72 sy) (hpv : ∀ d, d < x → (pvW (slI sy x d) x d (x - d) d) < x) (S : CallFix p m c b_m_solve 9 s args (cd_m_solve :: WS) R_Model) (hRf : 2 ≤ R.frames) (hRl : 45 ≤ R.locals) (hRc : cells ≤ R.cells ∧ slots ≤ R.slots) (hK : va_K D classes [(cI, .int), (cC, .char)] s) (hA : ∀ q, H0.size ≤ q → A q) (kx : ∀ (ls : Array Slot) (H : Heap) (locs : List Loc), lv_has ls 9 [(0, .ref h), (1, .int (nI x)), (2, .int (nI (x + 1))), (3, .int (nI x))] → va_P D classes [(h, .inr (8, [.int (nI i0), .int (nI i1), .ref a2, .ref a3, .ref a4, .ref a5, .ref a6, .ref a7, .ref a8, .int (nI i9), .ref a10, .ref a11, .ref a12, .ref a13, .ref a14, .ref a15, .int (nI i16), .int (nI i17), .ref a18, .int (nI i19), .ref a20, .ref a21, .int (nI i22), .ref a23])), (a12, .inl (cI, 72, .inl (fun j => nI ((slI sy x x) j)))), (a13, .inl (cI, 8, .inl (fun j => nI ((soL sl (slI sy x x) x x) j))))] H → va_D A [(h, .inr (8, [.int (nI i0), .int (nI i1), .ref a2, .ref a3, .ref a4, .ref a5, .ref a6, .ref a7, .ref a8, .int (nI i9), .ref a10, .ref a11, .ref a12, .ref a13, .ref a14, .ref a15, .int (nI i16), .int (nI i17), .ref a18, .int (nI i19), .ref a20, .ref a21, .int (nI i22), .ref a23])), (a12, .inl (cI, 72, .inl (fun j => nI ((slI sy x x) j)))), (a13, .inl (cI, 8, .inl (fun j => nI ((soL sl (slI sy x x) x x) j))))] → va_S A H0 H locs → W p l e R s m args below meth c H locs cells slots Q (F0 m 263 ls [])) :
    ∀ k, k ≤ x → ∀ (ls : Array Slot) (H : Heap) (locs : List Loc), lv_has ls 9 [(0, .ref h), (1, .int (nI x)), (2, .int (nI (x + 1))), (3, .int (nI k))] → va_P D classes [(h, .inr (8, [.int (nI i0), .int (nI i1), .ref a2, .ref a3, .ref a4, .ref a5, .ref a6, .ref a7, .ref a8, .int (nI i9), .ref a10, .ref a11, .ref a12, .ref a13, .ref a14, .ref a15, .int (nI i16), .int (nI i17), .ref a18, .int (nI i19), .ref a20, .ref a21, .int (nI i22), .ref a23])), (a12, .inl (cI, 72, .inl (fun j => nI ((slI sy x x) j)))), (a13, .inl (cI, 8, .inl (fun j => nI ((soL sl (slI sy x x) x k) j))))] H → va_D A [(h, .inr (8, [.int (nI i0), .int (nI i1), .ref a2, .ref a3, .ref a4, .ref a5, .ref a6, .ref a7, .ref a8, .int (nI i9), .ref a10, .ref a11, .ref a12, .ref a13, .ref a14, .ref a15, .int (nI i16), .int (nI i17), .ref a18, .int (nI i19), .ref a20, .ref a21, .int (nI i22), .ref a23])), (a12, .inl (cI, 72, .inl (fun j => nI ((slI sy x x) j)))), (a13, .inl (cI, 8, .inl (fun j => nI ((soL sl (slI sy x x) x k) j))))] → va_S A H0 H locs → W p l e R s m args below meth c H locs cells slots Q (F0 m 236 ls []) := by
  obtain ⟨hx, hb, hml, hown, hts⟩ := id S
  refine up_loop (fun k hkk ih => ?_)
  intro ls H locs hl hP hD hS
  refine lv_iload_n hx hb d_m_solve_236 rfl (lv_at hl 3 rfl) ?_
  refine lv_iload_n hx hb d_m_solve_237 rfl (lv_at hl 1 rfl) ?_
  refine n_icmp_ge hx hb d_m_solve_238 (tgt := 263) rfl (by omega) (by omega) (fun g238 => ?_) (fun g238 => ?_)
  · skip
    obtain rfl : k = x := by omega
    exact kx ls H locs (lv_sub hl [0, 1, 2, 3] rfl) hP hD hS
  · skip
    refine lv_aload_n hx hb d_m_solve_241 rfl (lv_at hl 0 rfl) ?_
    refine n_get (C := R_Model) (T := F_Model) (N := 24) (v := .ref a13) hx hb hts u_Model_in hown hK hP 0 rfl rfl 13 (by decide) kw_789 rfl d_m_solve_242 ?_
    refine lv_iload_n hx hb d_m_solve_245 rfl (lv_at hl 3 rfl) ?_
    refine lv_aload_n hx hb d_m_solve_246 rfl (lv_at hl 0 rfl) ?_
    refine n_get (C := R_Model) (T := F_Model) (N := 24) (v := .ref a12) hx hb hts u_Model_in hown hK hP 0 rfl rfl 12 (by decide) kw_788 rfl d_m_solve_247 ?_
    refine lv_iload_n hx hb d_m_solve_250 rfl (lv_at hl 2 rfl) ?_
    refine lv_iload_n hx hb d_m_solve_251 rfl (lv_at hl 3 rfl) ?_
    refine n_imul hx hb d_m_solve_252 ?_
    refine lv_iload_n hx hb d_m_solve_253 rfl (lv_at hl 1 rfl) ?_
    refine n_iadd hx hb d_m_solve_254 ?_
    refine n_iald hx hb hK hP 1 0 rfl rfl (ix72 hx0 (by omega) (by omega)) (by decide) d_m_solve_255 ?_
    refine n_iast hx hb hK hP hD hS 2 0 rfl rfl (by omega) (by decide) d_m_solve_256 (fun H locs hP hD hS => ?_)
    have hP : va_P D classes [(h, .inr (8, [.int (nI i0), .int (nI i1), .ref a2, .ref a3, .ref a4, .ref a5, .ref a6, .ref a7, .ref a8, .int (nI i9), .ref a10, .ref a11, .ref a12, .ref a13, .ref a14, .ref a15, .int (nI i16), .int (nI i17), .ref a18, .int (nI i19), .ref a20, .ref a21, .int (nI i22), .ref a23])), (a12, .inl (cI, 72, .inl (fun j => nI ((slI sy x x) j)))), (a13, .inl (cI, 8, .inl (fun j => nI ((va_up (soL sl (slI sy x x) x k) k ((slI sy x x) (((x + 1) * k) + x))) j))))] H := hP
    have hD : va_D A [(h, .inr (8, [.int (nI i0), .int (nI i1), .ref a2, .ref a3, .ref a4, .ref a5, .ref a6, .ref a7, .ref a8, .int (nI i9), .ref a10, .ref a11, .ref a12, .ref a13, .ref a14, .ref a15, .int (nI i16), .int (nI i17), .ref a18, .int (nI i19), .ref a20, .ref a21, .int (nI i22), .ref a23])), (a12, .inl (cI, 72, .inl (fun j => nI ((slI sy x x) j)))), (a13, .inl (cI, 8, .inl (fun j => nI ((va_up (soL sl (slI sy x x) x k) k ((slI sy x x) (((x + 1) * k) + x))) j))))] := hD
    rw [show va_up (soL sl (slI sy x x) x k) k ((slI sy x x) (((x + 1) * k) + x)) = soL sl (slI sy x x) x (k + 1) from rfl] at hP hD
    refine lv_iinc (k := 3) (v := nI (k + 1)) hx hb d_m_solve_257 hl rfl (nx_inc k 1) (Nat.le_of_ble_eq_true rfl) rfl (fun ls hl => ?_)
    have hl : lv_has ls 9 [(3, .int (nI (k + 1))), (0, .ref h), (1, .int (nI x)), (2, .int (nI (x + 1)))] := hl
    refine lv_goto hx hb d_m_solve_260 (tgt := 236) rfl ?_
    exact ih (by omega) ls H locs (lv_sub hl [1, 2, 3, 0] rfl) hP hD hS
set_option maxHeartbeats 1000000 in
set_option maxRecDepth 100000 in
theorem bd_m_solve_ok (cI cC : ClassId) (h i0 i1 a2 a3 a4 a5 a6 a7 a8 i9 a10 a11 a12 a13 a14 a15 i16 i17 a18 i19 a20 a21 i22 a23 : Nat) (sy sl : Nat → Nat) (x : Nat) (hx0 : x ≤ 8) (hsy : lt256 72 sy) (hpv : ∀ d, d < x → (pvW (slI sy x d) x d (x - d) d) < x) (S : CallFix p m c b_m_solve 9 s args (cd_m_solve :: WS) R_Model) (hRf : 2 ≤ R.frames) (hRl : 45 ≤ R.locals) (hRc : cells ≤ R.cells ∧ slots ≤ R.slots) (hK : va_K D classes [(cI, .int), (cC, .char)] s) (hA : ∀ q, H0.size ≤ q → A q) (kr : ∀ (pc : Nat) (ls : Array Slot) (H : Heap) (locs : List Loc), decode b_m_solve pc = .ok (.ireturn, 1) → va_P D classes [(h, .inr (8, [.int (nI i0), .int (nI i1), .ref a2, .ref a3, .ref a4, .ref a5, .ref a6, .ref a7, .ref a8, .int (nI i9), .ref a10, .ref a11, .ref a12, .ref a13, .ref a14, .ref a15, .int (nI i16), .int (nI i17), .ref a18, .int (nI i19), .ref a20, .ref a21, .int (nI i22), .ref a23])), (a12, .inl (cI, 72, .inl (fun j => nI ((slI sy x x) j)))), (a13, .inl (cI, 8, .inl (fun j => nI ((soL sl (slI sy x x) x x) j))))] H → va_D A [(h, .inr (8, [.int (nI i0), .int (nI i1), .ref a2, .ref a3, .ref a4, .ref a5, .ref a6, .ref a7, .ref a8, .int (nI i9), .ref a10, .ref a11, .ref a12, .ref a13, .ref a14, .ref a15, .int (nI i16), .int (nI i17), .ref a18, .int (nI i19), .ref a20, .ref a21, .int (nI i22), .ref a23])), (a12, .inl (cI, 72, .inl (fun j => nI ((slI sy x x) j)))), (a13, .inl (cI, 8, .inl (fun j => nI ((soL sl (slI sy x x) x x) j))))] → va_S A H0 H locs → W p l e R s m args below meth c H locs cells slots Q (F0 m pc ls [.int (nI 1)])) : ∀ (ls : Array Slot) (H : Heap) (locs : List Loc), lv_has ls 9 [(0, .ref h), (1, .int (nI x))] → va_P D classes [(h, .inr (8, [.int (nI i0), .int (nI i1), .ref a2, .ref a3, .ref a4, .ref a5, .ref a6, .ref a7, .ref a8, .int (nI i9), .ref a10, .ref a11, .ref a12, .ref a13, .ref a14, .ref a15, .int (nI i16), .int (nI i17), .ref a18, .int (nI i19), .ref a20, .ref a21, .int (nI i22), .ref a23])), (a12, .inl (cI, 72, .inl (fun j => nI (sy j)))), (a13, .inl (cI, 8, .inl (fun j => nI (sl j))))] H → va_D A [(h, .inr (8, [.int (nI i0), .int (nI i1), .ref a2, .ref a3, .ref a4, .ref a5, .ref a6, .ref a7, .ref a8, .int (nI i9), .ref a10, .ref a11, .ref a12, .ref a13, .ref a14, .ref a15, .int (nI i16), .int (nI i17), .ref a18, .int (nI i19), .ref a20, .ref a21, .int (nI i22), .ref a23])), (a12, .inl (cI, 72, .inl (fun j => nI (sy j)))), (a13, .inl (cI, 8, .inl (fun j => nI (sl j))))] → va_S A H0 H locs → W p l e R s m args below meth c H locs cells slots Q (F0 m 0 ls []) := by
  obtain ⟨hx, hb, hml, hown, hts⟩ := id S
  intro ls H locs hl hP hD hS
  refine lv_iload_n hx hb d_m_solve_0 rfl (lv_at hl 1 rfl) ?_
  refine lv_iconst (v := nI 1) hx hb d_m_solve_1 (by decide) ?_
  refine n_iadd hx hb d_m_solve_2 ?_
  refine lv_istore_n hx hb d_m_solve_3 rfl hl (Nat.le_of_ble_eq_true rfl) rfl (fun ls hl => ?_)
  have hl : lv_has ls 9 [(2, .int (nI (x + 1))), (0, .ref h), (1, .int (nI x))] := hl
  refine lv_iconst (v := nI 0) hx hb d_m_solve_4 (by decide) ?_
  refine lv_istore_n hx hb d_m_solve_5 rfl hl (Nat.le_of_ble_eq_true rfl) rfl (fun ls hl => ?_)
  have hl : lv_has ls 9 [(3, .int (nI 0)), (2, .int (nI (x + 1))), (0, .ref h), (1, .int (nI x))] := hl
  refine lp_m_solve_ok_6 cI cC h i0 i1 a2 a3 a4 a5 a6 a7 a8 i9 a10 a11 a12 a13 a14 a15 i16 i17 a18 i19 a20 a21 i22 a23 sy sl x hx0 hsy hpv S hRf hRl hRc hK hA  (fun ls H locs hl hP hD hS => ?_) 0 (by omega) ls H locs (lv_sub hl [2, 3, 1, 0] rfl) hP hD hS
  refine lv_iconst (v := nI 0) hx hb d_m_solve_234 (by decide) ?_
  refine lv_istore_n hx hb d_m_solve_235 rfl hl (Nat.le_of_ble_eq_true rfl) rfl (fun ls hl => ?_)
  have hl : lv_has ls 9 [(3, .int (nI 0)), (0, .ref h), (1, .int (nI x)), (2, .int (nI (x + 1)))] := hl
  refine lp_m_solve_ok_236 cI cC h i0 i1 a2 a3 a4 a5 a6 a7 a8 i9 a10 a11 a12 a13 a14 a15 i16 i17 a18 i19 a20 a21 i22 a23 sy sl x hx0 hsy hpv S hRf hRl hRc hK hA  (fun ls H locs hl hP hD hS => ?_) 0 (by omega) ls H locs (lv_sub hl [1, 2, 3, 0] rfl) hP hD hS
  refine lv_iconst (v := nI 1) hx hb d_m_solve_263 (by decide) ?_
  exact kr _ ls H locs d_m_solve_264 hP hD hS
set_option maxHeartbeats 1000000 in
set_option maxRecDepth 100000 in
theorem c_m_solve_ok (l : Launch) (D : va_G) (cI cC : ClassId) (h i0 i1 a2 a3 a4 a5 a6 a7 a8 i9 a10 a11 a12 a13 a14 a15 i16 i17 a18 i19 a20 a21 i22 a23 : Nat) (sy sl : Nat → Nat) (x : Nat) (hx0 : x ≤ 8) (hsy : lt256 72 sy) (hpv : ∀ d, d < x → (pvW (slI sy x d) x d (x - d) d) < x) (sz : Nat) : Met l y_m_solve (cd_m_solve :: WS) { frames := 2, cells := 0, slots := 0, locals := 45 } (va_Pc [.ref h, .int (nI x)] (wP D [(h, .inr (8, [.int (nI i0), .int (nI i1), .ref a2, .ref a3, .ref a4, .ref a5, .ref a6, .ref a7, .ref a8, .int (nI i9), .ref a10, .ref a11, .ref a12, .ref a13, .ref a14, .ref a15, .int (nI i16), .int (nI i17), .ref a18, .int (nI i19), .ref a20, .ref a21, .int (nI i22), .ref a23])), (a12, .inl (cI, 72, .inl (fun j => nI (sy j)))), (a13, .inl (cI, 8, .inl (fun j => nI (sl j))))] [(cI, .int), (cC, .char)] sz)) (wQi D (nI 1) [(h, .inr (8, [.int (nI i0), .int (nI i1), .ref a2, .ref a3, .ref a4, .ref a5, .ref a6, .ref a7, .ref a8, .int (nI i9), .ref a10, .ref a11, .ref a12, .ref a13, .ref a14, .ref a15, .int (nI i16), .int (nI i17), .ref a18, .int (nI i19), .ref a20, .ref a21, .int (nI i22), .ref a23])), (a12, .inl (cI, 72, .inl (fun j => nI (sy j)))), (a13, .inl (cI, 8, .inl (fun j => nI (sl j))))] [(h, .inr (8, [.int (nI i0), .int (nI i1), .ref a2, .ref a3, .ref a4, .ref a5, .ref a6, .ref a7, .ref a8, .int (nI i9), .ref a10, .ref a11, .ref a12, .ref a13, .ref a14, .ref a15, .int (nI i16), .int (nI i17), .ref a18, .int (nI i19), .ref a20, .ref a21, .int (nI i22), .ref a23])), (a12, .inl (cI, 72, .inl (fun j => nI ((slI sy x x) j)))), (a13, .inl (cI, 8, .inl (fun j => nI ((soL sl (slI sy x x) x x) j))))] sz) 0 0 (va_A [(h, .inr (8, [.int (nI i0), .int (nI i1), .ref a2, .ref a3, .ref a4, .ref a5, .ref a6, .ref a7, .ref a8, .int (nI i9), .ref a10, .ref a11, .ref a12, .ref a13, .ref a14, .ref a15, .int (nI i16), .int (nI i17), .ref a18, .int (nI i19), .ref a20, .ref a21, .int (nI i22), .ref a23])), (a12, .inl (cI, 72, .inl (fun j => nI (sy j)))), (a13, .inl (cI, 8, .inl (fun j => nI (sl j))))] sz) := by
  refine Met.ofW (cc := b_m_solve) (maxL := 9) (ret := (some .boolean)) (by decide) rfl ?_
  intro p e s m args below meth c s₁ B hml hv0
  obtain ⟨rfl, hP, hK, hD0, hsz⟩ := hv0
  have hts := atoms_spec (ws := cd_m_solve :: WS) B.pre
  have hown : s.vm.findClass R_Model = some m.cls := findClass_of_methodNamed B.named
  have hlocks := B.notSynchronized
  subst hsz
  have hD := hD0.self (sz := s.heap.size)
  have hl := lv_entry ([.ref h, .int (nI x)]) (n := 9) (Nat.le_of_ble_eq_true rfl)
  rw [lg_entry_eq]
  generalize (lg_sl ([.ref h, .int (nI x)]) ++ List.replicate (9 - (lg_sl ([.ref h, .int (nI x)])).length) Slot.unset).toArray = ls at hl ⊢
  refine bd_m_solve_ok cI cC h i0 i1 a2 a3 a4 a5 a6 a7 a8 i9 a10 a11 a12 a13 a14 a15 i16 i17 a18 i19 a20 a21 i22 a23 sy sl x hx0 hsy hpv ⟨B.exec, B.bytes, hml, hown, hts⟩ (Nat.le_refl _) (Nat.le_refl _) ⟨Nat.le_refl _, Nat.le_refl _⟩ hK (fun q h => Or.inr h) (fun pc ls H locs hd hP hD hS => ?_) ls _ _ hl hP hD (va_S.rf)
  exact W.zret B.exec B.bytes B.returns rfl (fun t ht _ => ⟨⟨_, (), rfl, rfl, (by have h9 := hP; rw [← ht] at h9; exact h9)⟩, hS.F ht⟩) hS.2.2 hd
end
section
variable {p : Program} {l : Launch} {e : Env} {R : Room} {s : State} {m : MethodId} {args : Array Value} {below : List Frame} {meth : Method} {c : Code} {cells slots : Nat} {Q : State → Prop} {A : Nat → Prop} {H0 : Heap} {D : va_G}
set_option maxHeartbeats 1000000 in
set_option maxRecDepth 100000 in
theorem lw_m_solve_no_14 (cI cC : ClassId) (h i0 i1 a2 a3 a4 a5 a6 a7 a8 i9 a10 a11 a12 a13 a14 a15 i16 i17 a18 i19 a20 a21 i22 a23 : Nat) (sy sl : Nat → Nat) (x : Nat) (hx0 : x ≤ 8) (hsy : lt256 72 sy) (d0 : Nat) (hd0 : d0 < x) (hpv : ∀ d, d < d0 → (pvW (slI sy x d) x d (x - d) d) < x) (hno : (pvW (slI sy x d0) x d0 (x - d0) d0) = x) (S : CallFix p m c b_m_solve 9 s args (cd_m_solve :: WS) R_Model) (hRf : 2 ≤ R.frames) (hRl : 45 ≤ R.locals) (hRc : cells ≤ R.cells ∧ slots ≤ R.slots) (hK : va_K D classes [(cI, .int), (cC, .char)] s) (hA : ∀ q, H0.size ≤ q → A q) (d : Nat) (hd9 : d < x) (hdm : d ≤ d0) :
    ∀ (n : Nat) (q : Nat), (x - q ≤ n) → (q ≤ x) → (∀ (ls : Array Slot) (H : Heap) (locs : List Loc), lv_has ls 9 [(0, .ref h), (1, .int (nI x)), (2, .int (nI (x + 1))), (3, .int (nI d)), (4, .int (nI (pvW (slI sy x d) x d n q)))] → va_P D classes [(h, .inr (8, [.int (nI i0), .int (nI i1), .ref a2, .ref a3, .ref a4, .ref a5, .ref a6, .ref a7, .ref a8, .int (nI i9), .ref a10, .ref a11, .ref a12, .ref a13, .ref a14, .ref a15, .int (nI i16), .int (nI i17), .ref a18, .int (nI i19), .ref a20, .ref a21, .int (nI i22), .ref a23])), (a12, .inl (cI, 72, .inl (fun j => nI ((slI sy x d) j)))), (a13, .inl (cI, 8, .inl (fun j => nI (sl j))))] H → va_D A [(h, .inr (8, [.int (nI i0), .int (nI i1), .ref a2, .ref a3, .ref a4, .ref a5, .ref a6, .ref a7, .ref a8, .int (nI i9), .ref a10, .ref a11, .ref a12, .ref a13, .ref a14, .ref a15, .int (nI i16), .int (nI i17), .ref a18, .int (nI i19), .ref a20, .ref a21, .int (nI i22), .ref a23])), (a12, .inl (cI, 72, .inl (fun j => nI ((slI sy x d) j)))), (a13, .inl (cI, 8, .inl (fun j => nI (sl j))))] → va_S A H0 H locs → W p l e R s m args below meth c H locs cells slots Q (F0 m 40 ls [])) → ∀ (ls : Array Slot) (H : Heap) (locs : List Loc), lv_has ls 9 [(0, .ref h), (1, .int (nI x)), (2, .int (nI (x + 1))), (3, .int (nI d)), (4, .int (nI q))] → va_P D classes [(h, .inr (8, [.int (nI i0), .int (nI i1), .ref a2, .ref a3, .ref a4, .ref a5, .ref a6, .ref a7, .ref a8, .int (nI i9), .ref a10, .ref a11, .ref a12, .ref a13, .ref a14, .ref a15, .int (nI i16), .int (nI i17), .ref a18, .int (nI i19), .ref a20, .ref a21, .int (nI i22), .ref a23])), (a12, .inl (cI, 72, .inl (fun j => nI ((slI sy x d) j)))), (a13, .inl (cI, 8, .inl (fun j => nI (sl j))))] H → va_D A [(h, .inr (8, [.int (nI i0), .int (nI i1), .ref a2, .ref a3, .ref a4, .ref a5, .ref a6, .ref a7, .ref a8, .int (nI i9), .ref a10, .ref a11, .ref a12, .ref a13, .ref a14, .ref a15, .int (nI i16), .int (nI i17), .ref a18, .int (nI i19), .ref a20, .ref a21, .int (nI i22), .ref a23])), (a12, .inl (cI, 72, .inl (fun j => nI ((slI sy x d) j)))), (a13, .inl (cI, 8, .inl (fun j => nI (sl j))))] → va_S A H0 H locs → W p l e R s m args below meth c H locs cells slots Q (F0 m 14 ls []) := by
  obtain ⟨hx, hb, hml, hown, hts⟩ := id S
  refine fuel_ind (fun n ih => ?_)
  intro q hqn hqx kx ls H locs hl hP hD hS
  have hs9 := slI_lt hx0 hsy d (by omega) (fun d9 h9 => hpv d9 (by omega))
  refine lv_iload hx hb d_m_solve_14 (lv_at hl 4 rfl) ?_
  refine lv_iload_n hx hb d_m_solve_16 rfl (lv_at hl 1 rfl) ?_
  refine n_icmp_ge hx hb d_m_solve_17 (tgt := 40) rfl (by omega) (by omega) (fun g17 => ?_) (fun g17 => ?_)
  · skip
    first | rw [pvW_z (Or.inl g17)] at kx | rw [pvW_z (Or.inr g31)] at kx
    exact kx ls H locs (lv_sub hl [0, 1, 2, 3, 4] rfl) hP hD hS
  · skip
    refine lv_aload_n hx hb d_m_solve_20 rfl (lv_at hl 0 rfl) ?_
    refine n_get (C := R_Model) (T := F_Model) (N := 24) (v := .ref a12) hx hb hts u_Model_in hown hK hP 0 rfl rfl 12 (by decide) kw_788 rfl d_m_solve_21 ?_
    refine lv_iload_n hx hb d_m_solve_24 rfl (lv_at hl 2 rfl) ?_
    refine lv_iload hx hb d_m_solve_25 (lv_at hl 4 rfl) ?_
    refine n_imul hx hb d_m_solve_27 ?_
    refine lv_iload_n hx hb d_m_solve_28 rfl (lv_at hl 3 rfl) ?_
    refine n_iadd hx hb d_m_solve_29 ?_
    refine n_iald hx hb hK hP 1 0 rfl rfl (ix72 hx0 (by omega) (by omega)) (by decide) d_m_solve_30 ?_
    refine n_if_ne hx hb d_m_solve_31 (tgt := 40) rfl (Nat.lt_trans (hs9 _ (ix72 hx0 (by omega) (by omega))) (by decide)) (fun g31 => ?_) (fun g31 => ?_)
    · skip
      first | rw [pvW_z (Or.inl g17)] at kx | rw [pvW_z (Or.inr g31)] at kx
      exact kx ls H locs (lv_sub hl [0, 1, 2, 3, 4] rfl) hP hD hS
    · skip
      refine lv_iinc (k := 4) (v := nI (q + 1)) hx hb d_m_solve_34 hl rfl (nx_inc q 1) (Nat.le_of_ble_eq_true rfl) rfl (fun ls hl => ?_)
      have hl : lv_has ls 9 [(4, .int (nI (q + 1))), (0, .ref h), (1, .int (nI x)), (2, .int (nI (x + 1))), (3, .int (nI d))] := hl
      refine lv_goto hx hb d_m_solve_37 (tgt := 14) rfl ?_
      obtain ⟨m9, rfl⟩ : ∃ m9, n = m9 + 1 := ⟨n - 1, by omega⟩
      rw [pvW_s g17 g31] at kx
      exact ih _ rfl (q + 1) (by omega) (by omega) kx ls H locs (lv_sub hl [1, 2, 3, 4, 0] rfl) hP hD hS
set_option maxHeartbeats 1000000 in
set_option maxRecDepth 100000 in
theorem lp_m_solve_no_169 (cI cC : ClassId) (h i0 i1 a2 a3 a4 a5 a6 a7 a8 i9 a10 a11 a12 a13 a14 a15 i16 i17 a18 i19 a20 a21 i22 a23 : Nat) (sy sl : Nat → Nat) (x : Nat) (hx0 : x ≤ 8) (hsy : lt256 72 sy) (d0 : Nat) (hd0 : d0 < x) (hpv : ∀ d, d < d0 → (pvW (slI sy x d) x d (x - d) d) < x) (hno : (pvW (slI sy x d0) x d0 (x - d0) d0) = x) (S : CallFix p m c b_m_solve 9 s args (cd_m_solve :: WS) R_Model) (hRf : 2 ≤ R.frames) (hRl : 45 ≤ R.locals) (hRc : cells ≤ R.cells ∧ slots ≤ R.slots) (hK : va_K D classes [(cI, .int), (cC, .char)] s) (hA : ∀ q, H0.size ≤ q → A q) (d : Nat) (hd9 : d < x) (hdm : d ≤ d0) (hpv9 : (pvW (slI sy x d) x d (x - d) d) < x) (r : Nat) (hr9 : r < x) (f : Nat) (hf9 : f < 256) (kx : ∀ (ls : Array Slot) (H : Heap) (locs : List Loc), lv_has ls 9 [(0, .ref h), (1, .int (nI x)), (2, .int (nI (x + 1))), (3, .int (nI d)), (6, .int (nI r)), (7, .int (nI f)), (8, .int (nI (x + 1)))] → va_P D classes [(h, .inr (8, [.int (nI i0), .int (nI i1), .ref a2, .ref a3, .ref a4, .ref a5, .ref a6, .ref a7, .ref a8, .int (nI i9), .ref a10, .ref a11, .ref a12, .ref a13, .ref a14, .ref a15, .int (nI i16), .int (nI i17), .ref a18, .int (nI i19), .ref a20, .ref a21, .int (nI i22), .ref a23])), (a12, .inl (cI, 72, .inl (fun j => nI ((slK (slR (slJ (slI sy x d) x (pvW (slI sy x d) x d (x - d) d) d (ivN ((slI sy x d) ((x + 1) * (pvW (slI sy x d) x d (x - d) d) + d))) (x + 1)) x d r) x r d f (x + 1)) j)))), (a13, .inl (cI, 8, .inl (fun j => nI (sl j))))] H → va_D A [(h, .inr (8, [.int (nI i0), .int (nI i1), .ref a2, .ref a3, .ref a4, .ref a5, .ref a6, .ref a7, .ref a8, .int (nI i9), .ref a10, .ref a11, .ref a12, .ref a13, .ref a14, .ref a15, .int (nI i16), .int (nI i17), .ref a18, .int (nI i19), .ref a20, .ref a21, .int (nI i22), .ref a23])), (a12, .inl (cI, 72, .inl (fun j => nI ((slK (slR (slJ (slI sy x d) x (pvW (slI sy x d) x d (x - d) d) d (ivN ((slI sy x d) ((x + 1) * (pvW (slI sy x d) x d (x - d) d) + d))) (x + 1)) x d r) x r d f (x + 1)) j)))), (a13, .inl (cI, 8, .inl (fun j => nI (sl j))))] → va_S A H0 H locs → W p l e R s m args below meth c H locs cells slots Q (F0 m 222 ls [])) :
    ∀ k, k ≤ x + 1 → ∀ (ls : Array Slot) (H : Heap) (locs : List Loc), lv_has ls 9 [(0, .ref h), (1, .int (nI x)), (2, .int (nI (x + 1))), (3, .int (nI d)), (6, .int (nI r)), (7, .int (nI f)), (8, .int (nI k))] → va_P D classes [(h, .inr (8, [.int (nI i0), .int (nI i1), .ref a2, .ref a3, .ref a4, .ref a5, .ref a6, .ref a7, .ref a8, .int (nI i9), .ref a10, .ref a11, .ref a12, .ref a13, .ref a14, .ref a15, .int (nI i16), .int (nI i17), .ref a18, .int (nI i19), .ref a20, .ref a21, .int (nI i22), .ref a23])), (a12, .inl (cI, 72, .inl (fun j => nI ((slK (slR (slJ (slI sy x d) x (pvW (slI sy x d) x d (x - d) d) d (ivN ((slI sy x d) ((x + 1) * (pvW (slI sy x d) x d (x - d) d) + d))) (x + 1)) x d r) x r d f k) j)))), (a13, .inl (cI, 8, .inl (fun j => nI (sl j))))] H → va_D A [(h, .inr (8, [.int (nI i0), .int (nI i1), .ref a2, .ref a3, .ref a4, .ref a5, .ref a6, .ref a7, .ref a8, .int (nI i9), .ref a10, .ref a11, .ref a12, .ref a13, .ref a14, .ref a15, .int (nI i16), .int (nI i17), .ref a18, .int (nI i19), .ref a20, .ref a21, .int (nI i22), .ref a23])), (a12, .inl (cI, 72, .inl (fun j => nI ((slK (slR (slJ (slI sy x d) x (pvW (slI sy x d) x d (x - d) d) d (ivN ((slI sy x d) ((x + 1) * (pvW (slI sy x d) x d (x - d) d) + d))) (x + 1)) x d r) x r d f k) j)))), (a13, .inl (cI, 8, .inl (fun j => nI (sl j))))] → va_S A H0 H locs → W p l e R s m args below meth c H locs cells slots Q (F0 m 169 ls []) := by
  obtain ⟨hx, hb, hml, hown, hts⟩ := id S
  refine up_loop (fun k hkk ih => ?_)
  intro ls H locs hl hP hD hS
  have hsR := slR_lt hx0 hd9 (slJ_lt (p := (pvW (slI sy x d) x d (x - d) d)) (c := d) (sc := (ivN ((slI sy x d) ((x + 1) * (pvW (slI sy x d) x d (x - d) d) + d)))) hx0 hpv9 hd9 (slI_lt hx0 hsy d (by omega) (fun d9 h9 => hpv d9 (by omega))) (ivN_lt _) (x + 1) (by omega)) r (by omega)
  have hsK := slK_lt (c := d) hx0 hr9 hf9 hsR k (by omega)
  refine lv_iload hx hb d_m_solve_169 (lv_at hl 6 rfl) ?_
  refine lv_iload_n hx hb d_m_solve_171 rfl (lv_at hl 2 rfl) ?_
  refine n_icmp_ge hx hb d_m_solve_172 (tgt := 222) rfl (by omega) (by omega) (fun g172 => ?_) (fun g172 => ?_)
  · skip
    obtain rfl : k = x + 1 := by omega
    exact kx ls H locs (lv_sub hl [0, 1, 2, 3, 4, 5, 6] rfl) hP hD hS
  · skip
    refine lv_aload_n hx hb d_m_solve_175 rfl (lv_at hl 0 rfl) ?_
    refine n_get (C := R_Model) (T := F_Model) (N := 24) (v := .ref a12) hx hb hts u_Model_in hown hK hP 0 rfl rfl 12 (by decide) kw_788 rfl d_m_solve_176 ?_
    refine lv_iload_n hx hb d_m_solve_179 rfl (lv_at hl 2 rfl) ?_
    refine lv_iload hx hb d_m_solve_180 (lv_at hl 4 rfl) ?_
    refine n_imul hx hb d_m_solve_182 ?_
    refine lv_iload hx hb d_m_solve_183 (lv_at hl 6 rfl) ?_
    refine n_iadd hx hb d_m_solve_185 ?_
    refine lv_aload_n hx hb d_m_solve_186 rfl (lv_at hl 0 rfl) ?_
    refine n_get (C := R_Model) (T := F_Model) (N := 24) (v := .ref a12) hx hb hts u_Model_in hown hK hP 0 rfl rfl 12 (by decide) kw_788 rfl d_m_solve_187 ?_
    refine lv_iload_n hx hb d_m_solve_190 rfl (lv_at hl 2 rfl) ?_
    refine lv_iload hx hb d_m_solve_191 (lv_at hl 4 rfl) ?_
    refine n_imul hx hb d_m_solve_193 ?_
    refine lv_iload hx hb d_m_solve_194 (lv_at hl 6 rfl) ?_
    refine n_iadd hx hb d_m_solve_196 ?_
    refine n_iald hx hb hK hP 1 0 rfl rfl (ix72 hx0 (by omega) (by omega)) (by decide) d_m_solve_197 ?_
    refine lv_iload hx hb d_m_solve_198 (lv_at hl 5 rfl) ?_
    refine lv_aload_n hx hb d_m_solve_200 rfl (lv_at hl 0 rfl) ?_
    refine n_get (C := R_Model) (T := F_Model) (N := 24) (v := .ref a12) hx hb hts u_Model_in hown hK hP 0 rfl rfl 12 (by decide) kw_788 rfl d_m_solve_201 ?_
    refine lv_iload_n hx hb d_m_solve_204 rfl (lv_at hl 2 rfl) ?_
    refine lv_iload_n hx hb d_m_solve_205 rfl (lv_at hl 3 rfl) ?_
    refine n_imul hx hb d_m_solve_206 ?_
    refine lv_iload hx hb d_m_solve_207 (lv_at hl 6 rfl) ?_
    refine n_iadd hx hb d_m_solve_209 ?_
    refine n_iald hx hb hK hP 1 0 rfl rfl (ix72 hx0 (by omega) (by omega)) (by decide) d_m_solve_210 ?_
    refine q_pureS (n := 2) (As := [.int (nI f), .int (nI ((slK (slR (slJ (slI sy x d) x (pvW (slI sy x d) x d (x - d) d) d (ivN ((slI sy x d) ((x + 1) * (pvW (slI sy x d) x d (x - d) d) + d))) (x + 1)) x d r) x r d f k) (((x + 1) * d) + k)))]) (rest := [.int (nI ((slK (slR (slJ (slI sy x d) x (pvW (slI sy x d) x d (x - d) d) d (ivN ((slI sy x d) ((x + 1) * (pvW (slI sy x d) x d (x - d) d) + d))) (x + 1)) x d r) x r d f k) (((x + 1) * r) + k))), .int (nI (((x + 1) * r) + k)), .ref a12]) S (c_m_times l f ((slK (slR (slJ (slI sy x d) x (pvW (slI sy x d) x d (x - d) d) d (ivN ((slI sy x d) ((x + 1) * (pvW (slI sy x d) x d (x - d) d) + d))) (x + 1)) x d r) x r d f k) (((x + 1) * d) + k)) hf9 (hsK _ (ix72 hx0 (by omega) (by omega)))) (q_goodS kw_890 kw_891 kw_10 kw_892) (by decide +kernel) rfl rfl ⟨Nat.le_trans (Nat.le_of_ble_eq_true rfl) hRf, Nat.le_trans (Nat.le_of_ble_eq_true rfl) hRl⟩ rfl hl.1 rfl (Nat.le_of_ble_eq_true rfl) d_m_solve_211 hRc hS (fun H locs hkp hS => ?_)
    replace hP := hP.kept (fun k q hq => hkp q.1 (hP k q hq).lt)
    refine n_ixor hx hb d_m_solve_214 ?_
    refine n_iast hx hb hK hP hD hS 1 0 rfl rfl (ix72 hx0 (by omega) (by omega)) (by decide) d_m_solve_215 (fun H locs hP hD hS => ?_)
    have hP : va_P D classes [(h, .inr (8, [.int (nI i0), .int (nI i1), .ref a2, .ref a3, .ref a4, .ref a5, .ref a6, .ref a7, .ref a8, .int (nI i9), .ref a10, .ref a11, .ref a12, .ref a13, .ref a14, .ref a15, .int (nI i16), .int (nI i17), .ref a18, .int (nI i19), .ref a20, .ref a21, .int (nI i22), .ref a23])), (a12, .inl (cI, 72, .inl (fun j => nI ((va_up (slK (slR (slJ (slI sy x d) x (pvW (slI sy x d) x d (x - d) d) d (ivN ((slI sy x d) ((x + 1) * (pvW (slI sy x d) x d (x - d) d) + d))) (x + 1)) x d r) x r d f k) (((x + 1) * r) + k) (((slK (slR (slJ (slI sy x d) x (pvW (slI sy x d) x d (x - d) d) d (ivN ((slI sy x d) ((x + 1) * (pvW (slI sy x d) x d (x - d) d) + d))) (x + 1)) x d r) x r d f k) (((x + 1) * r) + k)) ^^^ (gm f ((slK (slR (slJ (slI sy x d) x (pvW (slI sy x d) x d (x - d) d) d (ivN ((slI sy x d) ((x + 1) * (pvW (slI sy x d) x d (x - d) d) + d))) (x + 1)) x d r) x r d f k) (((x + 1) * d) + k))))) j)))), (a13, .inl (cI, 8, .inl (fun j => nI (sl j))))] H := hP
    have hD : va_D A [(h, .inr (8, [.int (nI i0), .int (nI i1), .ref a2, .ref a3, .ref a4, .ref a5, .ref a6, .ref a7, .ref a8, .int (nI i9), .ref a10, .ref a11, .ref a12, .ref a13, .ref a14, .ref a15, .int (nI i16), .int (nI i17), .ref a18, .int (nI i19), .ref a20, .ref a21, .int (nI i22), .ref a23])), (a12, .inl (cI, 72, .inl (fun j => nI ((va_up (slK (slR (slJ (slI sy x d) x (pvW (slI sy x d) x d (x - d) d) d (ivN ((slI sy x d) ((x + 1) * (pvW (slI sy x d) x d (x - d) d) + d))) (x + 1)) x d r) x r d f k) (((x + 1) * r) + k) (((slK (slR (slJ (slI sy x d) x (pvW (slI sy x d) x d (x - d) d) d (ivN ((slI sy x d) ((x + 1) * (pvW (slI sy x d) x d (x - d) d) + d))) (x + 1)) x d r) x r d f k) (((x + 1) * r) + k)) ^^^ (gm f ((slK (slR (slJ (slI sy x d) x (pvW (slI sy x d) x d (x - d) d) d (ivN ((slI sy x d) ((x + 1) * (pvW (slI sy x d) x d (x - d) d) + d))) (x + 1)) x d r) x r d f k) (((x + 1) * d) + k))))) j)))), (a13, .inl (cI, 8, .inl (fun j => nI (sl j))))] := hD
    rw [show va_up (slK (slR (slJ (slI sy x d) x (pvW (slI sy x d) x d (x - d) d) d (ivN ((slI sy x d) ((x + 1) * (pvW (slI sy x d) x d (x - d) d) + d))) (x + 1)) x d r) x r d f k) (((x + 1) * r) + k) (((slK (slR (slJ (slI sy x d) x (pvW (slI sy x d) x d (x - d) d) d (ivN ((slI sy x d) ((x + 1) * (pvW (slI sy x d) x d (x - d) d) + d))) (x + 1)) x d r) x r d f k) (((x + 1) * r) + k)) ^^^ (gm f ((slK (slR (slJ (slI sy x d) x (pvW (slI sy x d) x d (x - d) d) d (ivN ((slI sy x d) ((x + 1) * (pvW (slI sy x d) x d (x - d) d) + d))) (x + 1)) x d r) x r d f k) (((x + 1) * d) + k)))) = slK (slR (slJ (slI sy x d) x (pvW (slI sy x d) x d (x - d) d) d (ivN ((slI sy x d) ((x + 1) * (pvW (slI sy x d) x d (x - d) d) + d))) (x + 1)) x d r) x r d f (k + 1) from rfl] at hP hD
    refine lv_iinc (k := 6) (v := nI (k + 1)) hx hb d_m_solve_216 hl rfl (nx_inc k 1) (Nat.le_of_ble_eq_true rfl) rfl (fun ls hl => ?_)
    have hl : lv_has ls 9 [(8, .int (nI (k + 1))), (0, .ref h), (1, .int (nI x)), (2, .int (nI (x + 1))), (3, .int (nI d)), (6, .int (nI r)), (7, .int (nI f))] := hl
    refine lv_goto hx hb d_m_solve_219 (tgt := 169) rfl ?_
    exact ih (by omega) ls H locs (lv_sub hl [1, 2, 3, 4, 5, 6, 0] rfl) hP hD hS
set_option maxHeartbeats 1000000 in
set_option maxRecDepth 100000 in
theorem lp_m_solve_no_137 (cI cC : ClassId) (h i0 i1 a2 a3 a4 a5 a6 a7 a8 i9 a10 a11 a12 a13 a14 a15 i16 i17 a18 i19 a20 a21 i22 a23 : Nat) (sy sl : Nat → Nat) (x : Nat) (hx0 : x ≤ 8) (hsy : lt256 72 sy) (d0 : Nat) (hd0 : d0 < x) (hpv : ∀ d, d < d0 → (pvW (slI sy x d) x d (x - d) d) < x) (hno : (pvW (slI sy x d0) x d0 (x - d0) d0) = x) (S : CallFix p m c b_m_solve 9 s args (cd_m_solve :: WS) R_Model) (hRf : 2 ≤ R.frames) (hRl : 45 ≤ R.locals) (hRc : cells ≤ R.cells ∧ slots ≤ R.slots) (hK : va_K D classes [(cI, .int), (cC, .char)] s) (hA : ∀ q, H0.size ≤ q → A q) (d : Nat) (hd9 : d < x) (hdm : d ≤ d0) (hpv9 : (pvW (slI sy x d) x d (x - d) d) < x) (kx : ∀ (ls : Array Slot) (H : Heap) (locs : List Loc), lv_has ls 9 [(0, .ref h), (1, .int (nI x)), (2, .int (nI (x + 1))), (3, .int (nI d)), (6, .int (nI x))] → va_P D classes [(h, .inr (8, [.int (nI i0), .int (nI i1), .ref a2, .ref a3, .ref a4, .ref a5, .ref a6, .ref a7, .ref a8, .int (nI i9), .ref a10, .ref a11, .ref a12, .ref a13, .ref a14, .ref a15, .int (nI i16), .int (nI i17), .ref a18, .int (nI i19), .ref a20, .ref a21, .int (nI i22), .ref a23])), (a12, .inl (cI, 72, .inl (fun j => nI ((slR (slJ (slI sy x d) x (pvW (slI sy x d) x d (x - d) d) d (ivN ((slI sy x d) ((x + 1) * (pvW (slI sy x d) x d (x - d) d) + d))) (x + 1)) x d x) j)))), (a13, .inl (cI, 8, .inl (fun j => nI (sl j))))] H → va_D A [(h, .inr (8, [.int (nI i0), .int (nI i1), .ref a2, .ref a3, .ref a4, .ref a5, .ref a6, .ref a7, .ref a8, .int (nI i9), .ref a10, .ref a11, .ref a12, .ref a13, .ref a14, .ref a15, .int (nI i16), .int (nI i17), .ref a18, .int (nI i19), .ref a20, .ref a21, .int (nI i22), .ref a23])), (a12, .inl (cI, 72, .inl (fun j => nI ((slR (slJ (slI sy x d) x (pvW (slI sy x d) x d (x - d) d) d (ivN ((slI sy x d) ((x + 1) * (pvW (slI sy x d) x d (x - d) d) + d))) (x + 1)) x d x) j)))), (a13, .inl (cI, 8, .inl (fun j => nI (sl j))))] → va_S A H0 H locs → W p l e R s m args below meth c H locs cells slots Q (F0 m 228 ls [])) :
    ∀ r, r ≤ x → ∀ (ls : Array Slot) (H : Heap) (locs : List Loc), lv_has ls 9 [(0, .ref h), (1, .int (nI x)), (2, .int (nI (x + 1))), (3, .int (nI d)), (6, .int (nI r))] → va_P D classes [(h, .inr (8, [.int (nI i0), .int (nI i1), .ref a2, .ref a3, .ref a4, .ref a5, .ref a6, .ref a7, .ref a8, .int (nI i9), .ref a10, .ref a11, .ref a12, .ref a13, .ref a14, .ref a15, .int (nI i16), .int (nI i17), .ref a18, .int (nI i19), .ref a20, .ref a21, .int (nI i22), .ref a23])), (a12, .inl (cI, 72, .inl (fun j => nI ((slR (slJ (slI sy x d) x (pvW (slI sy x d) x d (x - d) d) d (ivN ((slI sy x d) ((x + 1) * (pvW (slI sy x d) x d (x - d) d) + d))) (x + 1)) x d r) j)))), (a13, .inl (cI, 8, .inl (fun j => nI (sl j))))] H → va_D A [(h, .inr (8, [.int (nI i0), .int (nI i1), .ref a2, .ref a3, .ref a4, .ref a5, .ref a6, .ref a7, .ref a8, .int (nI i9), .ref a10, .ref a11, .ref a12, .ref a13, .ref a14, .ref a15, .int (nI i16), .int (nI i17), .ref a18, .int (nI i19), .ref a20, .ref a21, .int (nI i22), .ref a23])), (a12, .inl (cI, 72, .inl (fun j => nI ((slR (slJ (slI sy x d) x (pvW (slI sy x d) x d (x - d) d) d (ivN ((slI sy x d) ((x + 1) * (pvW (slI sy x d) x d (x - d) d) + d))) (x + 1)) x d r) j)))), (a13, .inl (cI, 8, .inl (fun j => nI (sl j))))] → va_S A H0 H locs → W p l e R s m args below meth c H locs cells slots Q (F0 m 137 ls []) := by
  obtain ⟨hx, hb, hml, hown, hts⟩ := id S
  refine up_loop (fun r hkr ih => ?_)
  intro ls H locs hl hP hD hS
  have hsR := slR_lt hx0 hd9 (slJ_lt (p := (pvW (slI sy x d) x d (x - d) d)) (c := d) (sc := (ivN ((slI sy x d) ((x + 1) * (pvW (slI sy x d) x d (x - d) d) + d)))) hx0 hpv9 hd9 (slI_lt hx0 hsy d (by omega) (fun d9 h9 => hpv d9 (by omega))) (ivN_lt _) (x + 1) (by omega)) r (by omega)
  refine lv_iload hx hb d_m_solve_137 (lv_at hl 4 rfl) ?_
  refine lv_iload_n hx hb d_m_solve_139 rfl (lv_at hl 1 rfl) ?_
  refine n_icmp_ge hx hb d_m_solve_140 (tgt := 228) rfl (by omega) (by omega) (fun g140 => ?_) (fun g140 => ?_)
  · skip
    obtain rfl : r = x := by omega
    exact kx ls H locs (lv_sub hl [0, 1, 2, 3, 4] rfl) hP hD hS
  · skip
    refine lv_iload hx hb d_m_solve_143 (lv_at hl 4 rfl) ?_
    refine lv_iload_n hx hb d_m_solve_145 rfl (lv_at hl 3 rfl) ?_
    refine n_icmp_ne hx hb d_m_solve_146 (tgt := 153) rfl (by omega) (by omega) (fun g146 => ?_) (fun g146 => ?_)
    · skip
      refine lv_aload_n hx hb d_m_solve_153 rfl (lv_at hl 0 rfl) ?_
      refine n_get (C := R_Model) (T := F_Model) (N := 24) (v := .ref a12) hx hb hts u_Model_in hown hK hP 0 rfl rfl 12 (by decide) kw_788 rfl d_m_solve_154 ?_
      refine lv_iload_n hx hb d_m_solve_157 rfl (lv_at hl 2 rfl) ?_
      refine lv_iload hx hb d_m_solve_158 (lv_at hl 4 rfl) ?_
      refine n_imul hx hb d_m_solve_160 ?_
      refine lv_iload_n hx hb d_m_solve_161 rfl (lv_at hl 3 rfl) ?_
      refine n_iadd hx hb d_m_solve_162 ?_
      refine n_iald hx hb hK hP 1 0 rfl rfl (ix72 hx0 (by omega) (by omega)) (by decide) d_m_solve_163 ?_
      refine lv_istore hx hb d_m_solve_164 hl (Nat.le_of_ble_eq_true rfl) rfl (fun ls hl => ?_)
      have hl : lv_has ls 9 [(7, .int (nI ((slR (slJ (slI sy x d) x (pvW (slI sy x d) x d (x - d) d) d (ivN ((slI sy x d) ((x + 1) * (pvW (slI sy x d) x d (x - d) d) + d))) (x + 1)) x d r) (((x + 1) * r) + d)))), (0, .ref h), (1, .int (nI x)), (2, .int (nI (x + 1))), (3, .int (nI d)), (6, .int (nI r))] := hl
      refine lv_iconst (v := nI 0) hx hb d_m_solve_166 (by decide) ?_
      refine lv_istore hx hb d_m_solve_167 hl (Nat.le_of_ble_eq_true rfl) rfl (fun ls hl => ?_)
      have hl : lv_has ls 9 [(8, .int (nI 0)), (7, .int (nI ((slR (slJ (slI sy x d) x (pvW (slI sy x d) x d (x - d) d) d (ivN ((slI sy x d) ((x + 1) * (pvW (slI sy x d) x d (x - d) d) + d))) (x + 1)) x d r) (((x + 1) * r) + d)))), (0, .ref h), (1, .int (nI x)), (2, .int (nI (x + 1))), (3, .int (nI d)), (6, .int (nI r))] := hl
      refine lp_m_solve_no_169 cI cC h i0 i1 a2 a3 a4 a5 a6 a7 a8 i9 a10 a11 a12 a13 a14 a15 i16 i17 a18 i19 a20 a21 i22 a23 sy sl x hx0 hsy d0 hd0 hpv hno S hRf hRl hRc hK hA d (by omega) (by omega) hpv9 r (by omega) ((slR (slJ (slI sy x d) x (pvW (slI sy x d) x d (x - d) d) d (ivN ((slI sy x d) ((x + 1) * (pvW (slI sy x d) x d (x - d) d) + d))) (x + 1)) x d r) (((x + 1) * r) + d)) (hsR _ (ix72 hx0 (by omega) (by omega))) (fun ls H locs hl hP hD hS => ?_) 0 (by omega) ls H locs (lv_sub hl [2, 3, 4, 5, 6, 1, 0] rfl) hP hD hS
      refine lv_iinc (k := 4) (v := nI (r + 1)) hx hb d_m_solve_222 hl rfl (nx_inc r 1) (Nat.le_of_ble_eq_true rfl) rfl (fun ls hl => ?_)
      have hl : lv_has ls 9 [(6, .int (nI (r + 1))), (0, .ref h), (1, .int (nI x)), (2, .int (nI (x + 1))), (3, .int (nI d)), (7, .int (nI ((slR (slJ (slI sy x d) x (pvW (slI sy x d) x d (x - d) d) d (ivN ((slI sy x d) ((x + 1) * (pvW (slI sy x d) x d (x - d) d) + d))) (x + 1)) x d r) (((x + 1) * r) + d)))), (8, .int (nI (x + 1)))] := hl
      refine lv_goto hx hb d_m_solve_225 (tgt := 137) rfl ?_
      rw [show slK (slR (slJ (slI sy x d) x (pvW (slI sy x d) x d (x - d) d) d (ivN ((slI sy x d) ((x + 1) * (pvW (slI sy x d) x d (x - d) d) + d))) (x + 1)) x d r) x r d ((slR (slJ (slI sy x d) x (pvW (slI sy x d) x d (x - d) d) d (ivN ((slI sy x d) ((x + 1) * (pvW (slI sy x d) x d (x - d) d) + d))) (x + 1)) x d r) (((x + 1) * r) + d)) (x + 1) = slR (slJ (slI sy x d) x (pvW (slI sy x d) x d (x - d) d) d (ivN ((slI sy x d) ((x + 1) * (pvW (slI sy x d) x d (x - d) d) + d))) (x + 1)) x d (r + 1) from (by first | exact (slR_t g146).symm | exact (slR_f g146).symm)] at hP hD
      exact ih (by omega) ls H locs (lv_sub hl [1, 2, 3, 4, 0] rfl) hP hD hS
    · skip
      refine lv_iconst (v := nI 0) hx hb d_m_solve_149 (by decide) ?_
      refine lv_goto hx hb d_m_solve_150 (tgt := 164) rfl ?_
      refine lv_istore hx hb d_m_solve_164 hl (Nat.le_of_ble_eq_true rfl) rfl (fun ls hl => ?_)
      have hl : lv_has ls 9 [(7, .int (nI 0)), (0, .ref h), (1, .int (nI x)), (2, .int (nI (x + 1))), (3, .int (nI d)), (6, .int (nI r))] := hl
      refine lv_iconst (v := nI 0) hx hb d_m_solve_166 (by decide) ?_
      refine lv_istore hx hb d_m_solve_167 hl (Nat.le_of_ble_eq_true rfl) rfl (fun ls hl => ?_)
      have hl : lv_has ls 9 [(8, .int (nI 0)), (7, .int (nI 0)), (0, .ref h), (1, .int (nI x)), (2, .int (nI (x + 1))), (3, .int (nI d)), (6, .int (nI r))] := hl
      refine lp_m_solve_no_169 cI cC h i0 i1 a2 a3 a4 a5 a6 a7 a8 i9 a10 a11 a12 a13 a14 a15 i16 i17 a18 i19 a20 a21 i22 a23 sy sl x hx0 hsy d0 hd0 hpv hno S hRf hRl hRc hK hA d (by omega) (by omega) hpv9 r (by omega) 0 (by decide) (fun ls H locs hl hP hD hS => ?_) 0 (by omega) ls H locs (lv_sub hl [2, 3, 4, 5, 6, 1, 0] rfl) hP hD hS
      refine lv_iinc (k := 4) (v := nI (r + 1)) hx hb d_m_solve_222 hl rfl (nx_inc r 1) (Nat.le_of_ble_eq_true rfl) rfl (fun ls hl => ?_)
      have hl : lv_has ls 9 [(6, .int (nI (r + 1))), (0, .ref h), (1, .int (nI x)), (2, .int (nI (x + 1))), (3, .int (nI d)), (7, .int (nI 0)), (8, .int (nI (x + 1)))] := hl
      refine lv_goto hx hb d_m_solve_225 (tgt := 137) rfl ?_
      rw [show slK (slR (slJ (slI sy x d) x (pvW (slI sy x d) x d (x - d) d) d (ivN ((slI sy x d) ((x + 1) * (pvW (slI sy x d) x d (x - d) d) + d))) (x + 1)) x d r) x r d 0 (x + 1) = slR (slJ (slI sy x d) x (pvW (slI sy x d) x d (x - d) d) d (ivN ((slI sy x d) ((x + 1) * (pvW (slI sy x d) x d (x - d) d) + d))) (x + 1)) x d (r + 1) from (by first | exact (slR_t g146).symm | exact (slR_f g146).symm)] at hP hD
      exact ih (by omega) ls H locs (lv_sub hl [1, 2, 3, 4, 0] rfl) hP hD hS
set_option maxHeartbeats 1000000 in
set_option maxRecDepth 100000 in
theorem lp_m_solve_no_67 (cI cC : ClassId) (h i0 i1 a2 a3 a4 a5 a6 a7 a8 i9 a10 a11 a12 a13 a14 a15 i16 i17 a18 i19 a20 a21 i22 a23 : Nat) (sy sl : Nat → Nat) (x : Nat) (hx0 : x ≤ 8) (hsy : lt256 72 sy) (d0 : Nat) (hd0 : d0 < x) (hpv : ∀ d, d < d0 → (pvW (slI sy x d) x d (x - d) d) < x) (hno : (pvW (slI sy x d0) x d0 (x - d0) d0) = x) (S : CallFix p m c b_m_solve 9 s args (cd_m_solve :: WS) R_Model) (hRf : 2 ≤ R.frames) (hRl : 45 ≤ R.locals) (hRc : cells ≤ R.cells ∧ slots ≤ R.slots) (hK : va_K D classes [(cI, .int), (cC, .char)] s) (hA : ∀ q, H0.size ≤ q → A q) (d : Nat) (hd9 : d < x) (hdm : d ≤ d0) (hpv9 : (pvW (slI sy x d) x d (x - d) d) < x) (kx : ∀ (ls : Array Slot) (H : Heap) (locs : List Loc), lv_has ls 9 [(0, .ref h), (1, .int (nI x)), (2, .int (nI (x + 1))), (3, .int (nI d)), (4, .int (nI (pvW (slI sy x d) x d (x - d) d))), (5, .int (nI (ivN ((slI sy x d) ((x + 1) * (pvW (slI sy x d) x d (x - d) d) + d))))), (6, .int (nI (x + 1)))] → va_P D classes [(h, .inr (8, [.int (nI i0), .int (nI i1), .ref a2, .ref a3, .ref a4, .ref a5, .ref a6, .ref a7, .ref a8, .int (nI i9), .ref a10, .ref a11, .ref a12, .ref a13, .ref a14, .ref a15, .int (nI i16), .int (nI i17), .ref a18, .int (nI i19), .ref a20, .ref a21, .int (nI i22), .ref a23])), (a12, .inl (cI, 72, .inl (fun j => nI ((slJ (slI sy x d) x (pvW (slI sy x d) x d (x - d) d) d (ivN ((slI sy x d) ((x + 1) * (pvW (slI sy x d) x d (x - d) d) + d))) (x + 1)) j)))), (a13, .inl (cI, 8, .inl (fun j => nI (sl j))))] H → va_D A [(h, .inr (8, [.int (nI i0), .int (nI i1), .ref a2, .ref a3, .ref a4, .ref a5, .ref a6, .ref a7, .ref a8, .int (nI i9), .ref a10, .ref a11, .ref a12, .ref a13, .ref a14, .ref a15, .int (nI i16), .int (nI i17), .ref a18, .int (nI i19), .ref a20, .ref a21, .int (nI i22), .ref a23])), (a12, .inl (cI, 72, .inl (fun j => nI ((slJ (slI sy x d) x (pvW (slI sy x d) x d (x - d) d) d (ivN ((slI sy x d) ((x + 1) * (pvW (slI sy x d) x d (x - d) d) + d))) (x + 1)) j)))), (a13, .inl (cI, 8, .inl (fun j => nI (sl j))))] → va_S A H0 H locs → W p l e R s m args below meth c H locs cells slots Q (F0 m 134 ls [])) :
    ∀ k, k ≤ x + 1 → ∀ (ls : Array Slot) (H : Heap) (locs : List Loc), lv_has ls 9 [(0, .ref h), (1, .int (nI x)), (2, .int (nI (x + 1))), (3, .int (nI d)), (4, .int (nI (pvW (slI sy x d) x d (x - d) d))), (5, .int (nI (ivN ((slI sy x d) ((x + 1) * (pvW (slI sy x d) x d (x - d) d) + d))))), (6, .int (nI k))] → va_P D classes [(h, .inr (8, [.int (nI i0), .int (nI i1), .ref a2, .ref a3, .ref a4, .ref a5, .ref a6, .ref a7, .ref a8, .int (nI i9), .ref a10, .ref a11, .ref a12, .ref a13, .ref a14, .ref a15, .int (nI i16), .int (nI i17), .ref a18, .int (nI i19), .ref a20, .ref a21, .int (nI i22), .ref a23])), (a12, .inl (cI, 72, .inl (fun j => nI ((slJ (slI sy x d) x (pvW (slI sy x d) x d (x - d) d) d (ivN ((slI sy x d) ((x + 1) * (pvW (slI sy x d) x d (x - d) d) + d))) k) j)))), (a13, .inl (cI, 8, .inl (fun j => nI (sl j))))] H → va_D A [(h, .inr (8, [.int (nI i0), .int (nI i1), .ref a2, .ref a3, .ref a4, .ref a5, .ref a6, .ref a7, .ref a8, .int (nI i9), .ref a10, .ref a11, .ref a12, .ref a13, .ref a14, .ref a15, .int (nI i16), .int (nI i17), .ref a18, .int (nI i19), .ref a20, .ref a21, .int (nI i22), .ref a23])), (a12, .inl (cI, 72, .inl (fun j => nI ((slJ (slI sy x d) x (pvW (slI sy x d) x d (x - d) d) d (ivN ((slI sy x d) ((x + 1) * (pvW (slI sy x d) x d (x - d) d) + d))) k) j)))), (a13, .inl (cI, 8, .inl (fun j => nI (sl j))))] → va_S A H0 H locs → W p l e R s m args below meth c H locs cells slots Q (F0 m 67 ls []) := by
  obtain ⟨hx, hb, hml, hown, hts⟩ := id S
  refine up_loop (fun k hkk ih => ?_)
  intro ls H locs hl hP hD hS
  have hs9 := slJ_lt (p := (pvW (slI sy x d) x d (x - d) d)) (c := d) (sc := (ivN ((slI sy x d) ((x + 1) * (pvW (slI sy x d) x d (x - d) d) + d)))) hx0 hpv9 hd9 (slI_lt hx0 hsy d (by omega) (fun d9 h9 => hpv d9 (by omega))) (ivN_lt _) k (by omega)
  have hiv := ivN_lt ((slI sy x d) ((x + 1) * (pvW (slI sy x d) x d (x - d) d) + d))
  refine lv_iload hx hb d_m_solve_67 (lv_at hl 6 rfl) ?_
  refine lv_iload_n hx hb d_m_solve_69 rfl (lv_at hl 2 rfl) ?_
  refine n_icmp_ge hx hb d_m_solve_70 (tgt := 134) rfl (by omega) (by omega) (fun g70 => ?_) (fun g70 => ?_)
  · skip
    obtain rfl : k = x + 1 := by omega
    exact kx ls H locs (lv_sub hl [0, 1, 2, 3, 4, 5, 6] rfl) hP hD hS
  · skip
    refine lv_aload_n hx hb d_m_solve_73 rfl (lv_at hl 0 rfl) ?_
    refine n_get (C := R_Model) (T := F_Model) (N := 24) (v := .ref a12) hx hb hts u_Model_in hown hK hP 0 rfl rfl 12 (by decide) kw_788 rfl d_m_solve_74 ?_
    refine lv_iload_n hx hb d_m_solve_77 rfl (lv_at hl 2 rfl) ?_
    refine lv_iload hx hb d_m_solve_78 (lv_at hl 4 rfl) ?_
    refine n_imul hx hb d_m_solve_80 ?_
    refine lv_iload hx hb d_m_solve_81 (lv_at hl 6 rfl) ?_
    refine n_iadd hx hb d_m_solve_83 ?_
    refine n_iald hx hb hK hP 1 0 rfl rfl (ix72 hx0 (by omega) (by omega)) (by decide) d_m_solve_84 ?_
    refine lv_iload hx hb d_m_solve_85 (lv_at hl 5 rfl) ?_
    refine q_pureS (n := 2) (As := [.int (nI ((slJ (slI sy x d) x (pvW (slI sy x d) x d (x - d) d) d (ivN ((slI sy x d) ((x + 1) * (pvW (slI sy x d) x d (x - d) d) + d))) k) (((x + 1) * (pvW (slI sy x d) x d (x - d) d)) + k))), .int (nI (ivN ((slI sy x d) ((x + 1) * (pvW (slI sy x d) x d (x - d) d) + d))))]) (rest := []) S (c_m_times l ((slJ (slI sy x d) x (pvW (slI sy x d) x d (x - d) d) d (ivN ((slI sy x d) ((x + 1) * (pvW (slI sy x d) x d (x - d) d) + d))) k) (((x + 1) * (pvW (slI sy x d) x d (x - d) d)) + k)) (ivN ((slI sy x d) ((x + 1) * (pvW (slI sy x d) x d (x - d) d) + d))) (hs9 _ (ix72 hx0 (by omega) (by omega))) (by omega)) (q_goodS kw_890 kw_891 kw_10 kw_892) (by decide +kernel) rfl rfl ⟨Nat.le_trans (Nat.le_of_ble_eq_true rfl) hRf, Nat.le_trans (Nat.le_of_ble_eq_true rfl) hRl⟩ rfl hl.1 rfl (Nat.le_of_ble_eq_true rfl) d_m_solve_87 hRc hS (fun H locs hkp hS => ?_)
    replace hP := hP.kept (fun k q hq => hkp q.1 (hP k q hq).lt)
    refine lv_istore hx hb d_m_solve_90 hl (Nat.le_of_ble_eq_true rfl) rfl (fun ls hl => ?_)
    have hl : lv_has ls 9 [(7, .int (nI (gm ((slJ (slI sy x d) x (pvW (slI sy x d) x d (x - d) d) d (ivN ((slI sy x d) ((x + 1) * (pvW (slI sy x d) x d (x - d) d) + d))) k) (((x + 1) * (pvW (slI sy x d) x d (x - d) d)) + k)) (ivN ((slI sy x d) ((x + 1) * (pvW (slI sy x d) x d (x - d) d) + d)))))), (0, .ref h), (1, .int (nI x)), (2, .int (nI (x + 1))), (3, .int (nI d)), (4, .int (nI (pvW (slI sy x d) x d (x - d) d))), (5, .int (nI (ivN ((slI sy x d) ((x + 1) * (pvW (slI sy x d) x d (x - d) d) + d))))), (6, .int (nI k))] := hl
    refine lv_aload_n hx hb d_m_solve_92 rfl (lv_at hl 1 rfl) ?_
    refine n_get (C := R_Model) (T := F_Model) (N := 24) (v := .ref a12) hx hb hts u_Model_in hown hK hP 0 rfl rfl 12 (by decide) kw_788 rfl d_m_solve_93 ?_
    refine lv_iload_n hx hb d_m_solve_96 rfl (lv_at hl 3 rfl) ?_
    refine lv_iload hx hb d_m_solve_97 (lv_at hl 5 rfl) ?_
    refine n_imul hx hb d_m_solve_99 ?_
    refine lv_iload hx hb d_m_solve_100 (lv_at hl 7 rfl) ?_
    refine n_iadd hx hb d_m_solve_102 ?_
    refine lv_aload_n hx hb d_m_solve_103 rfl (lv_at hl 1 rfl) ?_
    refine n_get (C := R_Model) (T := F_Model) (N := 24) (v := .ref a12) hx hb hts u_Model_in hown hK hP 0 rfl rfl 12 (by decide) kw_788 rfl d_m_solve_104 ?_
    refine lv_iload_n hx hb d_m_solve_107 rfl (lv_at hl 3 rfl) ?_
    refine lv_iload_n hx hb d_m_solve_108 rfl (lv_at hl 4 rfl) ?_
    refine n_imul hx hb d_m_solve_109 ?_
    refine lv_iload hx hb d_m_solve_110 (lv_at hl 7 rfl) ?_
    refine n_iadd hx hb d_m_solve_112 ?_
    refine n_iald hx hb hK hP 1 0 rfl rfl (ix72 hx0 (by omega) (by omega)) (by decide) d_m_solve_113 ?_
    refine n_iast hx hb hK hP hD hS 1 0 rfl rfl (ix72 hx0 (by omega) (by omega)) (by decide) d_m_solve_114 (fun H locs hP hD hS => ?_)
    have hP : va_P D classes [(h, .inr (8, [.int (nI i0), .int (nI i1), .ref a2, .ref a3, .ref a4, .ref a5, .ref a6, .ref a7, .ref a8, .int (nI i9), .ref a10, .ref a11, .ref a12, .ref a13, .ref a14, .ref a15, .int (nI i16), .int (nI i17), .ref a18, .int (nI i19), .ref a20, .ref a21, .int (nI i22), .ref a23])), (a12, .inl (cI, 72, .inl (fun j => nI ((va_up (slJ (slI sy x d) x (pvW (slI sy x d) x d (x - d) d) d (ivN ((slI sy x d) ((x + 1) * (pvW (slI sy x d) x d (x - d) d) + d))) k) (((x + 1) * (pvW (slI sy x d) x d (x - d) d)) + k) ((slJ (slI sy x d) x (pvW (slI sy x d) x d (x - d) d) d (ivN ((slI sy x d) ((x + 1) * (pvW (slI sy x d) x d (x - d) d) + d))) k) (((x + 1) * d) + k))) j)))), (a13, .inl (cI, 8, .inl (fun j => nI (sl j))))] H := hP
    have hD : va_D A [(h, .inr (8, [.int (nI i0), .int (nI i1), .ref a2, .ref a3, .ref a4, .ref a5, .ref a6, .ref a7, .ref a8, .int (nI i9), .ref a10, .ref a11, .ref a12, .ref a13, .ref a14, .ref a15, .int (nI i16), .int (nI i17), .ref a18, .int (nI i19), .ref a20, .ref a21, .int (nI i22), .ref a23])), (a12, .inl (cI, 72, .inl (fun j => nI ((va_up (slJ (slI sy x d) x (pvW (slI sy x d) x d (x - d) d) d (ivN ((slI sy x d) ((x + 1) * (pvW (slI sy x d) x d (x - d) d) + d))) k) (((x + 1) * (pvW (slI sy x d) x d (x - d) d)) + k) ((slJ (slI sy x d) x (pvW (slI sy x d) x d (x - d) d) d (ivN ((slI sy x d) ((x + 1) * (pvW (slI sy x d) x d (x - d) d) + d))) k) (((x + 1) * d) + k))) j)))), (a13, .inl (cI, 8, .inl (fun j => nI (sl j))))] := hD
    refine lv_aload_n hx hb d_m_solve_115 rfl (lv_at hl 1 rfl) ?_
    refine n_get (C := R_Model) (T := F_Model) (N := 24) (v := .ref a12) hx hb hts u_Model_in hown hK hP 0 rfl rfl 12 (by decide) kw_788 rfl d_m_solve_116 ?_
    refine lv_iload_n hx hb d_m_solve_119 rfl (lv_at hl 3 rfl) ?_
    refine lv_iload_n hx hb d_m_solve_120 rfl (lv_at hl 4 rfl) ?_
    refine n_imul hx hb d_m_solve_121 ?_
    refine lv_iload hx hb d_m_solve_122 (lv_at hl 7 rfl) ?_
    refine n_iadd hx hb d_m_solve_124 ?_
    refine lv_iload hx hb d_m_solve_125 (lv_at hl 0 rfl) ?_
    refine n_iast hx hb hK hP hD hS 1 0 rfl rfl (ix72 hx0 (by omega) (by omega)) (by decide) d_m_solve_127 (fun H locs hP hD hS => ?_)
    have hP : va_P D classes [(h, .inr (8, [.int (nI i0), .int (nI i1), .ref a2, .ref a3, .ref a4, .ref a5, .ref a6, .ref a7, .ref a8, .int (nI i9), .ref a10, .ref a11, .ref a12, .ref a13, .ref a14, .ref a15, .int (nI i16), .int (nI i17), .ref a18, .int (nI i19), .ref a20, .ref a21, .int (nI i22), .ref a23])), (a12, .inl (cI, 72, .inl (fun j => nI ((va_up (va_up (slJ (slI sy x d) x (pvW (slI sy x d) x d (x - d) d) d (ivN ((slI sy x d) ((x + 1) * (pvW (slI sy x d) x d (x - d) d) + d))) k) (((x + 1) * (pvW (slI sy x d) x d (x - d) d)) + k) ((slJ (slI sy x d) x (pvW (slI sy x d) x d (x - d) d) d (ivN ((slI sy x d) ((x + 1) * (pvW (slI sy x d) x d (x - d) d) + d))) k) (((x + 1) * d) + k))) (((x + 1) * d) + k) (gm ((slJ (slI sy x d) x (pvW (slI sy x d) x d (x - d) d) d (ivN ((slI sy x d) ((x + 1) * (pvW (slI sy x d) x d (x - d) d) + d))) k) (((x + 1) * (pvW (slI sy x d) x d (x - d) d)) + k)) (ivN ((slI sy x d) ((x + 1) * (pvW (slI sy x d) x d (x - d) d) + d))))) j)))), (a13, .inl (cI, 8, .inl (fun j => nI (sl j))))] H := hP
    have hD : va_D A [(h, .inr (8, [.int (nI i0), .int (nI i1), .ref a2, .ref a3, .ref a4, .ref a5, .ref a6, .ref a7, .ref a8, .int (nI i9), .ref a10, .ref a11, .ref a12, .ref a13, .ref a14, .ref a15, .int (nI i16), .int (nI i17), .ref a18, .int (nI i19), .ref a20, .ref a21, .int (nI i22), .ref a23])), (a12, .inl (cI, 72, .inl (fun j => nI ((va_up (va_up (slJ (slI sy x d) x (pvW (slI sy x d) x d (x - d) d) d (ivN ((slI sy x d) ((x + 1) * (pvW (slI sy x d) x d (x - d) d) + d))) k) (((x + 1) * (pvW (slI sy x d) x d (x - d) d)) + k) ((slJ (slI sy x d) x (pvW (slI sy x d) x d (x - d) d) d (ivN ((slI sy x d) ((x + 1) * (pvW (slI sy x d) x d (x - d) d) + d))) k) (((x + 1) * d) + k))) (((x + 1) * d) + k) (gm ((slJ (slI sy x d) x (pvW (slI sy x d) x d (x - d) d) d (ivN ((slI sy x d) ((x + 1) * (pvW (slI sy x d) x d (x - d) d) + d))) k) (((x + 1) * (pvW (slI sy x d) x d (x - d) d)) + k)) (ivN ((slI sy x d) ((x + 1) * (pvW (slI sy x d) x d (x - d) d) + d))))) j)))), (a13, .inl (cI, 8, .inl (fun j => nI (sl j))))] := hD
    rw [show va_up (va_up (slJ (slI sy x d) x (pvW (slI sy x d) x d (x - d) d) d (ivN ((slI sy x d) ((x + 1) * (pvW (slI sy x d) x d (x - d) d) + d))) k) (((x + 1) * (pvW (slI sy x d) x d (x - d) d)) + k) ((slJ (slI sy x d) x (pvW (slI sy x d) x d (x - d) d) d (ivN ((slI sy x d) ((x + 1) * (pvW (slI sy x d) x d (x - d) d) + d))) k) (((x + 1) * d) + k))) (((x + 1) * d) + k) (gm ((slJ (slI sy x d) x (pvW (slI sy x d) x d (x - d) d) d (ivN ((slI sy x d) ((x + 1) * (pvW (slI sy x d) x d (x - d) d) + d))) k) (((x + 1) * (pvW (slI sy x d) x d (x - d) d)) + k)) (ivN ((slI sy x d) ((x + 1) * (pvW (slI sy x d) x d (x - d) d) + d)))) = slJ (slI sy x d) x (pvW (slI sy x d) x d (x - d) d) d (ivN ((slI sy x d) ((x + 1) * (pvW (slI sy x d) x d (x - d) d) + d))) (k + 1) from rfl] at hP hD
    refine lv_iinc (k := 7) (v := nI (k + 1)) hx hb d_m_solve_128 hl rfl (nx_inc k 1) (Nat.le_of_ble_eq_true rfl) rfl (fun ls hl => ?_)
    have hl : lv_has ls 9 [(6, .int (nI (k + 1))), (7, .int (nI (gm ((slJ (slI sy x d) x (pvW (slI sy x d) x d (x - d) d) d (ivN ((slI sy x d) ((x + 1) * (pvW (slI sy x d) x d (x - d) d) + d))) k) (((x + 1) * (pvW (slI sy x d) x d (x - d) d)) + k)) (ivN ((slI sy x d) ((x + 1) * (pvW (slI sy x d) x d (x - d) d) + d)))))), (0, .ref h), (1, .int (nI x)), (2, .int (nI (x + 1))), (3, .int (nI d)), (4, .int (nI (pvW (slI sy x d) x d (x - d) d))), (5, .int (nI (ivN ((slI sy x d) ((x + 1) * (pvW (slI sy x d) x d (x - d) d) + d)))))] := hl
    refine lv_goto hx hb d_m_solve_131 (tgt := 67) rfl ?_
    exact ih (by omega) ls H locs (lv_sub hl [2, 3, 4, 5, 6, 7, 0] rfl) hP hD hS
set_option maxHeartbeats 1000000 in
set_option maxRecDepth 100000 in
theorem lp_m_solve_no_6 (cI cC : ClassId) (h i0 i1 a2 a3 a4 a5 a6 a7 a8 i9 a10 a11 a12 a13 a14 a15 i16 i17 a18 i19 a20 a21 i22 a23 : Nat) (sy sl : Nat → Nat) (x : Nat) (hx0 : x ≤ 8) (hsy : lt256 72 sy) (d0 : Nat) (hd0 : d0 < x) (hpv : ∀ d, d < d0 → (pvW (slI sy x d) x d (x - d) d) < x) (hno : (pvW (slI sy x d0) x d0 (x - d0) d0) = x) (S : CallFix p m c b_m_solve 9 s args (cd_m_solve :: WS) R_Model) (hRf : 2 ≤ R.frames) (hRl : 45 ≤ R.locals) (hRc : cells ≤ R.cells ∧ slots ≤ R.slots) (hK : va_K D classes [(cI, .int), (cC, .char)] s) (hA : ∀ q, H0.size ≤ q → A q) (kr : ∀ (pc : Nat) (ls : Array Slot) (H : Heap) (locs : List Loc), decode b_m_solve pc = .ok (.ireturn, 1) → va_P D classes [(h, .inr (8, [.int (nI i0), .int (nI i1), .ref a2, .ref a3, .ref a4, .ref a5, .ref a6, .ref a7, .ref a8, .int (nI i9), .ref a10, .ref a11, .ref a12, .ref a13, .ref a14, .ref a15, .int (nI i16), .int (nI i17), .ref a18, .int (nI i19), .ref a20, .ref a21, .int (nI i22), .ref a23])), (a12, .inl (cI, 72, .inl (fun j => nI ((slI sy x d0) j)))), (a13, .inl (cI, 8, .inl (fun j => nI (sl j))))] H → va_D A [(h, .inr (8, [.int (nI i0), .int (nI i1), .ref a2, .ref a3, .ref a4, .ref a5, .ref a6, .ref a7, .ref a8, .int (nI i9), .ref a10, .ref a11, .ref a12, .ref a13, .ref a14, .ref a15, .int (nI i16), .int (nI i17), .ref a18, .int (nI i19), .ref a20, .ref a21, .int (nI i22), .ref a23])), (a12, .inl (cI, 72, .inl (fun j => nI ((slI sy x d0) j)))), (a13, .inl (cI, 8, .inl (fun j => nI (sl j))))] → va_S A H0 H locs → W p l e R s m args below meth c H locs cells slots Q (F0 m pc ls [.int (nI 0)])) :
    ∀ d, d ≤ d0 → ∀ (ls : Array Slot) (H : Heap) (locs : List Loc), lv_has ls 9 [(0, .ref h), (1, .int (nI x)), (2, .int (nI (x + 1))), (3, .int (nI d))] → va_P D classes [(h, .inr (8, [.int (nI i0), .int (nI i1), .ref a2, .ref a3, .ref a4, .ref a5, .ref a6, .ref a7, .ref a8, .int (nI i9), .ref a10, .ref a11, .ref a12, .ref a13, .ref a14, .ref a15, .int (nI i16), .int (nI i17), .ref a18, .int (nI i19), .ref a20, .ref a21, .int (nI i22), .ref a23])), (a12, .inl (cI, 72, .inl (fun j => nI ((slI sy x d) j)))), (a13, .inl (cI, 8, .inl (fun j => nI (sl j))))] H → va_D A [(h, .inr (8, [.int (nI i0), .int (nI i1), .ref a2, .ref a3, .ref a4, .ref a5, .ref a6, .ref a7, .ref a8, .int (nI i9), .ref a10, .ref a11, .ref a12, .ref a13, .ref a14, .ref a15, .int (nI i16), .int (nI i17), .ref a18, .int (nI i19), .ref a20, .ref a21, .int (nI i22), .ref a23])), (a12, .inl (cI, 72, .inl (fun j => nI ((slI sy x d) j)))), (a13, .inl (cI, 8, .inl (fun j => nI (sl j))))] → va_S A H0 H locs → W p l e R s m args below meth c H locs cells slots Q (F0 m 6 ls []) := by
  obtain ⟨hx, hb, hml, hown, hts⟩ := id S
  refine up_loop (fun d hkd ih => ?_)
  intro ls H locs hl hP hD hS
  refine lv_iload_n hx hb d_m_solve_6 rfl (lv_at hl 3 rfl) ?_
  refine lv_iload_n hx hb d_m_solve_7 rfl (lv_at hl 1 rfl) ?_
  refine n_icmp_ge hx hb d_m_solve_8 (tgt := 234) rfl (by omega) (by omega) (fun g8 => absurd g8 (by omega)) (fun g8 => ?_)
  refine lv_iload_n hx hb d_m_solve_11 rfl (lv_at hl 3 rfl) ?_
  refine lv_istore hx hb d_m_solve_12 hl (Nat.le_of_ble_eq_true rfl) rfl (fun ls hl => ?_)
  have hl : lv_has ls 9 [(4, .int (nI d)), (0, .ref h), (1, .int (nI x)), (2, .int (nI (x + 1))), (3, .int (nI d))] := hl
  refine lw_m_solve_no_14 cI cC h i0 i1 a2 a3 a4 a5 a6 a7 a8 i9 a10 a11 a12 a13 a14 a15 i16 i17 a18 i19 a20 a21 i22 a23 sy sl x hx0 hsy d0 hd0 hpv hno S hRf hRl hRc hK hA d (by omega) (by omega)  (x - d) d (Nat.le_refl _) (by omega) (fun ls H locs hl hP hD hS => ?_) ls H locs (lv_sub hl [1, 2, 3, 4, 0] rfl) hP hD hS
  rcases Nat.lt_or_ge d d0 with hdd | hdd
  · skip
    have hpv9 : (pvW (slI sy x d) x d (x - d) d) < x := hpv d hdd
    refine lv_iload hx hb d_m_solve_40 (lv_at hl 4 rfl) ?_
    refine lv_iload_n hx hb d_m_solve_42 rfl (lv_at hl 1 rfl) ?_
    refine n_icmp_ne hx hb d_m_solve_43 (tgt := 48) rfl (by omega) (by omega) (fun g43 => ?_) (fun g43 => absurd g43 (by omega))
    have hs9 := slI_lt hx0 hsy d (by omega) (fun d9 h9 => hpv d9 (by omega))
    have hp0 : (slI sy x d) ((x + 1) * (pvW (slI sy x d) x d (x - d) d) + d) ≠ 0 := pvW_ne hpv9 (by omega)
    refine lv_aload_n hx hb d_m_solve_48 rfl (lv_at hl 0 rfl) ?_
    refine n_get (C := R_Model) (T := F_Model) (N := 24) (v := .ref a12) hx hb hts u_Model_in hown hK hP 0 rfl rfl 12 (by decide) kw_788 rfl d_m_solve_49 ?_
    refine lv_iload_n hx hb d_m_solve_52 rfl (lv_at hl 2 rfl) ?_
    refine lv_iload hx hb d_m_solve_53 (lv_at hl 4 rfl) ?_
    refine n_imul hx hb d_m_solve_55 ?_
    refine lv_iload_n hx hb d_m_solve_56 rfl (lv_at hl 3 rfl) ?_
    refine n_iadd hx hb d_m_solve_57 ?_
    refine n_iald hx hb hK hP 1 0 rfl rfl (ix72 hx0 (by omega) (by omega)) (by decide) d_m_solve_58 ?_
    refine q_pureS (n := 1) (As := [.int (nI ((slI sy x d) (((x + 1) * (pvW (slI sy x d) x d (x - d) d)) + d)))]) (rest := []) S (c_m_inverse l ((slI sy x d) (((x + 1) * (pvW (slI sy x d) x d (x - d) d)) + d)) (hs9 _ (ix72 hx0 (by omega) (by omega))) hp0) (q_goodS kw_969 kw_970 kw_10 kw_971) (by decide +kernel) rfl rfl ⟨Nat.le_trans (Nat.le_of_ble_eq_true rfl) hRf, Nat.le_trans (Nat.le_of_ble_eq_true rfl) hRl⟩ rfl hl.1 rfl (Nat.le_of_ble_eq_true rfl) d_m_solve_59 hRc hS (fun H locs hkp hS => ?_)
    replace hP := hP.kept (fun k q hq => hkp q.1 (hP k q hq).lt)
    refine lv_istore hx hb d_m_solve_62 hl (Nat.le_of_ble_eq_true rfl) rfl (fun ls hl => ?_)
    have hl : lv_has ls 9 [(5, .int (nI (ivN ((slI sy x d) (((x + 1) * (pvW (slI sy x d) x d (x - d) d)) + d))))), (0, .ref h), (1, .int (nI x)), (2, .int (nI (x + 1))), (3, .int (nI d)), (4, .int (nI (pvW (slI sy x d) x d (x - d) d)))] := hl
    refine lv_iconst (v := nI 0) hx hb d_m_solve_64 (by decide) ?_
    refine lv_istore hx hb d_m_solve_65 hl (Nat.le_of_ble_eq_true rfl) rfl (fun ls hl => ?_)
    have hl : lv_has ls 9 [(6, .int (nI 0)), (5, .int (nI (ivN ((slI sy x d) (((x + 1) * (pvW (slI sy x d) x d (x - d) d)) + d))))), (0, .ref h), (1, .int (nI x)), (2, .int (nI (x + 1))), (3, .int (nI d)), (4, .int (nI (pvW (slI sy x d) x d (x - d) d)))] := hl
    refine lp_m_solve_no_67 cI cC h i0 i1 a2 a3 a4 a5 a6 a7 a8 i9 a10 a11 a12 a13 a14 a15 i16 i17 a18 i19 a20 a21 i22 a23 sy sl x hx0 hsy d0 hd0 hpv hno S hRf hRl hRc hK hA d (by omega) (by omega) hpv9 (fun ls H locs hl hP hD hS => ?_) 0 (by omega) ls H locs (lv_sub hl [2, 3, 4, 5, 6, 1, 0] rfl) hP hD hS
    refine lv_iconst (v := nI 0) hx hb d_m_solve_134 (by decide) ?_
    refine lv_istore hx hb d_m_solve_135 hl (Nat.le_of_ble_eq_true rfl) rfl (fun ls hl => ?_)
    have hl : lv_has ls 9 [(6, .int (nI 0)), (0, .ref h), (1, .int (nI x)), (2, .int (nI (x + 1))), (3, .int (nI d)), (4, .int (nI (pvW (slI sy x d) x d (x - d) d))), (5, .int (nI (ivN ((slI sy x d) ((x + 1) * (pvW (slI sy x d) x d (x - d) d) + d)))))] := hl
    refine lp_m_solve_no_137 cI cC h i0 i1 a2 a3 a4 a5 a6 a7 a8 i9 a10 a11 a12 a13 a14 a15 i16 i17 a18 i19 a20 a21 i22 a23 sy sl x hx0 hsy d0 hd0 hpv hno S hRf hRl hRc hK hA d (by omega) (by omega) hpv9 (fun ls H locs hl hP hD hS => ?_) 0 (by omega) ls H locs (lv_sub hl [1, 2, 3, 4, 0] rfl) hP hD hS
    refine lv_iinc (k := 3) (v := nI (d + 1)) hx hb d_m_solve_228 hl rfl (nx_inc d 1) (Nat.le_of_ble_eq_true rfl) rfl (fun ls hl => ?_)
    have hl : lv_has ls 9 [(3, .int (nI (d + 1))), (0, .ref h), (1, .int (nI x)), (2, .int (nI (x + 1))), (6, .int (nI x))] := hl
    refine lv_goto hx hb d_m_solve_231 (tgt := 6) rfl ?_
    rw [show slR (slJ (slI sy x d) x (pvW (slI sy x d) x d (x - d) d) d (ivN ((slI sy x d) ((x + 1) * (pvW (slI sy x d) x d (x - d) d) + d))) (x + 1)) x d x = slI sy x (d + 1) from rfl] at hP hD
    exact ih (by omega) ls H locs (lv_sub hl [1, 2, 3, 0] rfl) hP hD hS
  · skip
    have e0 : d = d0 := by omega
    have hpx : (pvW (slI sy x d) x d (x - d) d) = x := by rw [e0]; exact hno
    rw [e0] at hP hD
    refine lv_iload hx hb d_m_solve_40 (lv_at hl 4 rfl) ?_
    refine lv_iload_n hx hb d_m_solve_42 rfl (lv_at hl 1 rfl) ?_
    refine n_icmp_ne hx hb d_m_solve_43 (tgt := 48) rfl (by omega) (by omega) (fun g43 => absurd g43 (fun z => z hpx)) (fun g43 => ?_)
    refine lv_iconst (v := nI 0) hx hb d_m_solve_46 (by decide) ?_
    exact kr _ ls H locs d_m_solve_47 hP hD hS
set_option maxHeartbeats 1000000 in
set_option maxRecDepth 100000 in
theorem bd_m_solve_no (cI cC : ClassId) (h i0 i1 a2 a3 a4 a5 a6 a7 a8 i9 a10 a11 a12 a13 a14 a15 i16 i17 a18 i19 a20 a21 i22 a23 : Nat) (sy sl : Nat → Nat) (x : Nat) (hx0 : x ≤ 8) (hsy : lt256 72 sy) (d0 : Nat) (hd0 : d0 < x) (hpv : ∀ d, d < d0 → (pvW (slI sy x d) x d (x - d) d) < x) (hno : (pvW (slI sy x d0) x d0 (x - d0) d0) = x) (S : CallFix p m c b_m_solve 9 s args (cd_m_solve :: WS) R_Model) (hRf : 2 ≤ R.frames) (hRl : 45 ≤ R.locals) (hRc : cells ≤ R.cells ∧ slots ≤ R.slots) (hK : va_K D classes [(cI, .int), (cC, .char)] s) (hA : ∀ q, H0.size ≤ q → A q) (kr : ∀ (pc : Nat) (ls : Array Slot) (H : Heap) (locs : List Loc), decode b_m_solve pc = .ok (.ireturn, 1) → va_P D classes [(h, .inr (8, [.int (nI i0), .int (nI i1), .ref a2, .ref a3, .ref a4, .ref a5, .ref a6, .ref a7, .ref a8, .int (nI i9), .ref a10, .ref a11, .ref a12, .ref a13, .ref a14, .ref a15, .int (nI i16), .int (nI i17), .ref a18, .int (nI i19), .ref a20, .ref a21, .int (nI i22), .ref a23])), (a12, .inl (cI, 72, .inl (fun j => nI ((slI sy x d0) j)))), (a13, .inl (cI, 8, .inl (fun j => nI (sl j))))] H → va_D A [(h, .inr (8, [.int (nI i0), .int (nI i1), .ref a2, .ref a3, .ref a4, .ref a5, .ref a6, .ref a7, .ref a8, .int (nI i9), .ref a10, .ref a11, .ref a12, .ref a13, .ref a14, .ref a15, .int (nI i16), .int (nI i17), .ref a18, .int (nI i19), .ref a20, .ref a21, .int (nI i22), .ref a23])), (a12, .inl (cI, 72, .inl (fun j => nI ((slI sy x d0) j)))), (a13, .inl (cI, 8, .inl (fun j => nI (sl j))))] → va_S A H0 H locs → W p l e R s m args below meth c H locs cells slots Q (F0 m pc ls [.int (nI 0)])) : ∀ (ls : Array Slot) (H : Heap) (locs : List Loc), lv_has ls 9 [(0, .ref h), (1, .int (nI x))] → va_P D classes [(h, .inr (8, [.int (nI i0), .int (nI i1), .ref a2, .ref a3, .ref a4, .ref a5, .ref a6, .ref a7, .ref a8, .int (nI i9), .ref a10, .ref a11, .ref a12, .ref a13, .ref a14, .ref a15, .int (nI i16), .int (nI i17), .ref a18, .int (nI i19), .ref a20, .ref a21, .int (nI i22), .ref a23])), (a12, .inl (cI, 72, .inl (fun j => nI (sy j)))), (a13, .inl (cI, 8, .inl (fun j => nI (sl j))))] H → va_D A [(h, .inr (8, [.int (nI i0), .int (nI i1), .ref a2, .ref a3, .ref a4, .ref a5, .ref a6, .ref a7, .ref a8, .int (nI i9), .ref a10, .ref a11, .ref a12, .ref a13, .ref a14, .ref a15, .int (nI i16), .int (nI i17), .ref a18, .int (nI i19), .ref a20, .ref a21, .int (nI i22), .ref a23])), (a12, .inl (cI, 72, .inl (fun j => nI (sy j)))), (a13, .inl (cI, 8, .inl (fun j => nI (sl j))))] → va_S A H0 H locs → W p l e R s m args below meth c H locs cells slots Q (F0 m 0 ls []) := by
  obtain ⟨hx, hb, hml, hown, hts⟩ := id S
  intro ls H locs hl hP hD hS
  refine lv_iload_n hx hb d_m_solve_0 rfl (lv_at hl 1 rfl) ?_
  refine lv_iconst (v := nI 1) hx hb d_m_solve_1 (by decide) ?_
  refine n_iadd hx hb d_m_solve_2 ?_
  refine lv_istore_n hx hb d_m_solve_3 rfl hl (Nat.le_of_ble_eq_true rfl) rfl (fun ls hl => ?_)
  have hl : lv_has ls 9 [(2, .int (nI (x + 1))), (0, .ref h), (1, .int (nI x))] := hl
  refine lv_iconst (v := nI 0) hx hb d_m_solve_4 (by decide) ?_
  refine lv_istore_n hx hb d_m_solve_5 rfl hl (Nat.le_of_ble_eq_true rfl) rfl (fun ls hl => ?_)
  have hl : lv_has ls 9 [(3, .int (nI 0)), (2, .int (nI (x + 1))), (0, .ref h), (1, .int (nI x))] := hl
  exact lp_m_solve_no_6 cI cC h i0 i1 a2 a3 a4 a5 a6 a7 a8 i9 a10 a11 a12 a13 a14 a15 i16 i17 a18 i19 a20 a21 i22 a23 sy sl x hx0 hsy d0 hd0 hpv hno S hRf hRl hRc hK hA  kr  0 (by omega) ls H locs (lv_sub hl [2, 3, 1, 0] rfl) hP hD hS
set_option maxHeartbeats 1000000 in
set_option maxRecDepth 100000 in
theorem c_m_solve_no (l : Launch) (D : va_G) (cI cC : ClassId) (h i0 i1 a2 a3 a4 a5 a6 a7 a8 i9 a10 a11 a12 a13 a14 a15 i16 i17 a18 i19 a20 a21 i22 a23 : Nat) (sy sl : Nat → Nat) (x : Nat) (hx0 : x ≤ 8) (hsy : lt256 72 sy) (d0 : Nat) (hd0 : d0 < x) (hpv : ∀ d, d < d0 → (pvW (slI sy x d) x d (x - d) d) < x) (hno : (pvW (slI sy x d0) x d0 (x - d0) d0) = x) (sz : Nat) : Met l y_m_solve (cd_m_solve :: WS) { frames := 2, cells := 0, slots := 0, locals := 45 } (va_Pc [.ref h, .int (nI x)] (wP D [(h, .inr (8, [.int (nI i0), .int (nI i1), .ref a2, .ref a3, .ref a4, .ref a5, .ref a6, .ref a7, .ref a8, .int (nI i9), .ref a10, .ref a11, .ref a12, .ref a13, .ref a14, .ref a15, .int (nI i16), .int (nI i17), .ref a18, .int (nI i19), .ref a20, .ref a21, .int (nI i22), .ref a23])), (a12, .inl (cI, 72, .inl (fun j => nI (sy j)))), (a13, .inl (cI, 8, .inl (fun j => nI (sl j))))] [(cI, .int), (cC, .char)] sz)) (wQi D (nI 0) [(h, .inr (8, [.int (nI i0), .int (nI i1), .ref a2, .ref a3, .ref a4, .ref a5, .ref a6, .ref a7, .ref a8, .int (nI i9), .ref a10, .ref a11, .ref a12, .ref a13, .ref a14, .ref a15, .int (nI i16), .int (nI i17), .ref a18, .int (nI i19), .ref a20, .ref a21, .int (nI i22), .ref a23])), (a12, .inl (cI, 72, .inl (fun j => nI (sy j)))), (a13, .inl (cI, 8, .inl (fun j => nI (sl j))))] [(h, .inr (8, [.int (nI i0), .int (nI i1), .ref a2, .ref a3, .ref a4, .ref a5, .ref a6, .ref a7, .ref a8, .int (nI i9), .ref a10, .ref a11, .ref a12, .ref a13, .ref a14, .ref a15, .int (nI i16), .int (nI i17), .ref a18, .int (nI i19), .ref a20, .ref a21, .int (nI i22), .ref a23])), (a12, .inl (cI, 72, .inl (fun j => nI ((slI sy x d0) j)))), (a13, .inl (cI, 8, .inl (fun j => nI (sl j))))] sz) 0 0 (va_A [(h, .inr (8, [.int (nI i0), .int (nI i1), .ref a2, .ref a3, .ref a4, .ref a5, .ref a6, .ref a7, .ref a8, .int (nI i9), .ref a10, .ref a11, .ref a12, .ref a13, .ref a14, .ref a15, .int (nI i16), .int (nI i17), .ref a18, .int (nI i19), .ref a20, .ref a21, .int (nI i22), .ref a23])), (a12, .inl (cI, 72, .inl (fun j => nI (sy j)))), (a13, .inl (cI, 8, .inl (fun j => nI (sl j))))] sz) := by
  refine Met.ofW (cc := b_m_solve) (maxL := 9) (ret := (some .boolean)) (by decide) rfl ?_
  intro p e s m args below meth c s₁ B hml hv0
  obtain ⟨rfl, hP, hK, hD0, hsz⟩ := hv0
  have hts := atoms_spec (ws := cd_m_solve :: WS) B.pre
  have hown : s.vm.findClass R_Model = some m.cls := findClass_of_methodNamed B.named
  have hlocks := B.notSynchronized
  subst hsz
  have hD := hD0.self (sz := s.heap.size)
  have hl := lv_entry ([.ref h, .int (nI x)]) (n := 9) (Nat.le_of_ble_eq_true rfl)
  rw [lg_entry_eq]
  generalize (lg_sl ([.ref h, .int (nI x)]) ++ List.replicate (9 - (lg_sl ([.ref h, .int (nI x)])).length) Slot.unset).toArray = ls at hl ⊢
  refine bd_m_solve_no cI cC h i0 i1 a2 a3 a4 a5 a6 a7 a8 i9 a10 a11 a12 a13 a14 a15 i16 i17 a18 i19 a20 a21 i22 a23 sy sl x hx0 hsy d0 hd0 hpv hno ⟨B.exec, B.bytes, hml, hown, hts⟩ (Nat.le_refl _) (Nat.le_refl _) ⟨Nat.le_refl _, Nat.le_refl _⟩ hK (fun q h => Or.inr h) (fun pc ls H locs hd hP hD hS => ?_) ls _ _ hl hP hD (va_S.rf)
  exact W.zret B.exec B.bytes B.returns rfl (fun t ht _ => ⟨⟨_, (), rfl, rfl, (by have h9 := hP; rw [← ht] at h9; exact h9)⟩, hS.F ht⟩) hS.2.2 hd
end
