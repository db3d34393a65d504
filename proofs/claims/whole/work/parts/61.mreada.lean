theorem kw_945 : (Jvm.Cond.methodLink "SquareCodesModel" (174 : Nat) ({ cls := "SquareCodesModel", name := "formOf", desc := "(I)I" } : Jvm.MethodName)) ∈ WS := WS_tbl 945 (by decide +kernel) rfl
theorem kw_947 : (Jvm.Cond.instanceMethod ({ cls := "SquareCodesModel", name := "formOf", desc := "(I)I" } : Jvm.MethodName)) ∈ WS := WS_tbl 947 (by decide +kernel) rfl
theorem ks_30 : Cond.selects R_Model y_m_formOf y_m_formOf ∈ WS := WS_sel 30 (by decide +kernel) rfl
set_option maxRecDepth 1000000 in
theorem kw_948 : cd_m_formOf ∈ WS := WS_tbl 948 rfl rfl
section
variable {p : Program} {l : Launch} {e : Env} {R : Room} {s : State} {m : MethodId} {args : Array Value} {below : List Frame} {meth : Method} {c : Code} {cells slots : Nat} {Q : State → Prop} {A : Nat → Prop} {H0 : Heap} {D : va_G}
set_option maxHeartbeats 1000000 in
set_option maxRecDepth 100000 in
theorem c_m_mend (l : Launch) (D : va_G) (cI cC : ClassId) (h i0 i1 a2 a3 a4 a5 a6 a7 a8 i9 a10 a11 a12 a13 a14 a15 i16 i17 a18 i19 a20 a21 i22 a23 : Nat) (bt tr sy sl yd sp : Nat → Nat) (x y : Nat) (hx0 : x ≤ 8) (hy0 : y ≤ 17) (hbt : lt256 26 bt) (hsy : lt256 72 sy) (hyd : lt256 17 yd) (sz : Nat) : Met l y_m_mend (cd_m_mend :: WS) { frames := 4, cells := 0, slots := 0, locals := 99 } (va_Pc [.ref h, .int (nI x), .int (nI y)] (wP D [(h, .inr (8, [.int (nI i0), .int (nI i1), .ref a2, .ref a3, .ref a4, .ref a5, .ref a6, .ref a7, .ref a8, .int (nI i9), .ref a10, .ref a11, .ref a12, .ref a13, .ref a14, .ref a15, .int (nI i16), .int (nI i17), .ref a18, .int (nI i19), .ref a20, .ref a21, .int (nI i22), .ref a23])), (a10, .inl (cI, 26, .inl (fun j => nI (bt j)))), (a11, .inl (cI, 26, .inl (fun j => nI (tr j)))), (a12, .inl (cI, 72, .inl (fun j => nI (sy j)))), (a13, .inl (cI, 8, .inl (fun j => nI (sl j)))), (a14, .inl (cI, 17, .inl (fun j => nI (yd j)))), (a15, .inl (cI, 8, .inl (fun j => nI (sp j))))] [(cI, .int), (cC, .char)] sz)) (wQi D (nI ((mnR bt tr sy sl yd sp x y).1)) [(h, .inr (8, [.int (nI i0), .int (nI i1), .ref a2, .ref a3, .ref a4, .ref a5, .ref a6, .ref a7, .ref a8, .int (nI i9), .ref a10, .ref a11, .ref a12, .ref a13, .ref a14, .ref a15, .int (nI i16), .int (nI i17), .ref a18, .int (nI i19), .ref a20, .ref a21, .int (nI i22), .ref a23])), (a10, .inl (cI, 26, .inl (fun j => nI (bt j)))), (a11, .inl (cI, 26, .inl (fun j => nI (tr j)))), (a12, .inl (cI, 72, .inl (fun j => nI (sy j)))), (a13, .inl (cI, 8, .inl (fun j => nI (sl j)))), (a14, .inl (cI, 17, .inl (fun j => nI (yd j)))), (a15, .inl (cI, 8, .inl (fun j => nI (sp j))))] [(h, .inr (8, [.int (nI i0), .int (nI i1), .ref a2, .ref a3, .ref a4, .ref a5, .ref a6, .ref a7, .ref a8, .int (nI i9), .ref a10, .ref a11, .ref a12, .ref a13, .ref a14, .ref a15, .int (nI i16), .int (nI i17), .ref a18, .int (nI i19), .ref a20, .ref a21, .int (nI i22), .ref a23])), (a10, .inl (cI, 26, .inl (fun j => nI (bt j)))), (a11, .inl (cI, 26, .inl (fun j => nI (((mnR bt tr sy sl yd sp x y).2.1) j)))), (a12, .inl (cI, 72, .inl (fun j => nI (((mnR bt tr sy sl yd sp x y).2.2.1) j)))), (a13, .inl (cI, 8, .inl (fun j => nI (((mnR bt tr sy sl yd sp x y).2.2.2.1) j)))), (a14, .inl (cI, 17, .inl (fun j => nI (yd j)))), (a15, .inl (cI, 8, .inl (fun j => nI (((mnR bt tr sy sl yd sp x y).2.2.2.2) j))))] sz) 0 0 (va_A [(h, .inr (8, [.int (nI i0), .int (nI i1), .ref a2, .ref a3, .ref a4, .ref a5, .ref a6, .ref a7, .ref a8, .int (nI i9), .ref a10, .ref a11, .ref a12, .ref a13, .ref a14, .ref a15, .int (nI i16), .int (nI i17), .ref a18, .int (nI i19), .ref a20, .ref a21, .int (nI i22), .ref a23])), (a10, .inl (cI, 26, .inl (fun j => nI (bt j)))), (a11, .inl (cI, 26, .inl (fun j => nI (tr j)))), (a12, .inl (cI, 72, .inl (fun j => nI (sy j)))), (a13, .inl (cI, 8, .inl (fun j => nI (sl j)))), (a14, .inl (cI, 17, .inl (fun j => nI (yd j)))), (a15, .inl (cI, 8, .inl (fun j => nI (sp j))))] sz) := by
  rcases Nat.eq_zero_or_pos x with h0 | h0
  · subst h0
    rw [mnR_0]
    exact c_m_mend_zero l D cI cC h i0 i1 a2 a3 a4 a5 a6 a7 a8 i9 a10 a11 a12 a13 a14 a15 i16 i17 a18 i19 a20 a21 i22 a23 bt tr sy sl yd sp y hy0 hbt hsy hyd sz
  · by_cases h1 : mnA sy yd x < x
    · rw [mnR_a h0 h1]
      exact c_m_mend_a l D cI cC h i0 i1 a2 a3 a4 a5 a6 a7 a8 i9 a10 a11 a12 a13 a14 a15 i16 i17 a18 i19 a20 a21 i22 a23 bt tr sy sl yd sp x hx0 h0 y hy0 hbt hsy hyd (mnA sy yd x) h1 mnA_p (mnA_n h1) sz
    · by_cases h2 : spC (mnS sy sl yd x) x 26 = x
      · by_cases h3 : mnB sy sl yd sp x < x
        · rw [mnR_c h0 h1 h2 h3]
          exact c_m_mend_c l D cI cC h i0 i1 a2 a3 a4 a5 a6 a7 a8 i9 a10 a11 a12 a13 a14 a15 i16 i17 a18 i19 a20 a21 i22 a23 bt tr sy sl yd sp x hx0 h0 y hy0 hbt hsy hyd (mnA_f h1) (fun q hq => Nat.le_trans (spC_le (mnS_lt hx0 hsy hyd h1) q hq) hx0) h2 (mnB sy sl yd sp x) h3 mnB_p (mnB_n h3) sz
        · rw [mnR_d h0 h1 h2 h3]
          exact c_m_mend_d l D cI cC h i0 i1 a2 a3 a4 a5 a6 a7 a8 i9 a10 a11 a12 a13 a14 a15 i16 i17 a18 i19 a20 a21 i22 a23 bt tr sy sl yd sp x hx0 h0 y hy0 hbt hsy hyd (mnA_f h1) (fun q hq => Nat.le_trans (spC_le (mnS_lt hx0 hsy hyd h1) q hq) hx0) h2 (mnB_f h3) sz
      · rw [mnR_b h0 h1 h2]
        exact c_m_mend_b l D cI cC h i0 i1 a2 a3 a4 a5 a6 a7 a8 i9 a10 a11 a12 a13 a14 a15 i16 i17 a18 i19 a20 a21 i22 a23 bt tr sy sl yd sp x hx0 h0 y hy0 hbt hsy hyd (mnA_f h1) (fun q hq => Nat.le_trans (spC_le (mnS_lt hx0 hsy hyd h1) q hq) hx0) h2 sz
end
section
theorem d_m_read_0 : decode b_m_read 0 = .ok (.aload_n 0, 1) := by decide +kernel
theorem d_m_read_1 : decode b_m_read 1 = .ok (.iconst 0, 1) := by decide +kernel
theorem d_m_read_2 : decode b_m_read 2 = .ok (.invokevirtual 174, 3) := by decide +kernel
theorem d_m_read_5 : decode b_m_read 5 = .ok (.istore_n 1, 1) := by decide +kernel
theorem d_m_read_6 : decode b_m_read 6 = .ok (.iload_n 1, 1) := by decide +kernel
theorem d_m_read_7 : decode b_m_read 7 = .ok (.ifCond .lt 7, 3) := by decide +kernel
theorem d_m_read_10 : decode b_m_read 10 = .ok (.iload_n 1, 1) := by decide +kernel
theorem d_m_read_11 : decode b_m_read 11 = .ok (.goto 8, 3) := by decide +kernel
theorem d_m_read_14 : decode b_m_read 14 = .ok (.aload_n 0, 1) := by decide +kernel
theorem d_m_read_15 : decode b_m_read 15 = .ok (.iconst 1, 1) := by decide +kernel
theorem d_m_read_16 : decode b_m_read 16 = .ok (.invokevirtual 174, 3) := by decide +kernel
theorem d_m_read_19 : decode b_m_read 19 = .ok (.istore_n 2, 1) := by decide +kernel
theorem d_m_read_20 : decode b_m_read 20 = .ok (.aload_n 0, 1) := by decide +kernel
theorem d_m_read_21 : decode b_m_read 21 = .ok (.iload_n 2, 1) := by decide +kernel
theorem d_m_read_22 : decode b_m_read 22 = .ok (.ifCond .lt 7, 3) := by decide +kernel
theorem d_m_read_25 : decode b_m_read 25 = .ok (.iconst 1, 1) := by decide +kernel
theorem d_m_read_26 : decode b_m_read 26 = .ok (.goto 4, 3) := by decide +kernel
theorem d_m_read_29 : decode b_m_read 29 = .ok (.iconst 0, 1) := by decide +kernel
theorem d_m_read_30 : decode b_m_read 30 = .ok (.iconst 1, 1) := by decide +kernel
theorem d_m_read_31 : decode b_m_read 31 = .ok (.invokevirtual 103, 3) := by decide +kernel
theorem d_m_read_34 : decode b_m_read 34 = .ok (.ifCond .ne 5, 3) := by decide +kernel
theorem d_m_read_37 : decode b_m_read 37 = .ok (.iconst 0, 1) := by decide +kernel
theorem d_m_read_38 : decode b_m_read 38 = .ok (.ireturn, 1) := by decide +kernel
theorem d_m_read_39 : decode b_m_read 39 = .ok (.iload_n 2, 1) := by decide +kernel
theorem d_m_read_40 : decode b_m_read 40 = .ok (.bipush 8, 2) := by decide +kernel
theorem d_m_read_42 : decode b_m_read 42 = .ok (.idiv, 1) := by decide +kernel
theorem d_m_read_43 : decode b_m_read 43 = .ok (.invokestatic 107, 3) := by decide +kernel
theorem d_m_read_46 : decode b_m_read 46 = .ok (.istore_n 3, 1) := by decide +kernel
theorem d_m_read_47 : decode b_m_read 47 = .ok (.aload_n 0, 1) := by decide +kernel
theorem d_m_read_48 : decode b_m_read 48 = .ok (.iload_n 2, 1) := by decide +kernel
theorem d_m_read_49 : decode b_m_read 49 = .ok (.bipush 8, 2) := by decide +kernel
theorem d_m_read_51 : decode b_m_read 51 = .ok (.irem, 1) := by decide +kernel
theorem d_m_read_52 : decode b_m_read 52 = .ok (.invokevirtual 177, 3) := by decide +kernel
theorem d_m_read_55 : decode b_m_read 55 = .ok (.iconst 0, 1) := by decide +kernel
theorem d_m_read_56 : decode b_m_read 56 = .ok (.istore 4, 2) := by decide +kernel
theorem d_m_read_58 : decode b_m_read 58 = .ok (.iload 4, 2) := by decide +kernel
theorem d_m_read_60 : decode b_m_read 60 = .ok (.bipush 26, 2) := by decide +kernel
theorem d_m_read_62 : decode b_m_read 62 = .ok (.if_icmp .ge 23, 3) := by decide +kernel
theorem d_m_read_65 : decode b_m_read 65 = .ok (.aload_n 0, 1) := by decide +kernel
theorem d_m_read_66 : decode b_m_read 66 = .ok (.getfield 34, 3) := by decide +kernel
theorem d_m_read_69 : decode b_m_read 69 = .ok (.iload 4, 2) := by decide +kernel
theorem d_m_read_71 : decode b_m_read 71 = .ok (.aload_n 0, 1) := by decide +kernel
theorem d_m_read_72 : decode b_m_read 72 = .ok (.getfield 31, 3) := by decide +kernel
theorem d_m_read_75 : decode b_m_read 75 = .ok (.iload 4, 2) := by decide +kernel
theorem d_m_read_77 : decode b_m_read 77 = .ok (.iaload, 1) := by decide +kernel
theorem d_m_read_78 : decode b_m_read 78 = .ok (.iastore, 1) := by decide +kernel
theorem d_m_read_79 : decode b_m_read 79 = .ok (.iinc 4 1, 3) := by decide +kernel
theorem d_m_read_82 : decode b_m_read 82 = .ok (.goto (-24), 3) := by decide +kernel
theorem d_m_read_85 : decode b_m_read 85 = .ok (.iconst 0, 1) := by decide +kernel
theorem d_m_read_86 : decode b_m_read 86 = .ok (.istore 4, 2) := by decide +kernel
theorem d_m_read_88 : decode b_m_read 88 = .ok (.iload 4, 2) := by decide +kernel
theorem d_m_read_90 : decode b_m_read 90 = .ok (.iload_n 3, 1) := by decide +kernel
theorem d_m_read_91 : decode b_m_read 91 = .ok (.if_icmp .ge 22, 3) := by decide +kernel
theorem d_m_read_94 : decode b_m_read 94 = .ok (.aload_n 0, 1) := by decide +kernel
theorem d_m_read_95 : decode b_m_read 95 = .ok (.getfield 43, 3) := by decide +kernel
theorem d_m_read_98 : decode b_m_read 98 = .ok (.iload 4, 2) := by decide +kernel
theorem d_m_read_100 : decode b_m_read 100 = .ok (.aload_n 0, 1) := by decide +kernel
theorem d_m_read_101 : decode b_m_read 101 = .ok (.iload 4, 2) := by decide +kernel
theorem d_m_read_103 : decode b_m_read 103 = .ok (.invokevirtual 139, 3) := by decide +kernel
theorem d_m_read_106 : decode b_m_read 106 = .ok (.iastore, 1) := by decide +kernel
theorem d_m_read_107 : decode b_m_read 107 = .ok (.iinc 4 1, 3) := by decide +kernel
theorem d_m_read_110 : decode b_m_read 110 = .ok (.goto (-22), 3) := by decide +kernel
theorem d_m_read_113 : decode b_m_read 113 = .ok (.iconst 0, 1) := by decide +kernel
theorem d_m_read_114 : decode b_m_read 114 = .ok (.istore 4, 2) := by decide +kernel
theorem d_m_read_116 : decode b_m_read 116 = .ok (.iload 4, 2) := by decide +kernel
theorem d_m_read_118 : decode b_m_read 118 = .ok (.iload_n 3, 1) := by decide +kernel
theorem d_m_read_119 : decode b_m_read 119 = .ok (.iconst 2, 1) := by decide +kernel
theorem d_m_read_120 : decode b_m_read 120 = .ok (.idiv, 1) := by decide +kernel
theorem d_m_read_121 : decode b_m_read 121 = .ok (.if_icmp .gt 19, 3) := by decide +kernel
theorem d_m_read_124 : decode b_m_read 124 = .ok (.aload_n 0, 1) := by decide +kernel
theorem d_m_read_125 : decode b_m_read 125 = .ok (.iload 4, 2) := by decide +kernel
theorem d_m_read_127 : decode b_m_read 127 = .ok (.iload_n 3, 1) := by decide +kernel
theorem d_m_read_128 : decode b_m_read 128 = .ok (.invokevirtual 180, 3) := by decide +kernel
theorem d_m_read_131 : decode b_m_read 131 = .ok (.ifCond .ne 9, 3) := by decide +kernel
theorem d_m_read_134 : decode b_m_read 134 = .ok (.iinc 4 1, 3) := by decide +kernel
theorem d_m_read_137 : decode b_m_read 137 = .ok (.goto (-21), 3) := by decide +kernel
theorem d_m_read_140 : decode b_m_read 140 = .ok (.aload_n 0, 1) := by decide +kernel
theorem d_m_read_141 : decode b_m_read 141 = .ok (.iload 4, 2) := by decide +kernel
theorem d_m_read_143 : decode b_m_read 143 = .ok (.iload_n 3, 1) := by decide +kernel
theorem d_m_read_144 : decode b_m_read 144 = .ok (.iconst 2, 1) := by decide +kernel
theorem d_m_read_145 : decode b_m_read 145 = .ok (.idiv, 1) := by decide +kernel
theorem d_m_read_146 : decode b_m_read 146 = .ok (.if_icmp .gt 7, 3) := by decide +kernel
theorem d_m_read_149 : decode b_m_read 149 = .ok (.iconst 1, 1) := by decide +kernel
theorem d_m_read_150 : decode b_m_read 150 = .ok (.goto 4, 3) := by decide +kernel
theorem d_m_read_153 : decode b_m_read 153 = .ok (.iconst 0, 1) := by decide +kernel
theorem d_m_read_154 : decode b_m_read 154 = .ok (.iconst 2, 1) := by decide +kernel
theorem d_m_read_155 : decode b_m_read 155 = .ok (.invokevirtual 103, 3) := by decide +kernel
theorem d_m_read_158 : decode b_m_read 158 = .ok (.ifCond .eq 19, 3) := by decide +kernel
theorem d_m_read_161 : decode b_m_read 161 = .ok (.aload_n 0, 1) := by decide +kernel
theorem d_m_read_162 : decode b_m_read 162 = .ok (.aload_n 0, 1) := by decide +kernel
theorem d_m_read_163 : decode b_m_read 163 = .ok (.bipush 26, 2) := by decide +kernel
theorem d_m_read_165 : decode b_m_read 165 = .ok (.iload_n 3, 1) := by decide +kernel
theorem d_m_read_166 : decode b_m_read 166 = .ok (.isub, 1) := by decide +kernel
theorem d_m_read_167 : decode b_m_read 167 = .ok (.invokevirtual 183, 3) := by decide +kernel
theorem d_m_read_170 : decode b_m_read 170 = .ok (.iconst 3, 1) := by decide +kernel
theorem d_m_read_171 : decode b_m_read 171 = .ok (.invokevirtual 103, 3) := by decide +kernel
theorem d_m_read_174 : decode b_m_read 174 = .ok (.ifCond .ne 5, 3) := by decide +kernel
theorem d_m_read_177 : decode b_m_read 177 = .ok (.iconst 0, 1) := by decide +kernel
theorem d_m_read_178 : decode b_m_read 178 = .ok (.ireturn, 1) := by decide +kernel
theorem d_m_read_179 : decode b_m_read 179 = .ok (.aload_n 0, 1) := by decide +kernel
theorem d_m_read_180 : decode b_m_read 180 = .ok (.iconst 1, 1) := by decide +kernel
theorem d_m_read_181 : decode b_m_read 181 = .ok (.putfield 186, 3) := by decide +kernel
theorem d_m_read_184 : decode b_m_read 184 = .ok (.aload_n 0, 1) := by decide +kernel
theorem d_m_read_185 : decode b_m_read 185 = .ok (.aload_n 0, 1) := by decide +kernel
theorem d_m_read_186 : decode b_m_read 186 = .ok (.getfield 161, 3) := by decide +kernel
theorem d_m_read_189 : decode b_m_read 189 = .ok (.putfield 190, 3) := by decide +kernel
theorem d_m_read_192 : decode b_m_read 192 = .ok (.iconst 0, 1) := by decide +kernel
theorem d_m_read_193 : decode b_m_read 193 = .ok (.istore 5, 2) := by decide +kernel
theorem d_m_read_195 : decode b_m_read 195 = .ok (.iload 5, 2) := by decide +kernel
theorem d_m_read_197 : decode b_m_read 197 = .ok (.aload_n 0, 1) := by decide +kernel
theorem d_m_read_198 : decode b_m_read 198 = .ok (.getfield 161, 3) := by decide +kernel
theorem d_m_read_201 : decode b_m_read 201 = .ok (.if_icmp .ge 23, 3) := by decide +kernel
theorem d_m_read_204 : decode b_m_read 204 = .ok (.aload_n 0, 1) := by decide +kernel
theorem d_m_read_205 : decode b_m_read 205 = .ok (.getfield 52, 3) := by decide +kernel
theorem d_m_read_208 : decode b_m_read 208 = .ok (.iload 5, 2) := by decide +kernel
theorem d_m_read_210 : decode b_m_read 210 = .ok (.aload_n 0, 1) := by decide +kernel
theorem d_m_read_211 : decode b_m_read 211 = .ok (.getfield 49, 3) := by decide +kernel
theorem d_m_read_214 : decode b_m_read 214 = .ok (.iload 5, 2) := by decide +kernel
theorem d_m_read_216 : decode b_m_read 216 = .ok (.iaload, 1) := by decide +kernel
theorem d_m_read_217 : decode b_m_read 217 = .ok (.iastore, 1) := by decide +kernel
theorem d_m_read_218 : decode b_m_read 218 = .ok (.iinc 5 1, 3) := by decide +kernel
theorem d_m_read_221 : decode b_m_read 221 = .ok (.goto (-26), 3) := by decide +kernel
theorem d_m_read_224 : decode b_m_read 224 = .ok (.iconst 0, 1) := by decide +kernel
theorem d_m_read_225 : decode b_m_read 225 = .ok (.istore 5, 2) := by decide +kernel
theorem d_m_read_227 : decode b_m_read 227 = .ok (.iload 5, 2) := by decide +kernel
theorem d_m_read_229 : decode b_m_read 229 = .ok (.bipush 26, 2) := by decide +kernel
theorem d_m_read_231 : decode b_m_read 231 = .ok (.if_icmp .ge 23, 3) := by decide +kernel
theorem d_m_read_234 : decode b_m_read 234 = .ok (.aload_n 0, 1) := by decide +kernel
theorem d_m_read_235 : decode b_m_read 235 = .ok (.getfield 58, 3) := by decide +kernel
theorem d_m_read_238 : decode b_m_read 238 = .ok (.iload 5, 2) := by decide +kernel
theorem d_m_read_240 : decode b_m_read 240 = .ok (.aload_n 0, 1) := by decide +kernel
theorem d_m_read_241 : decode b_m_read 241 = .ok (.getfield 34, 3) := by decide +kernel
theorem d_m_read_244 : decode b_m_read 244 = .ok (.iload 5, 2) := by decide +kernel
theorem d_m_read_246 : decode b_m_read 246 = .ok (.iaload, 1) := by decide +kernel
theorem d_m_read_247 : decode b_m_read 247 = .ok (.iastore, 1) := by decide +kernel
theorem d_m_read_248 : decode b_m_read 248 = .ok (.iinc 5 1, 3) := by decide +kernel
theorem d_m_read_251 : decode b_m_read 251 = .ok (.goto (-24), 3) := by decide +kernel
theorem d_m_read_254 : decode b_m_read 254 = .ok (.aload_n 0, 1) := by decide +kernel
theorem d_m_read_255 : decode b_m_read 255 = .ok (.getfield 55, 3) := by decide +kernel
theorem d_m_read_258 : decode b_m_read 258 = .ok (.iconst 0, 1) := by decide +kernel
theorem d_m_read_259 : decode b_m_read 259 = .ok (.iload_n 2, 1) := by decide +kernel
theorem d_m_read_260 : decode b_m_read 260 = .ok (.bipush 8, 2) := by decide +kernel
theorem d_m_read_262 : decode b_m_read 262 = .ok (.idiv, 1) := by decide +kernel
theorem d_m_read_263 : decode b_m_read 263 = .ok (.iastore, 1) := by decide +kernel
theorem d_m_read_264 : decode b_m_read 264 = .ok (.aload_n 0, 1) := by decide +kernel
theorem d_m_read_265 : decode b_m_read 265 = .ok (.getfield 55, 3) := by decide +kernel
theorem d_m_read_268 : decode b_m_read 268 = .ok (.iconst 1, 1) := by decide +kernel
theorem d_m_read_269 : decode b_m_read 269 = .ok (.iload_n 2, 1) := by decide +kernel
theorem d_m_read_270 : decode b_m_read 270 = .ok (.bipush 8, 2) := by decide +kernel
theorem d_m_read_272 : decode b_m_read 272 = .ok (.irem, 1) := by decide +kernel
theorem d_m_read_273 : decode b_m_read 273 = .ok (.iastore, 1) := by decide +kernel
theorem d_m_read_274 : decode b_m_read 274 = .ok (.aload_n 0, 1) := by decide +kernel
theorem d_m_read_275 : decode b_m_read 275 = .ok (.getfield 55, 3) := by decide +kernel
theorem d_m_read_278 : decode b_m_read 278 = .ok (.iconst 2, 1) := by decide +kernel
theorem d_m_read_279 : decode b_m_read 279 = .ok (.iload 4, 2) := by decide +kernel
theorem d_m_read_281 : decode b_m_read 281 = .ok (.iastore, 1) := by decide +kernel
theorem d_m_read_282 : decode b_m_read 282 = .ok (.aload_n 0, 1) := by decide +kernel
theorem d_m_read_283 : decode b_m_read 283 = .ok (.getfield 55, 3) := by decide +kernel
theorem d_m_read_286 : decode b_m_read 286 = .ok (.iconst 3, 1) := by decide +kernel
theorem d_m_read_287 : decode b_m_read 287 = .ok (.iload_n 1, 1) := by decide +kernel
theorem d_m_read_288 : decode b_m_read 288 = .ok (.ifCond .lt 7, 3) := by decide +kernel
theorem d_m_read_291 : decode b_m_read 291 = .ok (.iconst 1, 1) := by decide +kernel
theorem d_m_read_292 : decode b_m_read 292 = .ok (.goto 4, 3) := by decide +kernel
theorem d_m_read_295 : decode b_m_read 295 = .ok (.iconst 0, 1) := by decide +kernel
theorem d_m_read_296 : decode b_m_read 296 = .ok (.iastore, 1) := by decide +kernel
theorem d_m_read_297 : decode b_m_read 297 = .ok (.aload_n 0, 1) := by decide +kernel
theorem d_m_read_298 : decode b_m_read 298 = .ok (.getfield 161, 3) := by decide +kernel
theorem d_m_read_301 : decode b_m_read 301 = .ok (.ireturn, 1) := by decide +kernel
end
section
variable {p : Program} {l : Launch} {e : Env} {R : Room} {s : State} {m : MethodId} {args : Array Value} {below : List Frame} {meth : Method} {c : Code} {cells slots : Nat} {Q : State → Prop} {A : Nat → Prop} {H0 : Heap} {D : va_G}
set_option maxHeartbeats 1000000 in
set_option maxRecDepth 100000 in
theorem bd_m_read_none (cI cC : ClassId) (h i0 i1 a2 a3 a4 a5 a6 a7 a8 i9 a10 a11 a12 a13 a14 a15 i16 i17 a18 i19 a20 a21 i22 a23 : Nat) (gr fo : Nat → Nat) (hgr : ∀ j, j < 441 → gr j ≤ 1) (hfo : ∀ j, j < 30 → fo j < 441) (hf1 : EqN (foL gr fo 0 32) 4294967295) (hf2 : EqN (foL gr fo 1 32) 4294967295) (S : CallFix p m c b_m_read 6 s args (cd_m_read :: WS) R_Model) (hRf : 5 ≤ R.frames) (hRl : 123 ≤ R.locals) (hRc : cells ≤ R.cells ∧ slots ≤ R.slots) (hK : va_K D classes [(cI, .int), (cC, .char)] s) (hA : ∀ q, H0.size ≤ q → A q) (kr : ∀ (pc : Nat) (ls : Array Slot) (H : Heap) (locs : List Loc), decode b_m_read pc = .ok (.ireturn, 1) → va_P D classes [(h, .inr (8, [.int (nI 1), .int (nI i1), .ref a2, .ref a3, .ref a4, .ref a5, .ref a6, .ref a7, .ref a8, .int (nI i9), .ref a10, .ref a11, .ref a12, .ref a13, .ref a14, .ref a15, .int (nI i16), .int (nI i17), .ref a18, .int (nI i19), .ref a20, .ref a21, .int (nI i22), .ref a23])), (a3, .inl (cI, 441, .inl (fun j => nI (gr j)))), (a6, .inl (cI, 30, .inl (fun j => nI (fo j))))] H → va_D A [(h, .inr (8, [.int (nI 1), .int (nI i1), .ref a2, .ref a3, .ref a4, .ref a5, .ref a6, .ref a7, .ref a8, .int (nI i9), .ref a10, .ref a11, .ref a12, .ref a13, .ref a14, .ref a15, .int (nI i16), .int (nI i17), .ref a18, .int (nI i19), .ref a20, .ref a21, .int (nI i22), .ref a23])), (a3, .inl (cI, 441, .inl (fun j => nI (gr j)))), (a6, .inl (cI, 30, .inl (fun j => nI (fo j))))] → va_S A H0 H locs → W p l e R s m args below meth c H locs cells slots Q (F0 m pc ls [.int (nI 0)])) : ∀ (ls : Array Slot) (H : Heap) (locs : List Loc), lv_has ls 6 [(0, .ref h)] → va_P D classes [(h, .inr (8, [.int (nI i0), .int (nI i1), .ref a2, .ref a3, .ref a4, .ref a5, .ref a6, .ref a7, .ref a8, .int (nI i9), .ref a10, .ref a11, .ref a12, .ref a13, .ref a14, .ref a15, .int (nI i16), .int (nI i17), .ref a18, .int (nI i19), .ref a20, .ref a21, .int (nI i22), .ref a23])), (a3, .inl (cI, 441, .inl (fun j => nI (gr j)))), (a6, .inl (cI, 30, .inl (fun j => nI (fo j))))] H → va_D A [(h, .inr (8, [.int (nI i0), .int (nI i1), .ref a2, .ref a3, .ref a4, .ref a5, .ref a6, .ref a7, .ref a8, .int (nI i9), .ref a10, .ref a11, .ref a12, .ref a13, .ref a14, .ref a15, .int (nI i16), .int (nI i17), .ref a18, .int (nI i19), .ref a20, .ref a21, .int (nI i22), .ref a23])), (a3, .inl (cI, 441, .inl (fun j => nI (gr j)))), (a6, .inl (cI, 30, .inl (fun j => nI (fo j))))] → va_S A H0 H locs → W p l e R s m args below meth c H locs cells slots Q (F0 m 0 ls []) := by
  obtain ⟨hx, hb, hml, hown, hts⟩ := id S
  intro ls H locs hl hP hD hS
  refine lv_aload_n hx hb d_m_read_0 rfl (lv_at hl 0 rfl) ?_
  refine lv_iconst (v := nI 0) hx hb d_m_read_1 (by decide) ?_
  refine q_readV (n := 1) (As := [.int (nI 0)]) (rest := []) (wc := [(h, .inr (8, [.int (nI i0), .int (nI i1), .ref a2, .ref a3, .ref a4, .ref a5, .ref a6, .ref a7, .ref a8, .int (nI i9), .ref a10, .ref a11, .ref a12, .ref a13, .ref a14, .ref a15, .int (nI i16), .int (nI i17), .ref a18, .int (nI i19), .ref a20, .ref a21, .int (nI i22), .ref a23])), (a3, .inl (cI, 441, .inl (fun j => nI (gr j)))), (a6, .inl (cI, 30, .inl (fun j => nI (fo j))))]) S (c_m_formOf l D cI cC h i0 i1 a2 a3 a4 a5 a6 a7 a8 i9 a10 a11 a12 a13 a14 a15 i16 i17 a18 i19 a20 a21 i22 a23 gr fo 0 (by omega) hgr hfo) hK hP (q0 := 0) rfl rfl [0, 1, 2] rfl (q_goodV kw_945 kw_947 ks_30 kw_10 kw_948) (by decide +kernel) rfl rfl rfl ⟨Nat.le_trans (Nat.le_of_ble_eq_true rfl) hRf, Nat.le_trans (Nat.le_of_ble_eq_true rfl) hRl⟩ rfl hl.1 rfl (Nat.le_of_ble_eq_true rfl) d_m_read_2 hRc hS (fun H locs hP hS => ?_)
  refine n_top (show (nI (foL gr fo 0 32)) = (-1) from (by rw [show foL gr fo 0 32 = 4294967295 from hf1]; exact nx_m1)) ?_
  refine lv_istore_n hx hb d_m_read_5 rfl hl (Nat.le_of_ble_eq_true rfl) rfl (fun ls hl => ?_)
  have hl : lv_has ls 6 [(1, .int (-1)), (0, .ref h)] := hl
  refine lv_iload_n hx hb d_m_read_6 rfl (lv_at hl 0 rfl) ?_
  refine n_dn_lt hx hb d_m_read_7 (tgt := 14) rfl ?_
  refine lv_aload_n hx hb d_m_read_14 rfl (lv_at hl 1 rfl) ?_
  refine lv_iconst (v := nI 1) hx hb d_m_read_15 (by decide) ?_
  refine q_readV (n := 1) (As := [.int (nI 1)]) (rest := []) (wc := [(h, .inr (8, [.int (nI i0), .int (nI i1), .ref a2, .ref a3, .ref a4, .ref a5, .ref a6, .ref a7, .ref a8, .int (nI i9), .ref a10, .ref a11, .ref a12, .ref a13, .ref a14, .ref a15, .int (nI i16), .int (nI i17), .ref a18, .int (nI i19), .ref a20, .ref a21, .int (nI i22), .ref a23])), (a3, .inl (cI, 441, .inl (fun j => nI (gr j)))), (a6, .inl (cI, 30, .inl (fun j => nI (fo j))))]) S (c_m_formOf l D cI cC h i0 i1 a2 a3 a4 a5 a6 a7 a8 i9 a10 a11 a12 a13 a14 a15 i16 i17 a18 i19 a20 a21 i22 a23 gr fo 1 (by omega) hgr hfo) hK hP (q0 := 0) rfl rfl [0, 1, 2] rfl (q_goodV kw_945 kw_947 ks_30 kw_10 kw_948) (by decide +kernel) rfl rfl rfl ⟨Nat.le_trans (Nat.le_of_ble_eq_true rfl) hRf, Nat.le_trans (Nat.le_of_ble_eq_true rfl) hRl⟩ rfl hl.1 rfl (Nat.le_of_ble_eq_true rfl) d_m_read_16 hRc hS (fun H locs hP hS => ?_)
  refine n_top (show (nI (foL gr fo 1 32)) = (-1) from (by rw [show foL gr fo 1 32 = 4294967295 from hf2]; exact nx_m1)) ?_
  refine lv_istore_n hx hb d_m_read_19 rfl hl (Nat.le_of_ble_eq_true rfl) rfl (fun ls hl => ?_)
  have hl : lv_has ls 6 [(2, .int (-1)), (1, .int (-1)), (0, .ref h)] := hl
  refine lv_aload_n hx hb d_m_read_20 rfl (lv_at hl 2 rfl) ?_
  refine lv_iload_n hx hb d_m_read_21 rfl (lv_at hl 0 rfl) ?_
  refine n_dn_lt hx hb d_m_read_22 (tgt := 29) rfl ?_
  refine lv_iconst (v := nI 0) hx hb d_m_read_29 (by decide) ?_
  refine lv_iconst (v := nI 1) hx hb d_m_read_30 (by decide) ?_
  refine q_writeVi (n := 2) (As := [.int (nI 0), .int (nI 1)]) (rest := []) (wc := [(h, .inr (8, [.int (nI i0), .int (nI i1), .ref a2, .ref a3, .ref a4, .ref a5, .ref a6, .ref a7, .ref a8, .int (nI i9), .ref a10, .ref a11, .ref a12, .ref a13, .ref a14, .ref a15, .int (nI i16), .int (nI i17), .ref a18, .int (nI i19), .ref a20, .ref a21, .int (nI i22), .ref a23]))]) (wr := [(a3, .inl (cI, 441, .inl (fun j => nI (gr j)))), (a6, .inl (cI, 30, .inl (fun j => nI (fo j))))]) (w1 := [(h, .inr (8, [.int (nI (whN 0 1)), .int (nI i1), .ref a2, .ref a3, .ref a4, .ref a5, .ref a6, .ref a7, .ref a8, .int (nI i9), .ref a10, .ref a11, .ref a12, .ref a13, .ref a14, .ref a15, .int (nI i16), .int (nI i17), .ref a18, .int (nI i19), .ref a20, .ref a21, .int (nI i22), .ref a23]))]) S (c_m_when l D cI cC h i0 i1 a2 a3 a4 a5 a6 a7 a8 i9 a10 a11 a12 a13 a14 a15 i16 i17 a18 i19 a20 a21 i22 a23 0 1 (by omega) H.size) hK hP hD hA (q0 := 0) rfl rfl [0] [1, 2] rfl rfl rfl rfl (by decide) rfl (q_goodV kw_861 kw_863 ks_20 kw_10 kw_864) (by decide +kernel) rfl rfl rfl ⟨Nat.le_trans (Nat.le_of_ble_eq_true rfl) hRf, Nat.le_trans (Nat.le_of_ble_eq_true rfl) hRl⟩ rfl hl.1 rfl (Nat.le_of_ble_eq_true rfl) d_m_read_31 hRc hS (fun H locs hP hD hS => ?_)
  replace hP : va_P D classes [(h, .inr (8, [.int (nI (whN 0 1)), .int (nI i1), .ref a2, .ref a3, .ref a4, .ref a5, .ref a6, .ref a7, .ref a8, .int (nI i9), .ref a10, .ref a11, .ref a12, .ref a13, .ref a14, .ref a15, .int (nI i16), .int (nI i17), .ref a18, .int (nI i19), .ref a20, .ref a21, .int (nI i22), .ref a23])), (a3, .inl (cI, 441, .inl (fun j => nI (gr j)))), (a6, .inl (cI, 30, .inl (fun j => nI (fo j))))] H := hP.sub [2, 0, 1] rfl
  replace hD : va_D A [(h, .inr (8, [.int (nI (whN 0 1)), .int (nI i1), .ref a2, .ref a3, .ref a4, .ref a5, .ref a6, .ref a7, .ref a8, .int (nI i9), .ref a10, .ref a11, .ref a12, .ref a13, .ref a14, .ref a15, .int (nI i16), .int (nI i17), .ref a18, .int (nI i19), .ref a20, .ref a21, .int (nI i22), .ref a23])), (a3, .inl (cI, 441, .inl (fun j => nI (gr j)))), (a6, .inl (cI, 30, .inl (fun j => nI (fo j))))] := hD.sub [2, 0, 1] rfl rfl
  refine n_if_ne hx hb d_m_read_34 (tgt := 39) rfl (by omega) (fun g34 => absurd g34 (by decide)) (fun g34 => ?_)
  refine lv_iconst (v := nI 0) hx hb d_m_read_37 (by decide) ?_
  exact kr _ ls H locs d_m_read_38 hP hD hS
set_option maxHeartbeats 1000000 in
set_option maxRecDepth 100000 in
theorem c_m_read_none (l : Launch) (D : va_G) (cI cC : ClassId) (h i0 i1 a2 a3 a4 a5 a6 a7 a8 i9 a10 a11 a12 a13 a14 a15 i16 i17 a18 i19 a20 a21 i22 a23 : Nat) (gr fo : Nat → Nat) (hgr : ∀ j, j < 441 → gr j ≤ 1) (hfo : ∀ j, j < 30 → fo j < 441) (hf1 : EqN (foL gr fo 0 32) 4294967295) (hf2 : EqN (foL gr fo 1 32) 4294967295) (sz : Nat) : Met l y_m_read (cd_m_read :: WS) { frames := 5, cells := 0, slots := 0, locals := 123 } (va_Pc [.ref h] (wP D [(h, .inr (8, [.int (nI i0), .int (nI i1), .ref a2, .ref a3, .ref a4, .ref a5, .ref a6, .ref a7, .ref a8, .int (nI i9), .ref a10, .ref a11, .ref a12, .ref a13, .ref a14, .ref a15, .int (nI i16), .int (nI i17), .ref a18, .int (nI i19), .ref a20, .ref a21, .int (nI i22), .ref a23])), (a3, .inl (cI, 441, .inl (fun j => nI (gr j)))), (a6, .inl (cI, 30, .inl (fun j => nI (fo j))))] [(cI, .int), (cC, .char)] sz)) (wQi D (nI 0) [(h, .inr (8, [.int (nI i0), .int (nI i1), .ref a2, .ref a3, .ref a4, .ref a5, .ref a6, .ref a7, .ref a8, .int (nI i9), .ref a10, .ref a11, .ref a12, .ref a13, .ref a14, .ref a15, .int (nI i16), .int (nI i17), .ref a18, .int (nI i19), .ref a20, .ref a21, .int (nI i22), .ref a23])), (a3, .inl (cI, 441, .inl (fun j => nI (gr j)))), (a6, .inl (cI, 30, .inl (fun j => nI (fo j))))] [(h, .inr (8, [.int (nI 1), .int (nI i1), .ref a2, .ref a3, .ref a4, .ref a5, .ref a6, .ref a7, .ref a8, .int (nI i9), .ref a10, .ref a11, .ref a12, .ref a13, .ref a14, .ref a15, .int (nI i16), .int (nI i17), .ref a18, .int (nI i19), .ref a20, .ref a21, .int (nI i22), .ref a23])), (a3, .inl (cI, 441, .inl (fun j => nI (gr j)))), (a6, .inl (cI, 30, .inl (fun j => nI (fo j))))] sz) 0 0 (va_A [(h, .inr (8, [.int (nI i0), .int (nI i1), .ref a2, .ref a3, .ref a4, .ref a5, .ref a6, .ref a7, .ref a8, .int (nI i9), .ref a10, .ref a11, .ref a12, .ref a13, .ref a14, .ref a15, .int (nI i16), .int (nI i17), .ref a18, .int (nI i19), .ref a20, .ref a21, .int (nI i22), .ref a23])), (a3, .inl (cI, 441, .inl (fun j => nI (gr j)))), (a6, .inl (cI, 30, .inl (fun j => nI (fo j))))] sz) := by
  refine Met.ofW (cc := b_m_read) (maxL := 6) (ret := (some .int)) (by decide) rfl ?_
  intro p e s m args below meth c s₁ B hml hv0
  obtain ⟨rfl, hP, hK, hD0, hsz⟩ := hv0
  have hts := atoms_spec (ws := cd_m_read :: WS) B.pre
  have hown : s.vm.findClass R_Model = some m.cls := findClass_of_methodNamed B.named
  have hlocks := B.notSynchronized
  subst hsz
  have hD := hD0.self (sz := s.heap.size)
  have hl := lv_entry ([.ref h]) (n := 6) (Nat.le_of_ble_eq_true rfl)
  rw [lg_entry_eq]
  generalize (lg_sl ([.ref h]) ++ List.replicate (6 - (lg_sl ([.ref h])).length) Slot.unset).toArray = ls at hl ⊢
  refine bd_m_read_none cI cC h i0 i1 a2 a3 a4 a5 a6 a7 a8 i9 a10 a11 a12 a13 a14 a15 i16 i17 a18 i19 a20 a21 i22 a23 gr fo hgr hfo hf1 hf2 ⟨B.exec, B.bytes, hml, hown, hts⟩ (Nat.le_refl _) (Nat.le_refl _) ⟨Nat.le_refl _, Nat.le_refl _⟩ hK (fun q h => Or.inr h) (fun pc ls H locs hd hP hD hS => ?_) ls _ _ hl hP hD (va_S.rf)
  exact W.iret B.exec B.bytes B.returns (fun t ht _ => ⟨⟨_, (), rfl, rfl, (by have h9 := hP; rw [← ht] at h9; exact h9)⟩, hS.F ht⟩) hS.2.2 hd
end
