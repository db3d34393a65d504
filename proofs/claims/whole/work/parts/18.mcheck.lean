theorem kw_788 : (Jvm.Cond.fieldLink "SquareCodesModel" (37 : Nat) "SquareCodesModel" "system" "[I") ∈ WS := WS_tbl 788 (by decide +kernel) rfl
section
theorem d_m_check_0 : decode b_m_check 0 = .ok (.iconst 0, 1) := by decide +kernel
theorem d_m_check_1 : decode b_m_check 1 = .ok (.istore_n 2, 1) := by decide +kernel
theorem d_m_check_2 : decode b_m_check 2 = .ok (.iload_n 2, 1) := by decide +kernel
theorem d_m_check_3 : decode b_m_check 3 = .ok (.bipush 26, 2) := by decide +kernel
theorem d_m_check_5 : decode b_m_check 5 = .ok (.if_icmp .ge 33, 3) := by decide +kernel
theorem d_m_check_8 : decode b_m_check 8 = .ok (.aload_n 0, 1) := by decide +kernel
theorem d_m_check_9 : decode b_m_check 9 = .ok (.getfield 34, 3) := by decide +kernel
theorem d_m_check_12 : decode b_m_check 12 = .ok (.iload_n 2, 1) := by decide +kernel
theorem d_m_check_13 : decode b_m_check 13 = .ok (.iload_n 2, 1) := by decide +kernel
theorem d_m_check_14 : decode b_m_check 14 = .ok (.bipush 26, 2) := by decide +kernel
theorem d_m_check_16 : decode b_m_check 16 = .ok (.iload_n 1, 1) := by decide +kernel
theorem d_m_check_17 : decode b_m_check 17 = .ok (.isub, 1) := by decide +kernel
theorem d_m_check_18 : decode b_m_check 18 = .ok (.if_icmp .ge 12, 3) := by decide +kernel
theorem d_m_check_21 : decode b_m_check 21 = .ok (.aload_n 0, 1) := by decide +kernel
theorem d_m_check_22 : decode b_m_check 22 = .ok (.getfield 31, 3) := by decide +kernel
theorem d_m_check_25 : decode b_m_check 25 = .ok (.iload_n 2, 1) := by decide +kernel
theorem d_m_check_26 : decode b_m_check 26 = .ok (.iaload, 1) := by decide +kernel
theorem d_m_check_27 : decode b_m_check 27 = .ok (.goto 4, 3) := by decide +kernel
theorem d_m_check_30 : decode b_m_check 30 = .ok (.iconst 0, 1) := by decide +kernel
theorem d_m_check_31 : decode b_m_check 31 = .ok (.iastore, 1) := by decide +kernel
theorem d_m_check_32 : decode b_m_check 32 = .ok (.iinc 2 1, 3) := by decide +kernel
theorem d_m_check_35 : decode b_m_check 35 = .ok (.goto (-33), 3) := by decide +kernel
theorem d_m_check_38 : decode b_m_check 38 = .ok (.iconst 0, 1) := by decide +kernel
theorem d_m_check_39 : decode b_m_check 39 = .ok (.istore_n 2, 1) := by decide +kernel
theorem d_m_check_40 : decode b_m_check 40 = .ok (.iload_n 2, 1) := by decide +kernel
theorem d_m_check_41 : decode b_m_check 41 = .ok (.bipush 18, 2) := by decide +kernel
theorem d_m_check_43 : decode b_m_check 43 = .ok (.if_icmp .ge 24, 3) := by decide +kernel
theorem d_m_check_46 : decode b_m_check 46 = .ok (.aload_n 0, 1) := by decide +kernel
theorem d_m_check_47 : decode b_m_check 47 = .ok (.getfield 37, 3) := by decide +kernel
theorem d_m_check_50 : decode b_m_check 50 = .ok (.iload_n 2, 1) := by decide +kernel
theorem d_m_check_51 : decode b_m_check 51 = .ok (.iload_n 2, 1) := by decide +kernel
theorem d_m_check_52 : decode b_m_check 52 = .ok (.ifCond .ne 7, 3) := by decide +kernel
theorem d_m_check_55 : decode b_m_check 55 = .ok (.iconst 1, 1) := by decide +kernel
theorem d_m_check_56 : decode b_m_check 56 = .ok (.goto 4, 3) := by decide +kernel
theorem d_m_check_59 : decode b_m_check 59 = .ok (.iconst 0, 1) := by decide +kernel
theorem d_m_check_60 : decode b_m_check 60 = .ok (.iastore, 1) := by decide +kernel
theorem d_m_check_61 : decode b_m_check 61 = .ok (.iinc 2 1, 3) := by decide +kernel
theorem d_m_check_64 : decode b_m_check 64 = .ok (.goto (-24), 3) := by decide +kernel
theorem d_m_check_67 : decode b_m_check 67 = .ok (.iconst 0, 1) := by decide +kernel
theorem d_m_check_68 : decode b_m_check 68 = .ok (.istore_n 2, 1) := by decide +kernel
theorem d_m_check_69 : decode b_m_check 69 = .ok (.iload_n 2, 1) := by decide +kernel
theorem d_m_check_70 : decode b_m_check 70 = .ok (.iload_n 1, 1) := by decide +kernel
theorem d_m_check_71 : decode b_m_check 71 = .ok (.if_icmp .ge 51, 3) := by decide +kernel
theorem d_m_check_74 : decode b_m_check 74 = .ok (.iload_n 2, 1) := by decide +kernel
theorem d_m_check_75 : decode b_m_check 75 = .ok (.iconst 1, 1) := by decide +kernel
theorem d_m_check_76 : decode b_m_check 76 = .ok (.iadd, 1) := by decide +kernel
theorem d_m_check_77 : decode b_m_check 77 = .ok (.istore_n 3, 1) := by decide +kernel
theorem d_m_check_78 : decode b_m_check 78 = .ok (.iload_n 3, 1) := by decide +kernel
theorem d_m_check_79 : decode b_m_check 79 = .ok (.ifCond .le 37, 3) := by decide +kernel
theorem d_m_check_82 : decode b_m_check 82 = .ok (.aload_n 0, 1) := by decide +kernel
theorem d_m_check_83 : decode b_m_check 83 = .ok (.getfield 37, 3) := by decide +kernel
theorem d_m_check_86 : decode b_m_check 86 = .ok (.iload_n 3, 1) := by decide +kernel
theorem d_m_check_87 : decode b_m_check 87 = .ok (.aload_n 0, 1) := by decide +kernel
theorem d_m_check_88 : decode b_m_check 88 = .ok (.getfield 37, 3) := by decide +kernel
theorem d_m_check_91 : decode b_m_check 91 = .ok (.iload_n 3, 1) := by decide +kernel
theorem d_m_check_92 : decode b_m_check 92 = .ok (.iaload, 1) := by decide +kernel
theorem d_m_check_93 : decode b_m_check 93 = .ok (.aload_n 0, 1) := by decide +kernel
theorem d_m_check_94 : decode b_m_check 94 = .ok (.getfield 37, 3) := by decide +kernel
theorem d_m_check_97 : decode b_m_check 97 = .ok (.iload_n 3, 1) := by decide +kernel
theorem d_m_check_98 : decode b_m_check 98 = .ok (.iconst 1, 1) := by decide +kernel
theorem d_m_check_99 : decode b_m_check 99 = .ok (.isub, 1) := by decide +kernel
theorem d_m_check_100 : decode b_m_check 100 = .ok (.iaload, 1) := by decide +kernel
theorem d_m_check_101 : decode b_m_check 101 = .ok (.iload_n 2, 1) := by decide +kernel
theorem d_m_check_102 : decode b_m_check 102 = .ok (.invokestatic 90, 3) := by decide +kernel
theorem d_m_check_105 : decode b_m_check 105 = .ok (.invokestatic 72, 3) := by decide +kernel
theorem d_m_check_108 : decode b_m_check 108 = .ok (.ixor, 1) := by decide +kernel
theorem d_m_check_109 : decode b_m_check 109 = .ok (.iastore, 1) := by decide +kernel
theorem d_m_check_110 : decode b_m_check 110 = .ok (.iinc 3 (-1), 3) := by decide +kernel
theorem d_m_check_113 : decode b_m_check 113 = .ok (.goto (-35), 3) := by decide +kernel
theorem d_m_check_116 : decode b_m_check 116 = .ok (.iinc 2 1, 3) := by decide +kernel
theorem d_m_check_119 : decode b_m_check 119 = .ok (.goto (-50), 3) := by decide +kernel
theorem d_m_check_122 : decode b_m_check 122 = .ok (.iconst 0, 1) := by decide +kernel
theorem d_m_check_123 : decode b_m_check 123 = .ok (.istore_n 2, 1) := by decide +kernel
theorem d_m_check_124 : decode b_m_check 124 = .ok (.iload_n 2, 1) := by decide +kernel
theorem d_m_check_125 : decode b_m_check 125 = .ok (.bipush 26, 2) := by decide +kernel
theorem d_m_check_127 : decode b_m_check 127 = .ok (.iload_n 1, 1) := by decide +kernel
theorem d_m_check_128 : decode b_m_check 128 = .ok (.isub, 1) := by decide +kernel
theorem d_m_check_129 : decode b_m_check 129 = .ok (.if_icmp .ge 61, 3) := by decide +kernel
theorem d_m_check_132 : decode b_m_check 132 = .ok (.aload_n 0, 1) := by decide +kernel
theorem d_m_check_133 : decode b_m_check 133 = .ok (.getfield 34, 3) := by decide +kernel
theorem d_m_check_136 : decode b_m_check 136 = .ok (.iload_n 2, 1) := by decide +kernel
theorem d_m_check_137 : decode b_m_check 137 = .ok (.iaload, 1) := by decide +kernel
theorem d_m_check_138 : decode b_m_check 138 = .ok (.istore_n 3, 1) := by decide +kernel
theorem d_m_check_139 : decode b_m_check 139 = .ok (.iconst 0, 1) := by decide +kernel
theorem d_m_check_140 : decode b_m_check 140 = .ok (.istore 4, 2) := by decide +kernel
theorem d_m_check_142 : decode b_m_check 142 = .ok (.iload 4, 2) := by decide +kernel
theorem d_m_check_144 : decode b_m_check 144 = .ok (.iload_n 1, 1) := by decide +kernel
theorem d_m_check_145 : decode b_m_check 145 = .ok (.if_icmp .gt 39, 3) := by decide +kernel
theorem d_m_check_148 : decode b_m_check 148 = .ok (.aload_n 0, 1) := by decide +kernel
theorem d_m_check_149 : decode b_m_check 149 = .ok (.getfield 34, 3) := by decide +kernel
theorem d_m_check_152 : decode b_m_check 152 = .ok (.iload_n 2, 1) := by decide +kernel
theorem d_m_check_153 : decode b_m_check 153 = .ok (.iload 4, 2) := by decide +kernel
theorem d_m_check_155 : decode b_m_check 155 = .ok (.iadd, 1) := by decide +kernel
theorem d_m_check_156 : decode b_m_check 156 = .ok (.aload_n 0, 1) := by decide +kernel
theorem d_m_check_157 : decode b_m_check 157 = .ok (.getfield 34, 3) := by decide +kernel
theorem d_m_check_160 : decode b_m_check 160 = .ok (.iload_n 2, 1) := by decide +kernel
theorem d_m_check_161 : decode b_m_check 161 = .ok (.iload 4, 2) := by decide +kernel
theorem d_m_check_163 : decode b_m_check 163 = .ok (.iadd, 1) := by decide +kernel
theorem d_m_check_164 : decode b_m_check 164 = .ok (.iaload, 1) := by decide +kernel
theorem d_m_check_165 : decode b_m_check 165 = .ok (.iload_n 3, 1) := by decide +kernel
theorem d_m_check_166 : decode b_m_check 166 = .ok (.aload_n 0, 1) := by decide +kernel
theorem d_m_check_167 : decode b_m_check 167 = .ok (.getfield 37, 3) := by decide +kernel
theorem d_m_check_170 : decode b_m_check 170 = .ok (.iload 4, 2) := by decide +kernel
theorem d_m_check_172 : decode b_m_check 172 = .ok (.iaload, 1) := by decide +kernel
theorem d_m_check_173 : decode b_m_check 173 = .ok (.invokestatic 72, 3) := by decide +kernel
theorem d_m_check_176 : decode b_m_check 176 = .ok (.ixor, 1) := by decide +kernel
theorem d_m_check_177 : decode b_m_check 177 = .ok (.iastore, 1) := by decide +kernel
theorem d_m_check_178 : decode b_m_check 178 = .ok (.iinc 4 1, 3) := by decide +kernel
theorem d_m_check_181 : decode b_m_check 181 = .ok (.goto (-39), 3) := by decide +kernel
theorem d_m_check_184 : decode b_m_check 184 = .ok (.iinc 2 1, 3) := by decide +kernel
theorem d_m_check_187 : decode b_m_check 187 = .ok (.goto (-63), 3) := by decide +kernel
theorem d_m_check_190 : decode b_m_check 190 = .ok (.bipush 26, 2) := by decide +kernel
theorem d_m_check_192 : decode b_m_check 192 = .ok (.iload_n 1, 1) := by decide +kernel
theorem d_m_check_193 : decode b_m_check 193 = .ok (.isub, 1) := by decide +kernel
theorem d_m_check_194 : decode b_m_check 194 = .ok (.istore_n 2, 1) := by decide +kernel
theorem d_m_check_195 : decode b_m_check 195 = .ok (.iload_n 2, 1) := by decide +kernel
theorem d_m_check_196 : decode b_m_check 196 = .ok (.bipush 26, 2) := by decide +kernel
theorem d_m_check_198 : decode b_m_check 198 = .ok (.if_icmp .ge 21, 3) := by decide +kernel
theorem d_m_check_201 : decode b_m_check 201 = .ok (.aload_n 0, 1) := by decide +kernel
theorem d_m_check_202 : decode b_m_check 202 = .ok (.getfield 31, 3) := by decide +kernel
theorem d_m_check_205 : decode b_m_check 205 = .ok (.iload_n 2, 1) := by decide +kernel
theorem d_m_check_206 : decode b_m_check 206 = .ok (.aload_n 0, 1) := by decide +kernel
theorem d_m_check_207 : decode b_m_check 207 = .ok (.getfield 34, 3) := by decide +kernel
theorem d_m_check_210 : decode b_m_check 210 = .ok (.iload_n 2, 1) := by decide +kernel
theorem d_m_check_211 : decode b_m_check 211 = .ok (.iaload, 1) := by decide +kernel
theorem d_m_check_212 : decode b_m_check 212 = .ok (.iastore, 1) := by decide +kernel
theorem d_m_check_213 : decode b_m_check 213 = .ok (.iinc 2 1, 3) := by decide +kernel
theorem d_m_check_216 : decode b_m_check 216 = .ok (.goto (-21), 3) := by decide +kernel
theorem d_m_check_219 : decode b_m_check 219 = .ok (.return_, 1) := by decide +kernel
end
section
variable {p : Program} {l : Launch} {e : Env} {R : Room} {s : State} {m : MethodId} {args : Array Value} {below : List Frame} {meth : Method} {c : Code} {cells slots : Nat} {Q : State → Prop} {A : Nat → Prop} {H0 : Heap} {D : va_G}
set_option maxHeartbeats 1000000 in
set_option maxRecDepth 100000 in
theorem lp_m_check_195 (cI cC : ClassId) (h i0 i1 a2 a3 a4 a5 a6 a7 a8 i9 a10 a11 a12 a13 a14 a15 i16 i17 a18 i19 a20 a21 i22 a23 : Nat) (bt tr sy : Nat → Nat) (x : Nat) (hx0 : x ≤ 17) (hbt : lt256 26 bt) (S : CallFix p m c b_m_check 5 s args (cd_m_check :: WS) R_Model) (hRf : 2 ≤ R.frames) (hRl : 46 ≤ R.locals) (hRc : cells ≤ R.cells ∧ slots ≤ R.slots) (hK : va_K D classes [(cI, .int), (cC, .char)] s) (hA : ∀ q, H0.size ≤ q → A q) (kx : ∀ (ls : Array Slot) (H : Heap) (locs : List Loc), lv_has ls 5 [(0, .ref h), (1, .int (nI x)), (2, .int (nI (26 - x + x)))] → va_P D classes [(h, .inr (8, [.int (nI i0), .int (nI i1), .ref a2, .ref a3, .ref a4, .ref a5, .ref a6, .ref a7, .ref a8, .int (nI i9), .ref a10, .ref a11, .ref a12, .ref a13, .ref a14, .ref a15, .int (nI i16), .int (nI i17), .ref a18, .int (nI i19), .ref a20, .ref a21, .int (nI i22), .ref a23])), (a10, .inl (cI, 26, .inl (fun j => nI ((cbL bt (dvI (ckA tr bt x 26) (gnI (ckS sy 18) x) x (26 - x)) (26 - x) x) j)))), (a11, .inl (cI, 26, .inl (fun j => nI ((dvI (ckA tr bt x 26) (gnI (ckS sy 18) x) x (26 - x)) j)))), (a12, .inl (cI, 72, .inl (fun j => nI ((gnI (ckS sy 18) x) j))))] H → va_D A [(h, .inr (8, [.int (nI i0), .int (nI i1), .ref a2, .ref a3, .ref a4, .ref a5, .ref a6, .ref a7, .ref a8, .int (nI i9), .ref a10, .ref a11, .ref a12, .ref a13, .ref a14, .ref a15, .int (nI i16), .int (nI i17), .ref a18, .int (nI i19), .ref a20, .ref a21, .int (nI i22), .ref a23])), (a10, .inl (cI, 26, .inl (fun j => nI ((cbL bt (dvI (ckA tr bt x 26) (gnI (ckS sy 18) x) x (26 - x)) (26 - x) x) j)))), (a11, .inl (cI, 26, .inl (fun j => nI ((dvI (ckA tr bt x 26) (gnI (ckS sy 18) x) x (26 - x)) j)))), (a12, .inl (cI, 72, .inl (fun j => nI ((gnI (ckS sy 18) x) j))))] → va_S A H0 H locs → W p l e R s m args below meth c H locs cells slots Q (F0 m 219 ls [])) :
    ∀ q, q ≤ x → ∀ (ls : Array Slot) (H : Heap) (locs : List Loc), lv_has ls 5 [(0, .ref h), (1, .int (nI x)), (2, .int (nI (26 - x + q)))] → va_P D classes [(h, .inr (8, [.int (nI i0), .int (nI i1), .ref a2, .ref a3, .ref a4, .ref a5, .ref a6, .ref a7, .ref a8, .int (nI i9), .ref a10, .ref a11, .ref a12, .ref a13, .ref a14, .ref a15, .int (nI i16), .int (nI i17), .ref a18, .int (nI i19), .ref a20, .ref a21, .int (nI i22), .ref a23])), (a10, .inl (cI, 26, .inl (fun j => nI ((cbL bt (dvI (ckA tr bt x 26) (gnI (ckS sy 18) x) x (26 - x)) (26 - x) q) j)))), (a11, .inl (cI, 26, .inl (fun j => nI ((dvI (ckA tr bt x 26) (gnI (ckS sy 18) x) x (26 - x)) j)))), (a12, .inl (cI, 72, .inl (fun j => nI ((gnI (ckS sy 18) x) j))))] H → va_D A [(h, .inr (8, [.int (nI i0), .int (nI i1), .ref a2, .ref a3, .ref a4, .ref a5, .ref a6, .ref a7, .ref a8, .int (nI i9), .ref a10, .ref a11, .ref a12, .ref a13, .ref a14, .ref a15, .int (nI i16), .int (nI i17), .ref a18, .int (nI i19), .ref a20, .ref a21, .int (nI i22), .ref a23])), (a10, .inl (cI, 26, .inl (fun j => nI ((cbL bt (dvI (ckA tr bt x 26) (gnI (ckS sy 18) x) x (26 - x)) (26 - x) q) j)))), (a11, .inl (cI, 26, .inl (fun j => nI ((dvI (ckA tr bt x 26) (gnI (ckS sy 18) x) x (26 - x)) j)))), (a12, .inl (cI, 72, .inl (fun j => nI ((gnI (ckS sy 18) x) j))))] → va_S A H0 H locs → W p l e R s m args below meth c H locs cells slots Q (F0 m 195 ls []) := by
  obtain ⟨hx, hb, hml, hown, hts⟩ := id S
  refine up_loop (fun q hkq ih => ?_)
  intro ls H locs hl hP hD hS
  refine lv_iload_n hx hb d_m_check_195 rfl (lv_at hl 2 rfl) ?_
  refine lv_bipush (v := nI 26) hx hb d_m_check_196 (by decide) ?_
  refine n_icmp_ge hx hb d_m_check_198 (tgt := 219) rfl (by omega) (by omega) (fun g198 => ?_) (fun g198 => ?_)
  · skip
    obtain rfl : q = x := by omega
    exact kx ls H locs (lv_sub hl [0, 1, 2] rfl) hP hD hS
  · skip
    refine lv_aload_n hx hb d_m_check_201 rfl (lv_at hl 0 rfl) ?_
    refine n_get (C := R_Model) (T := F_Model) (N := 24) (v := .ref a10) hx hb hts u_Model_in hown hK hP 0 rfl rfl 10 (by decide) kw_786 rfl d_m_check_202 ?_
    refine lv_iload_n hx hb d_m_check_205 rfl (lv_at hl 2 rfl) ?_
    refine lv_aload_n hx hb d_m_check_206 rfl (lv_at hl 0 rfl) ?_
    refine n_get (C := R_Model) (T := F_Model) (N := 24) (v := .ref a11) hx hb hts u_Model_in hown hK hP 0 rfl rfl 11 (by decide) kw_787 rfl d_m_check_207 ?_
    refine lv_iload_n hx hb d_m_check_210 rfl (lv_at hl 2 rfl) ?_
    refine n_iald hx hb hK hP 2 0 rfl rfl (by omega) (by decide) d_m_check_211 ?_
    refine n_iast hx hb hK hP hD hS 1 0 rfl rfl (by omega) (by decide) d_m_check_212 (fun H locs hP hD hS => ?_)
    have hP : va_P D classes [(h, .inr (8, [.int (nI i0), .int (nI i1), .ref a2, .ref a3, .ref a4, .ref a5, .ref a6, .ref a7, .ref a8, .int (nI i9), .ref a10, .ref a11, .ref a12, .ref a13, .ref a14, .ref a15, .int (nI i16), .int (nI i17), .ref a18, .int (nI i19), .ref a20, .ref a21, .int (nI i22), .ref a23])), (a10, .inl (cI, 26, .inl (fun j => nI ((va_up (cbL bt (dvI (ckA tr bt x 26) (gnI (ckS sy 18) x) x (26 - x)) (26 - x) q) (26 - x + q) ((dvI (ckA tr bt x 26) (gnI (ckS sy 18) x) x (26 - x)) (26 - x + q))) j)))), (a11, .inl (cI, 26, .inl (fun j => nI ((dvI (ckA tr bt x 26) (gnI (ckS sy 18) x) x (26 - x)) j)))), (a12, .inl (cI, 72, .inl (fun j => nI ((gnI (ckS sy 18) x) j))))] H := hP
    have hD : va_D A [(h, .inr (8, [.int (nI i0), .int (nI i1), .ref a2, .ref a3, .ref a4, .ref a5, .ref a6, .ref a7, .ref a8, .int (nI i9), .ref a10, .ref a11, .ref a12, .ref a13, .ref a14, .ref a15, .int (nI i16), .int (nI i17), .ref a18, .int (nI i19), .ref a20, .ref a21, .int (nI i22), .ref a23])), (a10, .inl (cI, 26, .inl (fun j => nI ((va_up (cbL bt (dvI (ckA tr bt x 26) (gnI (ckS sy 18) x) x (26 - x)) (26 - x) q) (26 - x + q) ((dvI (ckA tr bt x 26) (gnI (ckS sy 18) x) x (26 - x)) (26 - x + q))) j)))), (a11, .inl (cI, 26, .inl (fun j => nI ((dvI (ckA tr bt x 26) (gnI (ckS sy 18) x) x (26 - x)) j)))), (a12, .inl (cI, 72, .inl (fun j => nI ((gnI (ckS sy 18) x) j))))] := hD
    rw [show va_up (cbL bt (dvI (ckA tr bt x 26) (gnI (ckS sy 18) x) x (26 - x)) (26 - x) q) (26 - x + q) ((dvI (ckA tr bt x 26) (gnI (ckS sy 18) x) x (26 - x)) (26 - x + q)) = cbL bt (dvI (ckA tr bt x 26) (gnI (ckS sy 18) x) x (26 - x)) (26 - x) (q + 1) from rfl] at hP hD
    refine lv_iinc (k := 2) (v := nI (26 - x + q + 1)) hx hb d_m_check_213 hl rfl (nx_inc (26 - x + q) 1) (Nat.le_of_ble_eq_true rfl) rfl (fun ls hl => ?_)
    have hl : lv_has ls 5 [(2, .int (nI (26 - x + q + 1))), (0, .ref h), (1, .int (nI x))] := hl
    refine lv_goto hx hb d_m_check_216 (tgt := 195) rfl ?_
    exact ih (by omega) ls H locs (lv_sub hl [1, 2, 0] rfl) hP hD hS
set_option maxHeartbeats 1000000 in
set_option maxRecDepth 100000 in
theorem lp_m_check_142 (cI cC : ClassId) (h i0 i1 a2 a3 a4 a5 a6 a7 a8 i9 a10 a11 a12 a13 a14 a15 i16 i17 a18 i19 a20 a21 i22 a23 : Nat) (bt tr sy : Nat → Nat) (x : Nat) (hx0 : x ≤ 17) (hbt : lt256 26 bt) (S : CallFix p m c b_m_check 5 s args (cd_m_check :: WS) R_Model) (hRf : 2 ≤ R.frames) (hRl : 46 ≤ R.locals) (hRc : cells ≤ R.cells ∧ slots ≤ R.slots) (hK : va_K D classes [(cI, .int), (cC, .char)] s) (hA : ∀ q, H0.size ≤ q → A q) (k : Nat) (hk : k < 26 - x) (kx : ∀ (ls : Array Slot) (H : Heap) (locs : List Loc), lv_has ls 5 [(0, .ref h), (1, .int (nI x)), (2, .int (nI k)), (3, .int (nI (dvI (ckA tr bt x 26) (gnI (ckS sy 18) x) x k k))), (4, .int (nI (x + 1)))] → va_P D classes [(h, .inr (8, [.int (nI i0), .int (nI i1), .ref a2, .ref a3, .ref a4, .ref a5, .ref a6, .ref a7, .ref a8, .int (nI i9), .ref a10, .ref a11, .ref a12, .ref a13, .ref a14, .ref a15, .int (nI i16), .int (nI i17), .ref a18, .int (nI i19), .ref a20, .ref a21, .int (nI i22), .ref a23])), (a10, .inl (cI, 26, .inl (fun j => nI (bt j)))), (a11, .inl (cI, 26, .inl (fun j => nI ((dvJ (dvI (ckA tr bt x 26) (gnI (ckS sy 18) x) x k) (gnI (ckS sy 18) x) k (dvI (ckA tr bt x 26) (gnI (ckS sy 18) x) x k k) (x + 1)) j)))), (a12, .inl (cI, 72, .inl (fun j => nI ((gnI (ckS sy 18) x) j))))] H → va_D A [(h, .inr (8, [.int (nI i0), .int (nI i1), .ref a2, .ref a3, .ref a4, .ref a5, .ref a6, .ref a7, .ref a8, .int (nI i9), .ref a10, .ref a11, .ref a12, .ref a13, .ref a14, .ref a15, .int (nI i16), .int (nI i17), .ref a18, .int (nI i19), .ref a20, .ref a21, .int (nI i22), .ref a23])), (a10, .inl (cI, 26, .inl (fun j => nI (bt j)))), (a11, .inl (cI, 26, .inl (fun j => nI ((dvJ (dvI (ckA tr bt x 26) (gnI (ckS sy 18) x) x k) (gnI (ckS sy 18) x) k (dvI (ckA tr bt x 26) (gnI (ckS sy 18) x) x k k) (x + 1)) j)))), (a12, .inl (cI, 72, .inl (fun j => nI ((gnI (ckS sy 18) x) j))))] → va_S A H0 H locs → W p l e R s m args below meth c H locs cells slots Q (F0 m 184 ls [])) :
    ∀ j, j ≤ x + 1 → ∀ (ls : Array Slot) (H : Heap) (locs : List Loc), lv_has ls 5 [(0, .ref h), (1, .int (nI x)), (2, .int (nI k)), (3, .int (nI (dvI (ckA tr bt x 26) (gnI (ckS sy 18) x) x k k))), (4, .int (nI j))] → va_P D classes [(h, .inr (8, [.int (nI i0), .int (nI i1), .ref a2, .ref a3, .ref a4, .ref a5, .ref a6, .ref a7, .ref a8, .int (nI i9), .ref a10, .ref a11, .ref a12, .ref a13, .ref a14, .ref a15, .int (nI i16), .int (nI i17), .ref a18, .int (nI i19), .ref a20, .ref a21, .int (nI i22), .ref a23])), (a10, .inl (cI, 26, .inl (fun j => nI (bt j)))), (a11, .inl (cI, 26, .inl (fun z9 => nI ((dvJ (dvI (ckA tr bt x 26) (gnI (ckS sy 18) x) x k) (gnI (ckS sy 18) x) k (dvI (ckA tr bt x 26) (gnI (ckS sy 18) x) x k k) j) z9)))), (a12, .inl (cI, 72, .inl (fun j => nI ((gnI (ckS sy 18) x) j))))] H → va_D A [(h, .inr (8, [.int (nI i0), .int (nI i1), .ref a2, .ref a3, .ref a4, .ref a5, .ref a6, .ref a7, .ref a8, .int (nI i9), .ref a10, .ref a11, .ref a12, .ref a13, .ref a14, .ref a15, .int (nI i16), .int (nI i17), .ref a18, .int (nI i19), .ref a20, .ref a21, .int (nI i22), .ref a23])), (a10, .inl (cI, 26, .inl (fun j => nI (bt j)))), (a11, .inl (cI, 26, .inl (fun z9 => nI ((dvJ (dvI (ckA tr bt x 26) (gnI (ckS sy 18) x) x k) (gnI (ckS sy 18) x) k (dvI (ckA tr bt x 26) (gnI (ckS sy 18) x) x k k) j) z9)))), (a12, .inl (cI, 72, .inl (fun j => nI ((gnI (ckS sy 18) x) j))))] → va_S A H0 H locs → W p l e R s m args below meth c H locs cells slots Q (F0 m 142 ls []) := by
  obtain ⟨hx, hb, hml, hown, hts⟩ := id S
  refine up_loop (fun j hkj ih => ?_)
  intro ls H locs hl hP hD hS
  have hs1 := gnI_lt (ckS_lt sy) x (by omega)
  have ht1 := dvI_lt (x := x) (ckA_lt (x := x) tr hbt) hs1 k (by omega) k (by omega)
  refine lv_iload hx hb d_m_check_142 (lv_at hl 4 rfl) ?_
  refine lv_iload_n hx hb d_m_check_144 rfl (lv_at hl 1 rfl) ?_
  refine n_icmp_gt hx hb d_m_check_145 (tgt := 184) rfl (by omega) (by omega) (fun g145 => ?_) (fun g145 => ?_)
  · skip
    obtain rfl : j = x + 1 := by omega
    exact kx ls H locs (lv_sub hl [0, 1, 2, 3, 4] rfl) hP hD hS
  · skip
    have hs2 := hs1 j (by omega)
    refine lv_aload_n hx hb d_m_check_148 rfl (lv_at hl 0 rfl) ?_
    refine n_get (C := R_Model) (T := F_Model) (N := 24) (v := .ref a11) hx hb hts u_Model_in hown hK hP 0 rfl rfl 11 (by decide) kw_787 rfl d_m_check_149 ?_
    refine lv_iload_n hx hb d_m_check_152 rfl (lv_at hl 2 rfl) ?_
    refine lv_iload hx hb d_m_check_153 (lv_at hl 4 rfl) ?_
    refine n_iadd hx hb d_m_check_155 ?_
    refine lv_aload_n hx hb d_m_check_156 rfl (lv_at hl 0 rfl) ?_
    refine n_get (C := R_Model) (T := F_Model) (N := 24) (v := .ref a11) hx hb hts u_Model_in hown hK hP 0 rfl rfl 11 (by decide) kw_787 rfl d_m_check_157 ?_
    refine lv_iload_n hx hb d_m_check_160 rfl (lv_at hl 2 rfl) ?_
    refine lv_iload hx hb d_m_check_161 (lv_at hl 4 rfl) ?_
    refine n_iadd hx hb d_m_check_163 ?_
    refine n_iald hx hb hK hP 2 0 rfl rfl (by omega) (by decide) d_m_check_164 ?_
    refine lv_iload_n hx hb d_m_check_165 rfl (lv_at hl 3 rfl) ?_
    refine lv_aload_n hx hb d_m_check_166 rfl (lv_at hl 0 rfl) ?_
    refine n_get (C := R_Model) (T := F_Model) (N := 24) (v := .ref a12) hx hb hts u_Model_in hown hK hP 0 rfl rfl 12 (by decide) kw_788 rfl d_m_check_167 ?_
    refine lv_iload hx hb d_m_check_170 (lv_at hl 4 rfl) ?_
    refine n_iald hx hb hK hP 3 0 rfl rfl (by omega) (by decide) d_m_check_172 ?_
    refine q_pureS (n := 2) (As := [.int (nI (dvI (ckA tr bt x 26) (gnI (ckS sy 18) x) x k k)), .int (nI ((gnI (ckS sy 18) x) j))]) (rest := [.int (nI ((dvJ (dvI (ckA tr bt x 26) (gnI (ckS sy 18) x) x k) (gnI (ckS sy 18) x) k (dvI (ckA tr bt x 26) (gnI (ckS sy 18) x) x k k) j) (k + j))), .int (nI (k + j)), .ref a11]) S (c_m_times l (dvI (ckA tr bt x 26) (gnI (ckS sy 18) x) x k k) ((gnI (ckS sy 18) x) j) (by omega) (by omega)) (q_goodS kw_890 kw_891 kw_10 kw_892) (by decide +kernel) rfl rfl ⟨Nat.le_trans (Nat.le_of_ble_eq_true rfl) hRf, Nat.le_trans (Nat.le_of_ble_eq_true rfl) hRl⟩ rfl hl.1 rfl (Nat.le_of_ble_eq_true rfl) d_m_check_173 hRc hS (fun H locs hkp hS => ?_)
    replace hP := hP.kept (fun k q hq => hkp q.1 (hP k q hq).lt)
    refine n_ixor hx hb d_m_check_176 ?_
    refine n_iast hx hb hK hP hD hS 2 0 rfl rfl (by omega) (by decide) d_m_check_177 (fun H locs hP hD hS => ?_)
    have hP : va_P D classes [(h, .inr (8, [.int (nI i0), .int (nI i1), .ref a2, .ref a3, .ref a4, .ref a5, .ref a6, .ref a7, .ref a8, .int (nI i9), .ref a10, .ref a11, .ref a12, .ref a13, .ref a14, .ref a15, .int (nI i16), .int (nI i17), .ref a18, .int (nI i19), .ref a20, .ref a21, .int (nI i22), .ref a23])), (a10, .inl (cI, 26, .inl (fun j => nI (bt j)))), (a11, .inl (cI, 26, .inl (fun z9 => nI ((va_up (dvJ (dvI (ckA tr bt x 26) (gnI (ckS sy 18) x) x k) (gnI (ckS sy 18) x) k (dvI (ckA tr bt x 26) (gnI (ckS sy 18) x) x k k) j) (k + j) (((dvJ (dvI (ckA tr bt x 26) (gnI (ckS sy 18) x) x k) (gnI (ckS sy 18) x) k (dvI (ckA tr bt x 26) (gnI (ckS sy 18) x) x k k) j) (k + j)) ^^^ (gm (dvI (ckA tr bt x 26) (gnI (ckS sy 18) x) x k k) ((gnI (ckS sy 18) x) j)))) z9)))), (a12, .inl (cI, 72, .inl (fun j => nI ((gnI (ckS sy 18) x) j))))] H := hP
    have hD : va_D A [(h, .inr (8, [.int (nI i0), .int (nI i1), .ref a2, .ref a3, .ref a4, .ref a5, .ref a6, .ref a7, .ref a8, .int (nI i9), .ref a10, .ref a11, .ref a12, .ref a13, .ref a14, .ref a15, .int (nI i16), .int (nI i17), .ref a18, .int (nI i19), .ref a20, .ref a21, .int (nI i22), .ref a23])), (a10, .inl (cI, 26, .inl (fun j => nI (bt j)))), (a11, .inl (cI, 26, .inl (fun z9 => nI ((va_up (dvJ (dvI (ckA tr bt x 26) (gnI (ckS sy 18) x) x k) (gnI (ckS sy 18) x) k (dvI (ckA tr bt x 26) (gnI (ckS sy 18) x) x k k) j) (k + j) (((dvJ (dvI (ckA tr bt x 26) (gnI (ckS sy 18) x) x k) (gnI (ckS sy 18) x) k (dvI (ckA tr bt x 26) (gnI (ckS sy 18) x) x k k) j) (k + j)) ^^^ (gm (dvI (ckA tr bt x 26) (gnI (ckS sy 18) x) x k k) ((gnI (ckS sy 18) x) j)))) z9)))), (a12, .inl (cI, 72, .inl (fun j => nI ((gnI (ckS sy 18) x) j))))] := hD
    rw [show va_up (dvJ (dvI (ckA tr bt x 26) (gnI (ckS sy 18) x) x k) (gnI (ckS sy 18) x) k (dvI (ckA tr bt x 26) (gnI (ckS sy 18) x) x k k) j) (k + j) (((dvJ (dvI (ckA tr bt x 26) (gnI (ckS sy 18) x) x k) (gnI (ckS sy 18) x) k (dvI (ckA tr bt x 26) (gnI (ckS sy 18) x) x k k) j) (k + j)) ^^^ (gm (dvI (ckA tr bt x 26) (gnI (ckS sy 18) x) x k k) ((gnI (ckS sy 18) x) j))) = dvJ (dvI (ckA tr bt x 26) (gnI (ckS sy 18) x) x k) (gnI (ckS sy 18) x) k (dvI (ckA tr bt x 26) (gnI (ckS sy 18) x) x k k) (j + 1) from rfl] at hP hD
    refine lv_iinc (k := 4) (v := nI (j + 1)) hx hb d_m_check_178 hl rfl (nx_inc j 1) (Nat.le_of_ble_eq_true rfl) rfl (fun ls hl => ?_)
    have hl : lv_has ls 5 [(4, .int (nI (j + 1))), (0, .ref h), (1, .int (nI x)), (2, .int (nI k)), (3, .int (nI (dvI (ckA tr bt x 26) (gnI (ckS sy 18) x) x k k)))] := hl
    refine lv_goto hx hb d_m_check_181 (tgt := 142) rfl ?_
    exact ih (by omega) ls H locs (lv_sub hl [1, 2, 3, 4, 0] rfl) hP hD hS
set_option maxHeartbeats 1000000 in
set_option maxRecDepth 100000 in
theorem lp_m_check_124 (cI cC : ClassId) (h i0 i1 a2 a3 a4 a5 a6 a7 a8 i9 a10 a11 a12 a13 a14 a15 i16 i17 a18 i19 a20 a21 i22 a23 : Nat) (bt tr sy : Nat → Nat) (x : Nat) (hx0 : x ≤ 17) (hbt : lt256 26 bt) (S : CallFix p m c b_m_check 5 s args (cd_m_check :: WS) R_Model) (hRf : 2 ≤ R.frames) (hRl : 46 ≤ R.locals) (hRc : cells ≤ R.cells ∧ slots ≤ R.slots) (hK : va_K D classes [(cI, .int), (cC, .char)] s) (hA : ∀ q, H0.size ≤ q → A q) (kx : ∀ (ls : Array Slot) (H : Heap) (locs : List Loc), lv_has ls 5 [(0, .ref h), (1, .int (nI x)), (2, .int (nI (26 - x)))] → va_P D classes [(h, .inr (8, [.int (nI i0), .int (nI i1), .ref a2, .ref a3, .ref a4, .ref a5, .ref a6, .ref a7, .ref a8, .int (nI i9), .ref a10, .ref a11, .ref a12, .ref a13, .ref a14, .ref a15, .int (nI i16), .int (nI i17), .ref a18, .int (nI i19), .ref a20, .ref a21, .int (nI i22), .ref a23])), (a10, .inl (cI, 26, .inl (fun j => nI (bt j)))), (a11, .inl (cI, 26, .inl (fun j => nI ((dvI (ckA tr bt x 26) (gnI (ckS sy 18) x) x (26 - x)) j)))), (a12, .inl (cI, 72, .inl (fun j => nI ((gnI (ckS sy 18) x) j))))] H → va_D A [(h, .inr (8, [.int (nI i0), .int (nI i1), .ref a2, .ref a3, .ref a4, .ref a5, .ref a6, .ref a7, .ref a8, .int (nI i9), .ref a10, .ref a11, .ref a12, .ref a13, .ref a14, .ref a15, .int (nI i16), .int (nI i17), .ref a18, .int (nI i19), .ref a20, .ref a21, .int (nI i22), .ref a23])), (a10, .inl (cI, 26, .inl (fun j => nI (bt j)))), (a11, .inl (cI, 26, .inl (fun j => nI ((dvI (ckA tr bt x 26) (gnI (ckS sy 18) x) x (26 - x)) j)))), (a12, .inl (cI, 72, .inl (fun j => nI ((gnI (ckS sy 18) x) j))))] → va_S A H0 H locs → W p l e R s m args below meth c H locs cells slots Q (F0 m 190 ls [])) :
    ∀ k, k ≤ 26 - x → ∀ (ls : Array Slot) (H : Heap) (locs : List Loc), lv_has ls 5 [(0, .ref h), (1, .int (nI x)), (2, .int (nI k))] → va_P D classes [(h, .inr (8, [.int (nI i0), .int (nI i1), .ref a2, .ref a3, .ref a4, .ref a5, .ref a6, .ref a7, .ref a8, .int (nI i9), .ref a10, .ref a11, .ref a12, .ref a13, .ref a14, .ref a15, .int (nI i16), .int (nI i17), .ref a18, .int (nI i19), .ref a20, .ref a21, .int (nI i22), .ref a23])), (a10, .inl (cI, 26, .inl (fun j => nI (bt j)))), (a11, .inl (cI, 26, .inl (fun j => nI ((dvI (ckA tr bt x 26) (gnI (ckS sy 18) x) x k) j)))), (a12, .inl (cI, 72, .inl (fun j => nI ((gnI (ckS sy 18) x) j))))] H → va_D A [(h, .inr (8, [.int (nI i0), .int (nI i1), .ref a2, .ref a3, .ref a4, .ref a5, .ref a6, .ref a7, .ref a8, .int (nI i9), .ref a10, .ref a11, .ref a12, .ref a13, .ref a14, .ref a15, .int (nI i16), .int (nI i17), .ref a18, .int (nI i19), .ref a20, .ref a21, .int (nI i22), .ref a23])), (a10, .inl (cI, 26, .inl (fun j => nI (bt j)))), (a11, .inl (cI, 26, .inl (fun j => nI ((dvI (ckA tr bt x 26) (gnI (ckS sy 18) x) x k) j)))), (a12, .inl (cI, 72, .inl (fun j => nI ((gnI (ckS sy 18) x) j))))] → va_S A H0 H locs → W p l e R s m args below meth c H locs cells slots Q (F0 m 124 ls []) := by
  obtain ⟨hx, hb, hml, hown, hts⟩ := id S
  refine up_loop (fun k hkk ih => ?_)
  intro ls H locs hl hP hD hS
  refine lv_iload_n hx hb d_m_check_124 rfl (lv_at hl 2 rfl) ?_
  refine lv_bipush (v := nI 26) hx hb d_m_check_125 (by decide) ?_
  refine lv_iload_n hx hb d_m_check_127 rfl (lv_at hl 1 rfl) ?_
  refine n_isub hx hb d_m_check_128 (by omega) ?_
  refine n_icmp_ge hx hb d_m_check_129 (tgt := 190) rfl (by omega) (by omega) (fun g129 => ?_) (fun g129 => ?_)
  · skip
    obtain rfl : k = 26 - x := by omega
    exact kx ls H locs (lv_sub hl [0, 1, 2] rfl) hP hD hS
  · skip
    refine lv_aload_n hx hb d_m_check_132 rfl (lv_at hl 0 rfl) ?_
    refine n_get (C := R_Model) (T := F_Model) (N := 24) (v := .ref a11) hx hb hts u_Model_in hown hK hP 0 rfl rfl 11 (by decide) kw_787 rfl d_m_check_133 ?_
    refine lv_iload_n hx hb d_m_check_136 rfl (lv_at hl 2 rfl) ?_
    refine n_iald hx hb hK hP 2 0 rfl rfl (by omega) (by decide) d_m_check_137 ?_
    refine lv_istore_n hx hb d_m_check_138 rfl hl (Nat.le_of_ble_eq_true rfl) rfl (fun ls hl => ?_)
    have hl : lv_has ls 5 [(3, .int (nI ((dvI (ckA tr bt x 26) (gnI (ckS sy 18) x) x k) k))), (0, .ref h), (1, .int (nI x)), (2, .int (nI k))] := hl
    refine lv_iconst (v := nI 0) hx hb d_m_check_139 (by decide) ?_
    refine lv_istore hx hb d_m_check_140 hl (Nat.le_of_ble_eq_true rfl) rfl (fun ls hl => ?_)
    have hl : lv_has ls 5 [(4, .int (nI 0)), (3, .int (nI ((dvI (ckA tr bt x 26) (gnI (ckS sy 18) x) x k) k))), (0, .ref h), (1, .int (nI x)), (2, .int (nI k))] := hl
    refine lp_m_check_142 cI cC h i0 i1 a2 a3 a4 a5 a6 a7 a8 i9 a10 a11 a12 a13 a14 a15 i16 i17 a18 i19 a20 a21 i22 a23 bt tr sy x hx0 hbt S hRf hRl hRc hK hA k (by omega) (fun ls H locs hl hP hD hS => ?_) 0 (by omega) ls H locs (lv_sub hl [2, 3, 4, 1, 0] rfl) hP hD hS
    refine lv_iinc (k := 2) (v := nI (k + 1)) hx hb d_m_check_184 hl rfl (nx_inc k 1) (Nat.le_of_ble_eq_true rfl) rfl (fun ls hl => ?_)
    have hl : lv_has ls 5 [(2, .int (nI (k + 1))), (0, .ref h), (1, .int (nI x)), (3, .int (nI (dvI (ckA tr bt x 26) (gnI (ckS sy 18) x) x k k))), (4, .int (nI (x + 1)))] := hl
    refine lv_goto hx hb d_m_check_187 (tgt := 124) rfl ?_
    exact ih (by omega) ls H locs (lv_sub hl [1, 2, 0] rfl) hP hD hS
set_option maxHeartbeats 1000000 in
set_option maxRecDepth 100000 in
theorem lp_m_check_78 (cI cC : ClassId) (h i0 i1 a2 a3 a4 a5 a6 a7 a8 i9 a10 a11 a12 a13 a14 a15 i16 i17 a18 i19 a20 a21 i22 a23 : Nat) (bt tr sy : Nat → Nat) (x : Nat) (hx0 : x ≤ 17) (hbt : lt256 26 bt) (S : CallFix p m c b_m_check 5 s args (cd_m_check :: WS) R_Model) (hRf : 2 ≤ R.frames) (hRl : 46 ≤ R.locals) (hRc : cells ≤ R.cells ∧ slots ≤ R.slots) (hK : va_K D classes [(cI, .int), (cC, .char)] s) (hA : ∀ q, H0.size ≤ q → A q) (i : Nat) (hi : i < x) (kx : ∀ (ls : Array Slot) (H : Heap) (locs : List Loc), lv_has ls 5 [(0, .ref h), (1, .int (nI x)), (2, .int (nI i)), (3, .int (nI (i + 1 - (i + 1))))] → va_P D classes [(h, .inr (8, [.int (nI i0), .int (nI i1), .ref a2, .ref a3, .ref a4, .ref a5, .ref a6, .ref a7, .ref a8, .int (nI i9), .ref a10, .ref a11, .ref a12, .ref a13, .ref a14, .ref a15, .int (nI i16), .int (nI i17), .ref a18, .int (nI i19), .ref a20, .ref a21, .int (nI i22), .ref a23])), (a10, .inl (cI, 26, .inl (fun j => nI (bt j)))), (a11, .inl (cI, 26, .inl (fun j => nI ((ckA tr bt x 26) j)))), (a12, .inl (cI, 72, .inl (fun j => nI ((gnJ (gnI (ckS sy 18) i) i (i + 1)) j))))] H → va_D A [(h, .inr (8, [.int (nI i0), .int (nI i1), .ref a2, .ref a3, .ref a4, .ref a5, .ref a6, .ref a7, .ref a8, .int (nI i9), .ref a10, .ref a11, .ref a12, .ref a13, .ref a14, .ref a15, .int (nI i16), .int (nI i17), .ref a18, .int (nI i19), .ref a20, .ref a21, .int (nI i22), .ref a23])), (a10, .inl (cI, 26, .inl (fun j => nI (bt j)))), (a11, .inl (cI, 26, .inl (fun j => nI ((ckA tr bt x 26) j)))), (a12, .inl (cI, 72, .inl (fun j => nI ((gnJ (gnI (ckS sy 18) i) i (i + 1)) j))))] → va_S A H0 H locs → W p l e R s m args below meth c H locs cells slots Q (F0 m 116 ls [])) :
    ∀ j, j ≤ i + 1 → ∀ (ls : Array Slot) (H : Heap) (locs : List Loc), lv_has ls 5 [(0, .ref h), (1, .int (nI x)), (2, .int (nI i)), (3, .int (nI (i + 1 - j)))] → va_P D classes [(h, .inr (8, [.int (nI i0), .int (nI i1), .ref a2, .ref a3, .ref a4, .ref a5, .ref a6, .ref a7, .ref a8, .int (nI i9), .ref a10, .ref a11, .ref a12, .ref a13, .ref a14, .ref a15, .int (nI i16), .int (nI i17), .ref a18, .int (nI i19), .ref a20, .ref a21, .int (nI i22), .ref a23])), (a10, .inl (cI, 26, .inl (fun j => nI (bt j)))), (a11, .inl (cI, 26, .inl (fun j => nI ((ckA tr bt x 26) j)))), (a12, .inl (cI, 72, .inl (fun z9 => nI ((gnJ (gnI (ckS sy 18) i) i j) z9))))] H → va_D A [(h, .inr (8, [.int (nI i0), .int (nI i1), .ref a2, .ref a3, .ref a4, .ref a5, .ref a6, .ref a7, .ref a8, .int (nI i9), .ref a10, .ref a11, .ref a12, .ref a13, .ref a14, .ref a15, .int (nI i16), .int (nI i17), .ref a18, .int (nI i19), .ref a20, .ref a21, .int (nI i22), .ref a23])), (a10, .inl (cI, 26, .inl (fun j => nI (bt j)))), (a11, .inl (cI, 26, .inl (fun j => nI ((ckA tr bt x 26) j)))), (a12, .inl (cI, 72, .inl (fun z9 => nI ((gnJ (gnI (ckS sy 18) i) i j) z9))))] → va_S A H0 H locs → W p l e R s m args below meth c H locs cells slots Q (F0 m 78 ls []) := by
  obtain ⟨hx, hb, hml, hown, hts⟩ := id S
  refine up_loop (fun j hkj ih => ?_)
  intro ls H locs hl hP hD hS
  have hp := pw_lt i
  have hs1 := gnJ_lt (gnI_lt (ckS_lt sy) i (by omega)) i j (by omega)
  refine lv_iload_n hx hb d_m_check_78 rfl (lv_at hl 3 rfl) ?_
  refine n_if_le hx hb d_m_check_79 (tgt := 116) rfl (by omega) (fun g79 => ?_) (fun g79 => ?_)
  · skip
    obtain rfl : j = i + 1 := by omega
    exact kx ls H locs (lv_sub hl [0, 1, 2, 3] rfl) hP hD hS
  · skip
    have hs2 := hs1 (i + 1 - j - 1) (by omega)
    refine lv_aload_n hx hb d_m_check_82 rfl (lv_at hl 0 rfl) ?_
    refine n_get (C := R_Model) (T := F_Model) (N := 24) (v := .ref a12) hx hb hts u_Model_in hown hK hP 0 rfl rfl 12 (by decide) kw_788 rfl d_m_check_83 ?_
    refine lv_iload_n hx hb d_m_check_86 rfl (lv_at hl 3 rfl) ?_
    refine lv_aload_n hx hb d_m_check_87 rfl (lv_at hl 0 rfl) ?_
    refine n_get (C := R_Model) (T := F_Model) (N := 24) (v := .ref a12) hx hb hts u_Model_in hown hK hP 0 rfl rfl 12 (by decide) kw_788 rfl d_m_check_88 ?_
    refine lv_iload_n hx hb d_m_check_91 rfl (lv_at hl 3 rfl) ?_
    refine n_iald hx hb hK hP 3 0 rfl rfl (by omega) (by decide) d_m_check_92 ?_
    refine lv_aload_n hx hb d_m_check_93 rfl (lv_at hl 0 rfl) ?_
    refine n_get (C := R_Model) (T := F_Model) (N := 24) (v := .ref a12) hx hb hts u_Model_in hown hK hP 0 rfl rfl 12 (by decide) kw_788 rfl d_m_check_94 ?_
    refine lv_iload_n hx hb d_m_check_97 rfl (lv_at hl 3 rfl) ?_
    refine lv_iconst (v := nI 1) hx hb d_m_check_98 (by decide) ?_
    refine n_isub hx hb d_m_check_99 (by omega) ?_
    refine n_iald hx hb hK hP 3 0 rfl rfl (by omega) (by decide) d_m_check_100 ?_
    refine lv_iload_n hx hb d_m_check_101 rfl (lv_at hl 2 rfl) ?_
    refine q_pureS (n := 1) (As := [.int (nI i)]) (rest := [.int (nI ((gnJ (gnI (ckS sy 18) i) i j) ((i + 1 - j) - 1))), .int (nI ((gnJ (gnI (ckS sy 18) i) i j) (i + 1 - j))), .int (nI (i + 1 - j)), .ref a12]) S (c_m_power l i (by omega)) (q_goodS kw_887 kw_888 kw_10 kw_889) (by decide +kernel) rfl rfl ⟨Nat.le_trans (Nat.le_of_ble_eq_true rfl) hRf, Nat.le_trans (Nat.le_of_ble_eq_true rfl) hRl⟩ rfl hl.1 rfl (Nat.le_of_ble_eq_true rfl) d_m_check_102 hRc hS (fun H locs hkp hS => ?_)
    replace hP := hP.kept (fun k q hq => hkp q.1 (hP k q hq).lt)
    refine q_pureS (n := 2) (As := [.int (nI ((gnJ (gnI (ckS sy 18) i) i j) ((i + 1 - j) - 1))), .int (nI (pw i))]) (rest := [.int (nI ((gnJ (gnI (ckS sy 18) i) i j) (i + 1 - j))), .int (nI (i + 1 - j)), .ref a12]) S (c_m_times l ((gnJ (gnI (ckS sy 18) i) i j) ((i + 1 - j) - 1)) (pw i) (by omega) (by omega)) (q_goodS kw_890 kw_891 kw_10 kw_892) (by decide +kernel) rfl rfl ⟨Nat.le_trans (Nat.le_of_ble_eq_true rfl) hRf, Nat.le_trans (Nat.le_of_ble_eq_true rfl) hRl⟩ rfl hl.1 rfl (Nat.le_of_ble_eq_true rfl) d_m_check_105 hRc hS (fun H locs hkp hS => ?_)
    replace hP := hP.kept (fun k q hq => hkp q.1 (hP k q hq).lt)
    refine n_ixor hx hb d_m_check_108 ?_
    refine n_iast hx hb hK hP hD hS 3 0 rfl rfl (by omega) (by decide) d_m_check_109 (fun H locs hP hD hS => ?_)
    have hP : va_P D classes [(h, .inr (8, [.int (nI i0), .int (nI i1), .ref a2, .ref a3, .ref a4, .ref a5, .ref a6, .ref a7, .ref a8, .int (nI i9), .ref a10, .ref a11, .ref a12, .ref a13, .ref a14, .ref a15, .int (nI i16), .int (nI i17), .ref a18, .int (nI i19), .ref a20, .ref a21, .int (nI i22), .ref a23])), (a10, .inl (cI, 26, .inl (fun j => nI (bt j)))), (a11, .inl (cI, 26, .inl (fun j => nI ((ckA tr bt x 26) j)))), (a12, .inl (cI, 72, .inl (fun z9 => nI ((va_up (gnJ (gnI (ckS sy 18) i) i j) (i + 1 - j) (((gnJ (gnI (ckS sy 18) i) i j) (i + 1 - j)) ^^^ (gm ((gnJ (gnI (ckS sy 18) i) i j) ((i + 1 - j) - 1)) (pw i)))) z9))))] H := hP
    have hD : va_D A [(h, .inr (8, [.int (nI i0), .int (nI i1), .ref a2, .ref a3, .ref a4, .ref a5, .ref a6, .ref a7, .ref a8, .int (nI i9), .ref a10, .ref a11, .ref a12, .ref a13, .ref a14, .ref a15, .int (nI i16), .int (nI i17), .ref a18, .int (nI i19), .ref a20, .ref a21, .int (nI i22), .ref a23])), (a10, .inl (cI, 26, .inl (fun j => nI (bt j)))), (a11, .inl (cI, 26, .inl (fun j => nI ((ckA tr bt x 26) j)))), (a12, .inl (cI, 72, .inl (fun z9 => nI ((va_up (gnJ (gnI (ckS sy 18) i) i j) (i + 1 - j) (((gnJ (gnI (ckS sy 18) i) i j) (i + 1 - j)) ^^^ (gm ((gnJ (gnI (ckS sy 18) i) i j) ((i + 1 - j) - 1)) (pw i)))) z9))))] := hD
    rw [show va_up (gnJ (gnI (ckS sy 18) i) i j) (i + 1 - j) (((gnJ (gnI (ckS sy 18) i) i j) (i + 1 - j)) ^^^ (gm ((gnJ (gnI (ckS sy 18) i) i j) ((i + 1 - j) - 1)) (pw i))) = gnJ (gnI (ckS sy 18) i) i (j + 1) from rfl] at hP hD
    refine lv_iinc (k := 3) (v := nI (i + 1 - (j + 1))) hx hb d_m_check_110 hl rfl (nx_decN (by omega)) (Nat.le_of_ble_eq_true rfl) rfl (fun ls hl => ?_)
    have hl : lv_has ls 5 [(3, .int (nI (i + 1 - (j + 1)))), (0, .ref h), (1, .int (nI x)), (2, .int (nI i))] := hl
    refine lv_goto hx hb d_m_check_113 (tgt := 78) rfl ?_
    exact ih (by omega) ls H locs (lv_sub hl [1, 2, 3, 0] rfl) hP hD hS
set_option maxHeartbeats 1000000 in
set_option maxRecDepth 100000 in
theorem lp_m_check_69 (cI cC : ClassId) (h i0 i1 a2 a3 a4 a5 a6 a7 a8 i9 a10 a11 a12 a13 a14 a15 i16 i17 a18 i19 a20 a21 i22 a23 : Nat) (bt tr sy : Nat → Nat) (x : Nat) (hx0 : x ≤ 17) (hbt : lt256 26 bt) (S : CallFix p m c b_m_check 5 s args (cd_m_check :: WS) R_Model) (hRf : 2 ≤ R.frames) (hRl : 46 ≤ R.locals) (hRc : cells ≤ R.cells ∧ slots ≤ R.slots) (hK : va_K D classes [(cI, .int), (cC, .char)] s) (hA : ∀ q, H0.size ≤ q → A q) (kx : ∀ (ls : Array Slot) (H : Heap) (locs : List Loc), lv_has ls 5 [(0, .ref h), (1, .int (nI x)), (2, .int (nI x))] → va_P D classes [(h, .inr (8, [.int (nI i0), .int (nI i1), .ref a2, .ref a3, .ref a4, .ref a5, .ref a6, .ref a7, .ref a8, .int (nI i9), .ref a10, .ref a11, .ref a12, .ref a13, .ref a14, .ref a15, .int (nI i16), .int (nI i17), .ref a18, .int (nI i19), .ref a20, .ref a21, .int (nI i22), .ref a23])), (a10, .inl (cI, 26, .inl (fun j => nI (bt j)))), (a11, .inl (cI, 26, .inl (fun j => nI ((ckA tr bt x 26) j)))), (a12, .inl (cI, 72, .inl (fun j => nI ((gnI (ckS sy 18) x) j))))] H → va_D A [(h, .inr (8, [.int (nI i0), .int (nI i1), .ref a2, .ref a3, .ref a4, .ref a5, .ref a6, .ref a7, .ref a8, .int (nI i9), .ref a10, .ref a11, .ref a12, .ref a13, .ref a14, .ref a15, .int (nI i16), .int (nI i17), .ref a18, .int (nI i19), .ref a20, .ref a21, .int (nI i22), .ref a23])), (a10, .inl (cI, 26, .inl (fun j => nI (bt j)))), (a11, .inl (cI, 26, .inl (fun j => nI ((ckA tr bt x 26) j)))), (a12, .inl (cI, 72, .inl (fun j => nI ((gnI (ckS sy 18) x) j))))] → va_S A H0 H locs → W p l e R s m args below meth c H locs cells slots Q (F0 m 122 ls [])) :
    ∀ i, i ≤ x → ∀ (ls : Array Slot) (H : Heap) (locs : List Loc), lv_has ls 5 [(0, .ref h), (1, .int (nI x)), (2, .int (nI i))] → va_P D classes [(h, .inr (8, [.int (nI i0), .int (nI i1), .ref a2, .ref a3, .ref a4, .ref a5, .ref a6, .ref a7, .ref a8, .int (nI i9), .ref a10, .ref a11, .ref a12, .ref a13, .ref a14, .ref a15, .int (nI i16), .int (nI i17), .ref a18, .int (nI i19), .ref a20, .ref a21, .int (nI i22), .ref a23])), (a10, .inl (cI, 26, .inl (fun j => nI (bt j)))), (a11, .inl (cI, 26, .inl (fun j => nI ((ckA tr bt x 26) j)))), (a12, .inl (cI, 72, .inl (fun j => nI ((gnI (ckS sy 18) i) j))))] H → va_D A [(h, .inr (8, [.int (nI i0), .int (nI i1), .ref a2, .ref a3, .ref a4, .ref a5, .ref a6, .ref a7, .ref a8, .int (nI i9), .ref a10, .ref a11, .ref a12, .ref a13, .ref a14, .ref a15, .int (nI i16), .int (nI i17), .ref a18, .int (nI i19), .ref a20, .ref a21, .int (nI i22), .ref a23])), (a10, .inl (cI, 26, .inl (fun j => nI (bt j)))), (a11, .inl (cI, 26, .inl (fun j => nI ((ckA tr bt x 26) j)))), (a12, .inl (cI, 72, .inl (fun j => nI ((gnI (ckS sy 18) i) j))))] → va_S A H0 H locs → W p l e R s m args below meth c H locs cells slots Q (F0 m 69 ls []) := by
  obtain ⟨hx, hb, hml, hown, hts⟩ := id S
  refine up_loop (fun i hki ih => ?_)
  intro ls H locs hl hP hD hS
  refine lv_iload_n hx hb d_m_check_69 rfl (lv_at hl 2 rfl) ?_
  refine lv_iload_n hx hb d_m_check_70 rfl (lv_at hl 1 rfl) ?_
  refine n_icmp_ge hx hb d_m_check_71 (tgt := 122) rfl (by omega) (by omega) (fun g71 => ?_) (fun g71 => ?_)
  · skip
    obtain rfl : i = x := by omega
    exact kx ls H locs (lv_sub hl [0, 1, 2] rfl) hP hD hS
  · skip
    refine lv_iload_n hx hb d_m_check_74 rfl (lv_at hl 2 rfl) ?_
    refine lv_iconst (v := nI 1) hx hb d_m_check_75 (by decide) ?_
    refine n_iadd hx hb d_m_check_76 ?_
    refine lv_istore_n hx hb d_m_check_77 rfl hl (Nat.le_of_ble_eq_true rfl) rfl (fun ls hl => ?_)
    have hl : lv_has ls 5 [(3, .int (nI (i + 1))), (0, .ref h), (1, .int (nI x)), (2, .int (nI i))] := hl
    refine lp_m_check_78 cI cC h i0 i1 a2 a3 a4 a5 a6 a7 a8 i9 a10 a11 a12 a13 a14 a15 i16 i17 a18 i19 a20 a21 i22 a23 bt tr sy x hx0 hbt S hRf hRl hRc hK hA i (by omega) (fun ls H locs hl hP hD hS => ?_) 0 (by omega) ls H locs (lv_sub hl [1, 2, 3, 0] rfl) hP hD hS
    refine lv_iinc (k := 2) (v := nI (i + 1)) hx hb d_m_check_116 hl rfl (nx_inc i 1) (Nat.le_of_ble_eq_true rfl) rfl (fun ls hl => ?_)
    have hl : lv_has ls 5 [(2, .int (nI (i + 1))), (0, .ref h), (1, .int (nI x)), (3, .int (nI (i + 1 - (i + 1))))] := hl
    refine lv_goto hx hb d_m_check_119 (tgt := 69) rfl ?_
    exact ih (by omega) ls H locs (lv_sub hl [1, 2, 0] rfl) hP hD hS
set_option maxHeartbeats 1000000 in
set_option maxRecDepth 100000 in
theorem lp_m_check_40 (cI cC : ClassId) (h i0 i1 a2 a3 a4 a5 a6 a7 a8 i9 a10 a11 a12 a13 a14 a15 i16 i17 a18 i19 a20 a21 i22 a23 : Nat) (bt tr sy : Nat → Nat) (x : Nat) (hx0 : x ≤ 17) (hbt : lt256 26 bt) (S : CallFix p m c b_m_check 5 s args (cd_m_check :: WS) R_Model) (hRf : 2 ≤ R.frames) (hRl : 46 ≤ R.locals) (hRc : cells ≤ R.cells ∧ slots ≤ R.slots) (hK : va_K D classes [(cI, .int), (cC, .char)] s) (hA : ∀ q, H0.size ≤ q → A q) (kx : ∀ (ls : Array Slot) (H : Heap) (locs : List Loc), lv_has ls 5 [(0, .ref h), (1, .int (nI x)), (2, .int (nI 18))] → va_P D classes [(h, .inr (8, [.int (nI i0), .int (nI i1), .ref a2, .ref a3, .ref a4, .ref a5, .ref a6, .ref a7, .ref a8, .int (nI i9), .ref a10, .ref a11, .ref a12, .ref a13, .ref a14, .ref a15, .int (nI i16), .int (nI i17), .ref a18, .int (nI i19), .ref a20, .ref a21, .int (nI i22), .ref a23])), (a10, .inl (cI, 26, .inl (fun j => nI (bt j)))), (a11, .inl (cI, 26, .inl (fun j => nI ((ckA tr bt x 26) j)))), (a12, .inl (cI, 72, .inl (fun j => nI ((ckS sy 18) j))))] H → va_D A [(h, .inr (8, [.int (nI i0), .int (nI i1), .ref a2, .ref a3, .ref a4, .ref a5, .ref a6, .ref a7, .ref a8, .int (nI i9), .ref a10, .ref a11, .ref a12, .ref a13, .ref a14, .ref a15, .int (nI i16), .int (nI i17), .ref a18, .int (nI i19), .ref a20, .ref a21, .int (nI i22), .ref a23])), (a10, .inl (cI, 26, .inl (fun j => nI (bt j)))), (a11, .inl (cI, 26, .inl (fun j => nI ((ckA tr bt x 26) j)))), (a12, .inl (cI, 72, .inl (fun j => nI ((ckS sy 18) j))))] → va_S A H0 H locs → W p l e R s m args below meth c H locs cells slots Q (F0 m 67 ls [])) :
    ∀ k, k ≤ 18 → ∀ (ls : Array Slot) (H : Heap) (locs : List Loc), lv_has ls 5 [(0, .ref h), (1, .int (nI x)), (2, .int (nI k))] → va_P D classes [(h, .inr (8, [.int (nI i0), .int (nI i1), .ref a2, .ref a3, .ref a4, .ref a5, .ref a6, .ref a7, .ref a8, .int (nI i9), .ref a10, .ref a11, .ref a12, .ref a13, .ref a14, .ref a15, .int (nI i16), .int (nI i17), .ref a18, .int (nI i19), .ref a20, .ref a21, .int (nI i22), .ref a23])), (a10, .inl (cI, 26, .inl (fun j => nI (bt j)))), (a11, .inl (cI, 26, .inl (fun j => nI ((ckA tr bt x 26) j)))), (a12, .inl (cI, 72, .inl (fun j => nI ((ckS sy k) j))))] H → va_D A [(h, .inr (8, [.int (nI i0), .int (nI i1), .ref a2, .ref a3, .ref a4, .ref a5, .ref a6, .ref a7, .ref a8, .int (nI i9), .ref a10, .ref a11, .ref a12, .ref a13, .ref a14, .ref a15, .int (nI i16), .int (nI i17), .ref a18, .int (nI i19), .ref a20, .ref a21, .int (nI i22), .ref a23])), (a10, .inl (cI, 26, .inl (fun j => nI (bt j)))), (a11, .inl (cI, 26, .inl (fun j => nI ((ckA tr bt x 26) j)))), (a12, .inl (cI, 72, .inl (fun j => nI ((ckS sy k) j))))] → va_S A H0 H locs → W p l e R s m args below meth c H locs cells slots Q (F0 m 40 ls []) := by
  obtain ⟨hx, hb, hml, hown, hts⟩ := id S
  refine up_loop (fun k hkk ih => ?_)
  intro ls H locs hl hP hD hS
  refine lv_iload_n hx hb d_m_check_40 rfl (lv_at hl 2 rfl) ?_
  refine lv_bipush (v := nI 18) hx hb d_m_check_41 (by decide) ?_
  refine n_icmp_ge hx hb d_m_check_43 (tgt := 67) rfl (by omega) (by omega) (fun g43 => ?_) (fun g43 => ?_)
  · skip
    obtain rfl : k = 18 := by omega
    exact kx ls H locs (lv_sub hl [0, 1, 2] rfl) hP hD hS
  · skip
    refine lv_aload_n hx hb d_m_check_46 rfl (lv_at hl 0 rfl) ?_
    refine n_get (C := R_Model) (T := F_Model) (N := 24) (v := .ref a12) hx hb hts u_Model_in hown hK hP 0 rfl rfl 12 (by decide) kw_788 rfl d_m_check_47 ?_
    refine lv_iload_n hx hb d_m_check_50 rfl (lv_at hl 2 rfl) ?_
    refine lv_iload_n hx hb d_m_check_51 rfl (lv_at hl 2 rfl) ?_
    refine n_if_ne hx hb d_m_check_52 (tgt := 59) rfl (by omega) (fun g52 => ?_) (fun g52 => ?_)
    · skip
      refine lv_iconst (v := nI 0) hx hb d_m_check_59 (by decide) ?_
      refine n_iast hx hb hK hP hD hS 3 0 rfl rfl (by omega) (by decide) d_m_check_60 (fun H locs hP hD hS => ?_)
      have hP : va_P D classes [(h, .inr (8, [.int (nI i0), .int (nI i1), .ref a2, .ref a3, .ref a4, .ref a5, .ref a6, .ref a7, .ref a8, .int (nI i9), .ref a10, .ref a11, .ref a12, .ref a13, .ref a14, .ref a15, .int (nI i16), .int (nI i17), .ref a18, .int (nI i19), .ref a20, .ref a21, .int (nI i22), .ref a23])), (a10, .inl (cI, 26, .inl (fun j => nI (bt j)))), (a11, .inl (cI, 26, .inl (fun j => nI ((ckA tr bt x 26) j)))), (a12, .inl (cI, 72, .inl (fun j => nI ((va_up (ckS sy k) k 0) j))))] H := hP
      have hD : va_D A [(h, .inr (8, [.int (nI i0), .int (nI i1), .ref a2, .ref a3, .ref a4, .ref a5, .ref a6, .ref a7, .ref a8, .int (nI i9), .ref a10, .ref a11, .ref a12, .ref a13, .ref a14, .ref a15, .int (nI i16), .int (nI i17), .ref a18, .int (nI i19), .ref a20, .ref a21, .int (nI i22), .ref a23])), (a10, .inl (cI, 26, .inl (fun j => nI (bt j)))), (a11, .inl (cI, 26, .inl (fun j => nI ((ckA tr bt x 26) j)))), (a12, .inl (cI, 72, .inl (fun j => nI ((va_up (ckS sy k) k 0) j))))] := hD
      rw [show va_up (ckS sy k) k 0 = ckS sy (k + 1) from (by first | exact (ckS_t g52).symm | exact (ckS_f g52).symm)] at hP hD
      refine lv_iinc (k := 2) (v := nI (k + 1)) hx hb d_m_check_61 hl rfl (nx_inc k 1) (Nat.le_of_ble_eq_true rfl) rfl (fun ls hl => ?_)
      have hl : lv_has ls 5 [(2, .int (nI (k + 1))), (0, .ref h), (1, .int (nI x))] := hl
      refine lv_goto hx hb d_m_check_64 (tgt := 40) rfl ?_
      exact ih (by omega) ls H locs (lv_sub hl [1, 2, 0] rfl) hP hD hS
    · skip
      refine lv_iconst (v := nI 1) hx hb d_m_check_55 (by decide) ?_
      refine lv_goto hx hb d_m_check_56 (tgt := 60) rfl ?_
      refine n_iast hx hb hK hP hD hS 3 0 rfl rfl (by omega) (by decide) d_m_check_60 (fun H locs hP hD hS => ?_)
      have hP : va_P D classes [(h, .inr (8, [.int (nI i0), .int (nI i1), .ref a2, .ref a3, .ref a4, .ref a5, .ref a6, .ref a7, .ref a8, .int (nI i9), .ref a10, .ref a11, .ref a12, .ref a13, .ref a14, .ref a15, .int (nI i16), .int (nI i17), .ref a18, .int (nI i19), .ref a20, .ref a21, .int (nI i22), .ref a23])), (a10, .inl (cI, 26, .inl (fun j => nI (bt j)))), (a11, .inl (cI, 26, .inl (fun j => nI ((ckA tr bt x 26) j)))), (a12, .inl (cI, 72, .inl (fun j => nI ((va_up (ckS sy k) k 1) j))))] H := hP
      have hD : va_D A [(h, .inr (8, [.int (nI i0), .int (nI i1), .ref a2, .ref a3, .ref a4, .ref a5, .ref a6, .ref a7, .ref a8, .int (nI i9), .ref a10, .ref a11, .ref a12, .ref a13, .ref a14, .ref a15, .int (nI i16), .int (nI i17), .ref a18, .int (nI i19), .ref a20, .ref a21, .int (nI i22), .ref a23])), (a10, .inl (cI, 26, .inl (fun j => nI (bt j)))), (a11, .inl (cI, 26, .inl (fun j => nI ((ckA tr bt x 26) j)))), (a12, .inl (cI, 72, .inl (fun j => nI ((va_up (ckS sy k) k 1) j))))] := hD
      rw [show va_up (ckS sy k) k 1 = ckS sy (k + 1) from (by first | exact (ckS_t g52).symm | exact (ckS_f g52).symm)] at hP hD
      refine lv_iinc (k := 2) (v := nI (k + 1)) hx hb d_m_check_61 hl rfl (nx_inc k 1) (Nat.le_of_ble_eq_true rfl) rfl (fun ls hl => ?_)
      have hl : lv_has ls 5 [(2, .int (nI (k + 1))), (0, .ref h), (1, .int (nI x))] := hl
      refine lv_goto hx hb d_m_check_64 (tgt := 40) rfl ?_
      exact ih (by omega) ls H locs (lv_sub hl [1, 2, 0] rfl) hP hD hS
set_option maxHeartbeats 1000000 in
set_option maxRecDepth 100000 in
theorem lp_m_check_2 (cI cC : ClassId) (h i0 i1 a2 a3 a4 a5 a6 a7 a8 i9 a10 a11 a12 a13 a14 a15 i16 i17 a18 i19 a20 a21 i22 a23 : Nat) (bt tr sy : Nat → Nat) (x : Nat) (hx0 : x ≤ 17) (hbt : lt256 26 bt) (S : CallFix p m c b_m_check 5 s args (cd_m_check :: WS) R_Model) (hRf : 2 ≤ R.frames) (hRl : 46 ≤ R.locals) (hRc : cells ≤ R.cells ∧ slots ≤ R.slots) (hK : va_K D classes [(cI, .int), (cC, .char)] s) (hA : ∀ q, H0.size ≤ q → A q) (kx : ∀ (ls : Array Slot) (H : Heap) (locs : List Loc), lv_has ls 5 [(0, .ref h), (1, .int (nI x)), (2, .int (nI 26))] → va_P D classes [(h, .inr (8, [.int (nI i0), .int (nI i1), .ref a2, .ref a3, .ref a4, .ref a5, .ref a6, .ref a7, .ref a8, .int (nI i9), .ref a10, .ref a11, .ref a12, .ref a13, .ref a14, .ref a15, .int (nI i16), .int (nI i17), .ref a18, .int (nI i19), .ref a20, .ref a21, .int (nI i22), .ref a23])), (a10, .inl (cI, 26, .inl (fun j => nI (bt j)))), (a11, .inl (cI, 26, .inl (fun j => nI ((ckA tr bt x 26) j)))), (a12, .inl (cI, 72, .inl (fun j => nI (sy j))))] H → va_D A [(h, .inr (8, [.int (nI i0), .int (nI i1), .ref a2, .ref a3, .ref a4, .ref a5, .ref a6, .ref a7, .ref a8, .int (nI i9), .ref a10, .ref a11, .ref a12, .ref a13, .ref a14, .ref a15, .int (nI i16), .int (nI i17), .ref a18, .int (nI i19), .ref a20, .ref a21, .int (nI i22), .ref a23])), (a10, .inl (cI, 26, .inl (fun j => nI (bt j)))), (a11, .inl (cI, 26, .inl (fun j => nI ((ckA tr bt x 26) j)))), (a12, .inl (cI, 72, .inl (fun j => nI (sy j))))] → va_S A H0 H locs → W p l e R s m args below meth c H locs cells slots Q (F0 m 38 ls [])) :
    ∀ k, k ≤ 26 → ∀ (ls : Array Slot) (H : Heap) (locs : List Loc), lv_has ls 5 [(0, .ref h), (1, .int (nI x)), (2, .int (nI k))] → va_P D classes [(h, .inr (8, [.int (nI i0), .int (nI i1), .ref a2, .ref a3, .ref a4, .ref a5, .ref a6, .ref a7, .ref a8, .int (nI i9), .ref a10, .ref a11, .ref a12, .ref a13, .ref a14, .ref a15, .int (nI i16), .int (nI i17), .ref a18, .int (nI i19), .ref a20, .ref a21, .int (nI i22), .ref a23])), (a10, .inl (cI, 26, .inl (fun j => nI (bt j)))), (a11, .inl (cI, 26, .inl (fun j => nI ((ckA tr bt x k) j)))), (a12, .inl (cI, 72, .inl (fun j => nI (sy j))))] H → va_D A [(h, .inr (8, [.int (nI i0), .int (nI i1), .ref a2, .ref a3, .ref a4, .ref a5, .ref a6, .ref a7, .ref a8, .int (nI i9), .ref a10, .ref a11, .ref a12, .ref a13, .ref a14, .ref a15, .int (nI i16), .int (nI i17), .ref a18, .int (nI i19), .ref a20, .ref a21, .int (nI i22), .ref a23])), (a10, .inl (cI, 26, .inl (fun j => nI (bt j)))), (a11, .inl (cI, 26, .inl (fun j => nI ((ckA tr bt x k) j)))), (a12, .inl (cI, 72, .inl (fun j => nI (sy j))))] → va_S A H0 H locs → W p l e R s m args below meth c H locs cells slots Q (F0 m 2 ls []) := by
  obtain ⟨hx, hb, hml, hown, hts⟩ := id S
  refine up_loop (fun k hkk ih => ?_)
  intro ls H locs hl hP hD hS
  refine lv_iload_n hx hb d_m_check_2 rfl (lv_at hl 2 rfl) ?_
  refine lv_bipush (v := nI 26) hx hb d_m_check_3 (by decide) ?_
  refine n_icmp_ge hx hb d_m_check_5 (tgt := 38) rfl (by omega) (by omega) (fun g5 => ?_) (fun g5 => ?_)
  · skip
    obtain rfl : k = 26 := by omega
    exact kx ls H locs (lv_sub hl [0, 1, 2] rfl) hP hD hS
  · skip
    refine lv_aload_n hx hb d_m_check_8 rfl (lv_at hl 0 rfl) ?_
    refine n_get (C := R_Model) (T := F_Model) (N := 24) (v := .ref a11) hx hb hts u_Model_in hown hK hP 0 rfl rfl 11 (by decide) kw_787 rfl d_m_check_9 ?_
    refine lv_iload_n hx hb d_m_check_12 rfl (lv_at hl 2 rfl) ?_
    refine lv_iload_n hx hb d_m_check_13 rfl (lv_at hl 2 rfl) ?_
    refine lv_bipush (v := nI 26) hx hb d_m_check_14 (by decide) ?_
    refine lv_iload_n hx hb d_m_check_16 rfl (lv_at hl 1 rfl) ?_
    refine n_isub hx hb d_m_check_17 (by omega) ?_
    refine n_icmp_ge hx hb d_m_check_18 (tgt := 30) rfl (by omega) (by omega) (fun g18 => ?_) (fun g18 => ?_)
    · skip
      refine lv_iconst (v := nI 0) hx hb d_m_check_30 (by decide) ?_
      refine n_iast hx hb hK hP hD hS 2 0 rfl rfl (by omega) (by decide) d_m_check_31 (fun H locs hP hD hS => ?_)
      have hP : va_P D classes [(h, .inr (8, [.int (nI i0), .int (nI i1), .ref a2, .ref a3, .ref a4, .ref a5, .ref a6, .ref a7, .ref a8, .int (nI i9), .ref a10, .ref a11, .ref a12, .ref a13, .ref a14, .ref a15, .int (nI i16), .int (nI i17), .ref a18, .int (nI i19), .ref a20, .ref a21, .int (nI i22), .ref a23])), (a10, .inl (cI, 26, .inl (fun j => nI (bt j)))), (a11, .inl (cI, 26, .inl (fun j => nI ((va_up (ckA tr bt x k) k 0) j)))), (a12, .inl (cI, 72, .inl (fun j => nI (sy j))))] H := hP
      have hD : va_D A [(h, .inr (8, [.int (nI i0), .int (nI i1), .ref a2, .ref a3, .ref a4, .ref a5, .ref a6, .ref a7, .ref a8, .int (nI i9), .ref a10, .ref a11, .ref a12, .ref a13, .ref a14, .ref a15, .int (nI i16), .int (nI i17), .ref a18, .int (nI i19), .ref a20, .ref a21, .int (nI i22), .ref a23])), (a10, .inl (cI, 26, .inl (fun j => nI (bt j)))), (a11, .inl (cI, 26, .inl (fun j => nI ((va_up (ckA tr bt x k) k 0) j)))), (a12, .inl (cI, 72, .inl (fun j => nI (sy j))))] := hD
      rw [show va_up (ckA tr bt x k) k 0 = ckA tr bt x (k + 1) from (by first | exact (ckA_t g18).symm | exact (ckA_f g18).symm)] at hP hD
      refine lv_iinc (k := 2) (v := nI (k + 1)) hx hb d_m_check_32 hl rfl (nx_inc k 1) (Nat.le_of_ble_eq_true rfl) rfl (fun ls hl => ?_)
      have hl : lv_has ls 5 [(2, .int (nI (k + 1))), (0, .ref h), (1, .int (nI x))] := hl
      refine lv_goto hx hb d_m_check_35 (tgt := 2) rfl ?_
      exact ih (by omega) ls H locs (lv_sub hl [1, 2, 0] rfl) hP hD hS
    · skip
      refine lv_aload_n hx hb d_m_check_21 rfl (lv_at hl 0 rfl) ?_
      refine n_get (C := R_Model) (T := F_Model) (N := 24) (v := .ref a10) hx hb hts u_Model_in hown hK hP 0 rfl rfl 10 (by decide) kw_786 rfl d_m_check_22 ?_
      refine lv_iload_n hx hb d_m_check_25 rfl (lv_at hl 2 rfl) ?_
      refine n_iald hx hb hK hP 1 0 rfl rfl (by omega) (by decide) d_m_check_26 ?_
      refine lv_goto hx hb d_m_check_27 (tgt := 31) rfl ?_
      refine n_iast hx hb hK hP hD hS 2 0 rfl rfl (by omega) (by decide) d_m_check_31 (fun H locs hP hD hS => ?_)
      have hP : va_P D classes [(h, .inr (8, [.int (nI i0), .int (nI i1), .ref a2, .ref a3, .ref a4, .ref a5, .ref a6, .ref a7, .ref a8, .int (nI i9), .ref a10, .ref a11, .ref a12, .ref a13, .ref a14, .ref a15, .int (nI i16), .int (nI i17), .ref a18, .int (nI i19), .ref a20, .ref a21, .int (nI i22), .ref a23])), (a10, .inl (cI, 26, .inl (fun j => nI (bt j)))), (a11, .inl (cI, 26, .inl (fun j => nI ((va_up (ckA tr bt x k) k (bt k)) j)))), (a12, .inl (cI, 72, .inl (fun j => nI (sy j))))] H := hP
      have hD : va_D A [(h, .inr (8, [.int (nI i0), .int (nI i1), .ref a2, .ref a3, .ref a4, .ref a5, .ref a6, .ref a7, .ref a8, .int (nI i9), .ref a10, .ref a11, .ref a12, .ref a13, .ref a14, .ref a15, .int (nI i16), .int (nI i17), .ref a18, .int (nI i19), .ref a20, .ref a21, .int (nI i22), .ref a23])), (a10, .inl (cI, 26, .inl (fun j => nI (bt j)))), (a11, .inl (cI, 26, .inl (fun j => nI ((va_up (ckA tr bt x k) k (bt k)) j)))), (a12, .inl (cI, 72, .inl (fun j => nI (sy j))))] := hD
      rw [show va_up (ckA tr bt x k) k (bt k) = ckA tr bt x (k + 1) from (by first | exact (ckA_t g18).symm | exact (ckA_f g18).symm)] at hP hD
      refine lv_iinc (k := 2) (v := nI (k + 1)) hx hb d_m_check_32 hl rfl (nx_inc k 1) (Nat.le_of_ble_eq_true rfl) rfl (fun ls hl => ?_)
      have hl : lv_has ls 5 [(2, .int (nI (k + 1))), (0, .ref h), (1, .int (nI x))] := hl
      refine lv_goto hx hb d_m_check_35 (tgt := 2) rfl ?_
      exact ih (by omega) ls H locs (lv_sub hl [1, 2, 0] rfl) hP hD hS
set_option maxHeartbeats 1000000 in
set_option maxRecDepth 100000 in
theorem bd_m_check (cI cC : ClassId) (h i0 i1 a2 a3 a4 a5 a6 a7 a8 i9 a10 a11 a12 a13 a14 a15 i16 i17 a18 i19 a20 a21 i22 a23 : Nat) (bt tr sy : Nat → Nat) (x : Nat) (hx0 : x ≤ 17) (hbt : lt256 26 bt) (S : CallFix p m c b_m_check 5 s args (cd_m_check :: WS) R_Model) (hRf : 2 ≤ R.frames) (hRl : 46 ≤ R.locals) (hRc : cells ≤ R.cells ∧ slots ≤ R.slots) (hK : va_K D classes [(cI, .int), (cC, .char)] s) (hA : ∀ q, H0.size ≤ q → A q) (kr : ∀ (pc : Nat) (ls : Array Slot) (H : Heap) (locs : List Loc), decode b_m_check pc = .ok (.return_, 1) → va_P D classes [(h, .inr (8, [.int (nI i0), .int (nI i1), .ref a2, .ref a3, .ref a4, .ref a5, .ref a6, .ref a7, .ref a8, .int (nI i9), .ref a10, .ref a11, .ref a12, .ref a13, .ref a14, .ref a15, .int (nI i16), .int (nI i17), .ref a18, .int (nI i19), .ref a20, .ref a21, .int (nI i22), .ref a23])), (a10, .inl (cI, 26, .inl (fun j => nI ((cbL bt (dvI (ckA tr bt x 26) (gnI (ckS sy 18) x) x (26 - x)) (26 - x) x) j)))), (a11, .inl (cI, 26, .inl (fun j => nI ((dvI (ckA tr bt x 26) (gnI (ckS sy 18) x) x (26 - x)) j)))), (a12, .inl (cI, 72, .inl (fun j => nI ((gnI (ckS sy 18) x) j))))] H → va_D A [(h, .inr (8, [.int (nI i0), .int (nI i1), .ref a2, .ref a3, .ref a4, .ref a5, .ref a6, .ref a7, .ref a8, .int (nI i9), .ref a10, .ref a11, .ref a12, .ref a13, .ref a14, .ref a15, .int (nI i16), .int (nI i17), .ref a18, .int (nI i19), .ref a20, .ref a21, .int (nI i22), .ref a23])), (a10, .inl (cI, 26, .inl (fun j => nI ((cbL bt (dvI (ckA tr bt x 26) (gnI (ckS sy 18) x) x (26 - x)) (26 - x) x) j)))), (a11, .inl (cI, 26, .inl (fun j => nI ((dvI (ckA tr bt x 26) (gnI (ckS sy 18) x) x (26 - x)) j)))), (a12, .inl (cI, 72, .inl (fun j => nI ((gnI (ckS sy 18) x) j))))] → va_S A H0 H locs → W p l e R s m args below meth c H locs cells slots Q (F0 m pc ls [])) : ∀ (ls : Array Slot) (H : Heap) (locs : List Loc), lv_has ls 5 [(0, .ref h), (1, .int (nI x))] → va_P D classes [(h, .inr (8, [.int (nI i0), .int (nI i1), .ref a2, .ref a3, .ref a4, .ref a5, .ref a6, .ref a7, .ref a8, .int (nI i9), .ref a10, .ref a11, .ref a12, .ref a13, .ref a14, .ref a15, .int (nI i16), .int (nI i17), .ref a18, .int (nI i19), .ref a20, .ref a21, .int (nI i22), .ref a23])), (a10, .inl (cI, 26, .inl (fun j => nI (bt j)))), (a11, .inl (cI, 26, .inl (fun j => nI (tr j)))), (a12, .inl (cI, 72, .inl (fun j => nI (sy j))))] H → va_D A [(h, .inr (8, [.int (nI i0), .int (nI i1), .ref a2, .ref a3, .ref a4, .ref a5, .ref a6, .ref a7, .ref a8, .int (nI i9), .ref a10, .ref a11, .ref a12, .ref a13, .ref a14, .ref a15, .int (nI i16), .int (nI i17), .ref a18, .int (nI i19), .ref a20, .ref a21, .int (nI i22), .ref a23])), (a10, .inl (cI, 26, .inl (fun j => nI (bt j)))), (a11, .inl (cI, 26, .inl (fun j => nI (tr j)))), (a12, .inl (cI, 72, .inl (fun j => nI (sy j))))] → va_S A H0 H locs → W p l e R s m args below meth c H locs cells slots Q (F0 m 0 ls []) := by
  obtain ⟨hx, hb, hml, hown, hts⟩ := id S
  intro ls H locs hl hP hD hS
  refine lv_iconst (v := nI 0) hx hb d_m_check_0 (by decide) ?_
  refine lv_istore_n hx hb d_m_check_1 rfl hl (Nat.le_of_ble_eq_true rfl) rfl (fun ls hl => ?_)
  have hl : lv_has ls 5 [(2, .int (nI 0)), (0, .ref h), (1, .int (nI x))] := hl
  refine lp_m_check_2 cI cC h i0 i1 a2 a3 a4 a5 a6 a7 a8 i9 a10 a11 a12 a13 a14 a15 i16 i17 a18 i19 a20 a21 i22 a23 bt tr sy x hx0 hbt S hRf hRl hRc hK hA  (fun ls H locs hl hP hD hS => ?_) 0 (by omega) ls H locs (lv_sub hl [1, 2, 0] rfl) hP hD hS
  refine lv_iconst (v := nI 0) hx hb d_m_check_38 (by decide) ?_
  refine lv_istore_n hx hb d_m_check_39 rfl hl (Nat.le_of_ble_eq_true rfl) rfl (fun ls hl => ?_)
  have hl : lv_has ls 5 [(2, .int (nI 0)), (0, .ref h), (1, .int (nI x))] := hl
  refine lp_m_check_40 cI cC h i0 i1 a2 a3 a4 a5 a6 a7 a8 i9 a10 a11 a12 a13 a14 a15 i16 i17 a18 i19 a20 a21 i22 a23 bt tr sy x hx0 hbt S hRf hRl hRc hK hA  (fun ls H locs hl hP hD hS => ?_) 0 (by omega) ls H locs (lv_sub hl [1, 2, 0] rfl) hP hD hS
  refine lv_iconst (v := nI 0) hx hb d_m_check_67 (by decide) ?_
  refine lv_istore_n hx hb d_m_check_68 rfl hl (Nat.le_of_ble_eq_true rfl) rfl (fun ls hl => ?_)
  have hl : lv_has ls 5 [(2, .int (nI 0)), (0, .ref h), (1, .int (nI x))] := hl
  refine lp_m_check_69 cI cC h i0 i1 a2 a3 a4 a5 a6 a7 a8 i9 a10 a11 a12 a13 a14 a15 i16 i17 a18 i19 a20 a21 i22 a23 bt tr sy x hx0 hbt S hRf hRl hRc hK hA  (fun ls H locs hl hP hD hS => ?_) 0 (by omega) ls H locs (lv_sub hl [1, 2, 0] rfl) hP hD hS
  refine lv_iconst (v := nI 0) hx hb d_m_check_122 (by decide) ?_
  refine lv_istore_n hx hb d_m_check_123 rfl hl (Nat.le_of_ble_eq_true rfl) rfl (fun ls hl => ?_)
  have hl : lv_has ls 5 [(2, .int (nI 0)), (0, .ref h), (1, .int (nI x))] := hl
  refine lp_m_check_124 cI cC h i0 i1 a2 a3 a4 a5 a6 a7 a8 i9 a10 a11 a12 a13 a14 a15 i16 i17 a18 i19 a20 a21 i22 a23 bt tr sy x hx0 hbt S hRf hRl hRc hK hA  (fun ls H locs hl hP hD hS => ?_) 0 (by omega) ls H locs (lv_sub hl [1, 2, 0] rfl) hP hD hS
  refine lv_bipush (v := nI 26) hx hb d_m_check_190 (by decide) ?_
  refine lv_iload_n hx hb d_m_check_192 rfl (lv_at hl 1 rfl) ?_
  refine n_isub hx hb d_m_check_193 (by omega) ?_
  refine lv_istore_n hx hb d_m_check_194 rfl hl (Nat.le_of_ble_eq_true rfl) rfl (fun ls hl => ?_)
  have hl : lv_has ls 5 [(2, .int (nI (26 - x))), (0, .ref h), (1, .int (nI x))] := hl
  refine lp_m_check_195 cI cC h i0 i1 a2 a3 a4 a5 a6 a7 a8 i9 a10 a11 a12 a13 a14 a15 i16 i17 a18 i19 a20 a21 i22 a23 bt tr sy x hx0 hbt S hRf hRl hRc hK hA  (fun ls H locs hl hP hD hS => ?_) 0 (by omega) ls H locs (lv_sub hl [1, 2, 0] rfl) hP hD hS
  exact kr _ ls H locs d_m_check_219 hP hD hS
set_option maxHeartbeats 1000000 in
set_option maxRecDepth 100000 in
theorem c_m_check (l : Launch) (D : va_G) (cI cC : ClassId) (h i0 i1 a2 a3 a4 a5 a6 a7 a8 i9 a10 a11 a12 a13 a14 a15 i16 i17 a18 i19 a20 a21 i22 a23 : Nat) (bt tr sy : Nat → Nat) (x : Nat) (hx0 : x ≤ 17) (hbt : lt256 26 bt) (sz : Nat) : Met l y_m_check (cd_m_check :: WS) { frames := 2, cells := 0, slots := 0, locals := 46 } (va_Pc [.ref h, .int (nI x)] (wP D [(h, .inr (8, [.int (nI i0), .int (nI i1), .ref a2, .ref a3, .ref a4, .ref a5, .ref a6, .ref a7, .ref a8, .int (nI i9), .ref a10, .ref a11, .ref a12, .ref a13, .ref a14, .ref a15, .int (nI i16), .int (nI i17), .ref a18, .int (nI i19), .ref a20, .ref a21, .int (nI i22), .ref a23])), (a10, .inl (cI, 26, .inl (fun j => nI (bt j)))), (a11, .inl (cI, 26, .inl (fun j => nI (tr j)))), (a12, .inl (cI, 72, .inl (fun j => nI (sy j))))] [(cI, .int), (cC, .char)] sz)) (wQv D [(h, .inr (8, [.int (nI i0), .int (nI i1), .ref a2, .ref a3, .ref a4, .ref a5, .ref a6, .ref a7, .ref a8, .int (nI i9), .ref a10, .ref a11, .ref a12, .ref a13, .ref a14, .ref a15, .int (nI i16), .int (nI i17), .ref a18, .int (nI i19), .ref a20, .ref a21, .int (nI i22), .ref a23])), (a10, .inl (cI, 26, .inl (fun j => nI (bt j)))), (a11, .inl (cI, 26, .inl (fun j => nI (tr j)))), (a12, .inl (cI, 72, .inl (fun j => nI (sy j))))] [(h, .inr (8, [.int (nI i0), .int (nI i1), .ref a2, .ref a3, .ref a4, .ref a5, .ref a6, .ref a7, .ref a8, .int (nI i9), .ref a10, .ref a11, .ref a12, .ref a13, .ref a14, .ref a15, .int (nI i16), .int (nI i17), .ref a18, .int (nI i19), .ref a20, .ref a21, .int (nI i22), .ref a23])), (a10, .inl (cI, 26, .inl (fun j => nI ((cbL bt (dvI (ckA tr bt x 26) (gnI (ckS sy 18) x) x (26 - x)) (26 - x) x) j)))), (a11, .inl (cI, 26, .inl (fun j => nI ((dvI (ckA tr bt x 26) (gnI (ckS sy 18) x) x (26 - x)) j)))), (a12, .inl (cI, 72, .inl (fun j => nI ((gnI (ckS sy 18) x) j))))] sz) 0 0 (va_A [(h, .inr (8, [.int (nI i0), .int (nI i1), .ref a2, .ref a3, .ref a4, .ref a5, .ref a6, .ref a7, .ref a8, .int (nI i9), .ref a10, .ref a11, .ref a12, .ref a13, .ref a14, .ref a15, .int (nI i16), .int (nI i17), .ref a18, .int (nI i19), .ref a20, .ref a21, .int (nI i22), .ref a23])), (a10, .inl (cI, 26, .inl (fun j => nI (bt j)))), (a11, .inl (cI, 26, .inl (fun j => nI (tr j)))), (a12, .inl (cI, 72, .inl (fun j => nI (sy j))))] sz) := by
  refine Met.ofW (cc := b_m_check) (maxL := 5) (ret := none) (by decide) rfl ?_
  intro p e s m args below meth c s₁ B hml hv0
  obtain ⟨rfl, hP, hK, hD0, hsz⟩ := hv0
  have hts := atoms_spec (ws := cd_m_check :: WS) B.pre
  have hown : s.vm.findClass R_Model = some m.cls := findClass_of_methodNamed B.named
  have hlocks := B.notSynchronized
  subst hsz
  have hD := hD0.self (sz := s.heap.size)
  have hl := lv_entry ([.ref h, .int (nI x)]) (n := 5) (Nat.le_of_ble_eq_true rfl)
  rw [lg_entry_eq]
  generalize (lg_sl ([.ref h, .int (nI x)]) ++ List.replicate (5 - (lg_sl ([.ref h, .int (nI x)])).length) Slot.unset).toArray = ls at hl ⊢
  refine bd_m_check cI cC h i0 i1 a2 a3 a4 a5 a6 a7 a8 i9 a10 a11 a12 a13 a14 a15 i16 i17 a18 i19 a20 a21 i22 a23 bt tr sy x hx0 hbt ⟨B.exec, B.bytes, hml, hown, hts⟩ (Nat.le_refl _) (Nat.le_refl _) ⟨Nat.le_refl _, Nat.le_refl _⟩ hK (fun q h => Or.inr h) (fun pc ls H locs hd hP hD hS => ?_) ls _ _ hl hP hD (va_S.rf)
  exact W.vret B.exec B.bytes B.returns (fun t ht _ => ⟨⟨(), rfl, trivial, (by have h9 := hP; rw [← ht] at h9; exact h9)⟩, hS.F ht⟩) hS.2.2 hd
end
