theorem kw_502 : (Jvm.Cond.methodLink "SquareCodes$TextWriter" (57 : Nat) ({ cls := "SquareCodes$Kind", name := "valueOfCharacter", desc := "(C)I" } : Jvm.MethodName)) ∈ WS := WS_tbl 502 (by decide +kernel) rfl
theorem kw_503 : (Jvm.Cond.methodLink "SquareCodes$TextWriter" (64 : Nat) ({ cls := "SquareCodes$Kind", name := "groupBits", desc := "(I)I" } : Jvm.MethodName)) ∈ WS := WS_tbl 503 (by decide +kernel) rfl
theorem kw_494 : (Jvm.Cond.methodLink "SquareCodes$TextWriter" (34 : Nat) ({ cls := "SquareCodes$TextWriter", name := "put", desc := "([III)V" } : Jvm.MethodName)) ∈ WS := WS_tbl 494 (by decide +kernel) rfl
theorem kw_496 : (Jvm.Cond.instanceMethod ({ cls := "SquareCodes$TextWriter", name := "put", desc := "([III)V" } : Jvm.MethodName)) ∈ WS := WS_tbl 496 (by decide +kernel) rfl
theorem ks_5 : Cond.selects R_TextWriter y_q_TextWriter_put y_q_TextWriter_put ∈ WS := WS_sel 5 (by decide +kernel) rfl
theorem kw_6 : (Jvm.Cond.initialized "SquareCodes$TextWriter") ∈ WS := WS_tbl 6 (by decide +kernel) rfl
set_option maxRecDepth 1000000 in
theorem kw_497 : cd_q_TextWriter_put ∈ WS := WS_tbl 497 rfl rfl
theorem kw_382 : (Jvm.Cond.methodLink "SquareCodes$TextWriter" (9 : Nat) ({ cls := "SquareCodes$Kind", name := "fitting", desc := "([CI)LSquareCodes$Kind;" } : Jvm.MethodName)) ∈ WS := WS_tbl 382 (by decide +kernel) rfl
theorem kw_383 : (Jvm.Cond.static ({ cls := "SquareCodes$Kind", name := "fitting", desc := "([CI)LSquareCodes$Kind;" } : Jvm.MethodName)) ∈ WS := WS_tbl 383 (by decide +kernel) rfl
set_option maxRecDepth 1000000 in
theorem kw_384 : cd_q_Kind_fitting ∈ WS := WS_tbl 384 rfl rfl
theorem kw_485 : (Jvm.Cond.methodLink "SquareCodes$TextWriter" (15 : Nat) ({ cls := "SquareCodes$Kind", name := "bitsFor", desc := "(I)I" } : Jvm.MethodName)) ∈ WS := WS_tbl 485 (by decide +kernel) rfl
theorem kw_486 : (Jvm.Cond.instanceMethod ({ cls := "SquareCodes$Kind", name := "bitsFor", desc := "(I)I" } : Jvm.MethodName)) ∈ WS := WS_tbl 486 (by decide +kernel) rfl
theorem kw_487 : (Jvm.Cond.selects "SquareCodes$Kind" ({ cls := "SquareCodes$Kind", name := "bitsFor", desc := "(I)I" } : Jvm.MethodName) ({ cls := "SquareCodes$Kind", name := "bitsFor", desc := "(I)I" } : Jvm.MethodName)) ∈ WS := WS_tbl 487 (by decide +kernel) rfl
set_option maxRecDepth 1000000 in
theorem kw_488 : cd_q_Kind_bitsFor ∈ WS := WS_tbl 488 rfl rfl
theorem kw_493 : (Jvm.Cond.methodLink "SquareCodes$TextWriter" (19 : Nat) ({ cls := "java/util/Arrays", name := "fill", desc := "([II)V" } : Jvm.MethodName)) ∈ WS := WS_tbl 493 (by decide +kernel) rfl
theorem kw_498 : (Jvm.Cond.methodLink "SquareCodes$TextWriter" (41 : Nat) ({ cls := "SquareCodes$TextWriter", name := "putCharacters", desc := "([ILSquareCodes$Kind;[CI)V" } : Jvm.MethodName)) ∈ WS := WS_tbl 498 (by decide +kernel) rfl
theorem kw_500 : (Jvm.Cond.instanceMethod ({ cls := "SquareCodes$TextWriter", name := "putCharacters", desc := "([ILSquareCodes$Kind;[CI)V" } : Jvm.MethodName)) ∈ WS := WS_tbl 500 (by decide +kernel) rfl
theorem ks_6 : Cond.selects R_TextWriter y_q_TextWriter_putCharacters y_q_TextWriter_putCharacters ∈ WS := WS_sel 6 (by decide +kernel) rfl
set_option maxRecDepth 1000000 in
theorem kw_501 : cd_q_TextWriter_putCharacters ∈ WS := WS_tbl 501 rfl rfl
theorem kw_504 : (Jvm.Cond.methodLink "SquareCodes$TextWriter" (45 : Nat) ({ cls := "java/lang/Math", name := "min", desc := "(II)I" } : Jvm.MethodName)) ∈ WS := WS_tbl 504 (by decide +kernel) rfl
theorem kw_505 : (Jvm.Cond.methodLink "SquareCodes$TextWriter" (51 : Nat) ({ cls := "SquareCodes$TextWriter", name := "fillRest", desc := "([III)V" } : Jvm.MethodName)) ∈ WS := WS_tbl 505 (by decide +kernel) rfl
theorem kw_506 : (Jvm.Cond.static ({ cls := "SquareCodes$TextWriter", name := "fillRest", desc := "([III)V" } : Jvm.MethodName)) ∈ WS := WS_tbl 506 (by decide +kernel) rfl
set_option maxRecDepth 1000000 in
theorem kw_507 : cd_q_TextWriter_fillRest ∈ WS := WS_tbl 507 rfl rfl
theorem kw_676 : (Jvm.Cond.methodLink "SquareCodes$TextReader" (25 : Nat) ({ cls := "SquareCodes$TextReader", name := "take", desc := "([II)I" } : Jvm.MethodName)) ∈ WS := WS_tbl 676 (by decide +kernel) rfl
theorem kw_678 : (Jvm.Cond.instanceMethod ({ cls := "SquareCodes$TextReader", name := "take", desc := "([II)I" } : Jvm.MethodName)) ∈ WS := WS_tbl 678 (by decide +kernel) rfl
theorem ks_17 : Cond.selects R_TextReader y_q_TextReader_take y_q_TextReader_take ∈ WS := WS_sel 17 (by decide +kernel) rfl
theorem kw_7 : (Jvm.Cond.initialized "SquareCodes$TextReader") ∈ WS := WS_tbl 7 (by decide +kernel) rfl
set_option maxRecDepth 1000000 in
theorem kw_679 : cd_q_TextReader_take ∈ WS := WS_tbl 679 rfl rfl
theorem kw_689 : (Jvm.Cond.methodLink "SquareCodes$TextReader" (51 : Nat) ({ cls := "SquareCodes$Kind", name := "groupBits", desc := "(I)I" } : Jvm.MethodName)) ∈ WS := WS_tbl 689 (by decide +kernel) rfl
theorem kw_690 : (Jvm.Cond.methodLink "SquareCodes$TextReader" (55 : Nat) ({ cls := "SquareCodes$Kind", name := "groupLimit", desc := "(I)I" } : Jvm.MethodName)) ∈ WS := WS_tbl 690 (by decide +kernel) rfl
theorem kw_691 : (Jvm.Cond.instanceMethod ({ cls := "SquareCodes$Kind", name := "groupLimit", desc := "(I)I" } : Jvm.MethodName)) ∈ WS := WS_tbl 691 (by decide +kernel) rfl
theorem kw_692 : (Jvm.Cond.selects "SquareCodes$Kind" ({ cls := "SquareCodes$Kind", name := "groupLimit", desc := "(I)I" } : Jvm.MethodName) ({ cls := "SquareCodes$Kind", name := "groupLimit", desc := "(I)I" } : Jvm.MethodName)) ∈ WS := WS_tbl 692 (by decide +kernel) rfl
set_option maxRecDepth 1000000 in
theorem kw_693 : cd_q_Kind_groupLimit ∈ WS := WS_tbl 693 rfl rfl
theorem kw_694 : (Jvm.Cond.methodLink "SquareCodes$TextReader" (58 : Nat) ({ cls := "SquareCodes$TextReader", name := "keep", desc := "(LSquareCodes$Kind;II)V" } : Jvm.MethodName)) ∈ WS := WS_tbl 694 (by decide +kernel) rfl
theorem kw_696 : (Jvm.Cond.instanceMethod ({ cls := "SquareCodes$TextReader", name := "keep", desc := "(LSquareCodes$Kind;II)V" } : Jvm.MethodName)) ∈ WS := WS_tbl 696 (by decide +kernel) rfl
theorem ks_19 : Cond.selects R_TextReader y_q_TextReader_keep y_q_TextReader_keep ∈ WS := WS_sel 19 (by decide +kernel) rfl
set_option maxRecDepth 1000000 in
theorem kw_697 : cd_q_TextReader_keep ∈ WS := WS_tbl 697 rfl rfl
section
theorem d_q_TextWriter_putCharacters_0 : decode b_q_TextWriter_putCharacters 0 = .ok (.iconst 0, 1) := by decide +kernel
theorem d_q_TextWriter_putCharacters_1 : decode b_q_TextWriter_putCharacters 1 = .ok (.istore 5, 2) := by decide +kernel
theorem d_q_TextWriter_putCharacters_3 : decode b_q_TextWriter_putCharacters 3 = .ok (.iconst 0, 1) := by decide +kernel
theorem d_q_TextWriter_putCharacters_4 : decode b_q_TextWriter_putCharacters 4 = .ok (.istore 6, 2) := by decide +kernel
theorem d_q_TextWriter_putCharacters_6 : decode b_q_TextWriter_putCharacters 6 = .ok (.iconst 0, 1) := by decide +kernel
theorem d_q_TextWriter_putCharacters_7 : decode b_q_TextWriter_putCharacters 7 = .ok (.istore 7, 2) := by decide +kernel
theorem d_q_TextWriter_putCharacters_9 : decode b_q_TextWriter_putCharacters 9 = .ok (.iload 7, 2) := by decide +kernel
theorem d_q_TextWriter_putCharacters_11 : decode b_q_TextWriter_putCharacters 11 = .ok (.iload 4, 2) := by decide +kernel
theorem d_q_TextWriter_putCharacters_13 : decode b_q_TextWriter_putCharacters 13 = .ok (.if_icmp .ge 67, 3) := by decide +kernel
theorem d_q_TextWriter_putCharacters_16 : decode b_q_TextWriter_putCharacters 16 = .ok (.iload 5, 2) := by decide +kernel
theorem d_q_TextWriter_putCharacters_18 : decode b_q_TextWriter_putCharacters 18 = .ok (.aload_n 2, 1) := by decide +kernel
theorem d_q_TextWriter_putCharacters_19 : decode b_q_TextWriter_putCharacters 19 = .ok (.getfield 54, 3) := by decide +kernel
theorem d_q_TextWriter_putCharacters_22 : decode b_q_TextWriter_putCharacters 22 = .ok (.imul, 1) := by decide +kernel
theorem d_q_TextWriter_putCharacters_23 : decode b_q_TextWriter_putCharacters 23 = .ok (.aload_n 2, 1) := by decide +kernel
theorem d_q_TextWriter_putCharacters_24 : decode b_q_TextWriter_putCharacters 24 = .ok (.aload_n 3, 1) := by decide +kernel
theorem d_q_TextWriter_putCharacters_25 : decode b_q_TextWriter_putCharacters 25 = .ok (.iload 7, 2) := by decide +kernel
theorem d_q_TextWriter_putCharacters_27 : decode b_q_TextWriter_putCharacters 27 = .ok (.caload, 1) := by decide +kernel
theorem d_q_TextWriter_putCharacters_28 : decode b_q_TextWriter_putCharacters 28 = .ok (.invokevirtual 57, 3) := by decide +kernel
theorem d_q_TextWriter_putCharacters_31 : decode b_q_TextWriter_putCharacters 31 = .ok (.iadd, 1) := by decide +kernel
theorem d_q_TextWriter_putCharacters_32 : decode b_q_TextWriter_putCharacters 32 = .ok (.istore 5, 2) := by decide +kernel
theorem d_q_TextWriter_putCharacters_34 : decode b_q_TextWriter_putCharacters 34 = .ok (.iinc 6 1, 3) := by decide +kernel
theorem d_q_TextWriter_putCharacters_37 : decode b_q_TextWriter_putCharacters 37 = .ok (.iload 6, 2) := by decide +kernel
theorem d_q_TextWriter_putCharacters_39 : decode b_q_TextWriter_putCharacters 39 = .ok (.aload_n 2, 1) := by decide +kernel
theorem d_q_TextWriter_putCharacters_40 : decode b_q_TextWriter_putCharacters 40 = .ok (.getfield 61, 3) := by decide +kernel
theorem d_q_TextWriter_putCharacters_43 : decode b_q_TextWriter_putCharacters 43 = .ok (.if_icmp .eq 12, 3) := by decide +kernel
theorem d_q_TextWriter_putCharacters_46 : decode b_q_TextWriter_putCharacters 46 = .ok (.iload 7, 2) := by decide +kernel
theorem d_q_TextWriter_putCharacters_48 : decode b_q_TextWriter_putCharacters 48 = .ok (.iload 4, 2) := by decide +kernel
theorem d_q_TextWriter_putCharacters_50 : decode b_q_TextWriter_putCharacters 50 = .ok (.iconst 1, 1) := by decide +kernel
theorem d_q_TextWriter_putCharacters_51 : decode b_q_TextWriter_putCharacters 51 = .ok (.isub, 1) := by decide +kernel
theorem d_q_TextWriter_putCharacters_52 : decode b_q_TextWriter_putCharacters 52 = .ok (.if_icmp .ne 22, 3) := by decide +kernel
theorem d_q_TextWriter_putCharacters_55 : decode b_q_TextWriter_putCharacters 55 = .ok (.aload_n 0, 1) := by decide +kernel
theorem d_q_TextWriter_putCharacters_56 : decode b_q_TextWriter_putCharacters 56 = .ok (.aload_n 1, 1) := by decide +kernel
theorem d_q_TextWriter_putCharacters_57 : decode b_q_TextWriter_putCharacters 57 = .ok (.iload 5, 2) := by decide +kernel
theorem d_q_TextWriter_putCharacters_59 : decode b_q_TextWriter_putCharacters 59 = .ok (.aload_n 2, 1) := by decide +kernel
theorem d_q_TextWriter_putCharacters_60 : decode b_q_TextWriter_putCharacters 60 = .ok (.iload 6, 2) := by decide +kernel
theorem d_q_TextWriter_putCharacters_62 : decode b_q_TextWriter_putCharacters 62 = .ok (.invokevirtual 64, 3) := by decide +kernel
theorem d_q_TextWriter_putCharacters_65 : decode b_q_TextWriter_putCharacters 65 = .ok (.invokevirtual 34, 3) := by decide +kernel
theorem d_q_TextWriter_putCharacters_68 : decode b_q_TextWriter_putCharacters 68 = .ok (.iconst 0, 1) := by decide +kernel
theorem d_q_TextWriter_putCharacters_69 : decode b_q_TextWriter_putCharacters 69 = .ok (.istore 5, 2) := by decide +kernel
theorem d_q_TextWriter_putCharacters_71 : decode b_q_TextWriter_putCharacters 71 = .ok (.iconst 0, 1) := by decide +kernel
theorem d_q_TextWriter_putCharacters_72 : decode b_q_TextWriter_putCharacters 72 = .ok (.istore 6, 2) := by decide +kernel
theorem d_q_TextWriter_putCharacters_74 : decode b_q_TextWriter_putCharacters 74 = .ok (.iinc 7 1, 3) := by decide +kernel
theorem d_q_TextWriter_putCharacters_77 : decode b_q_TextWriter_putCharacters 77 = .ok (.goto (-68), 3) := by decide +kernel
theorem d_q_TextWriter_putCharacters_80 : decode b_q_TextWriter_putCharacters 80 = .ok (.return_, 1) := by decide +kernel
end
section
variable {p : Program} {l : Launch} {e : Env} {R : Room} {s : State} {m : MethodId} {args : Array Value} {below : List Frame} {meth : Method} {c : Code} {cells slots : Nat} {Q : State → Prop} {A : Nat → Prop} {H0 : Heap} {D : va_G}
set_option maxHeartbeats 1000000 in
set_option maxRecDepth 100000 in
theorem lp_q_TextWriter_putCharacters_0_9 (cI cC : ClassId) (sa : Nat → Nat) (tw us ba qt n : Nat) (bt ty : Nat → Nat) (hn0 : n ≤ 45) (hty : ∀ j, j < n → ty j < 127) (hall : ∀ j, j < n → (0 ≤ plI (ty j) ∧ plI (ty j) ≤ nI 9)) (hm : us + bfN 1 n ≤ 208) (S : CallFix p m c b_q_TextWriter_putCharacters 8 s args (cd_q_TextWriter_putCharacters :: WS) R_TextWriter) (hRf : 5 ≤ R.frames) (hRl : 113 ≤ R.locals) (hRc : cells ≤ R.cells ∧ slots ≤ R.slots) (hK : va_K D classes [(cI, .int), (cC, .char)] s) (hA : ∀ q, s.heap.size ≤ q → A q) (hSt : SB sa A s s.heap) (kx : ∀ (ls : Array Slot) (H : Heap) (locs : List Loc), lv_has ls 8 [(0, .ref tw), (1, .ref ba), (2, .ref (sa 7)), (3, .ref qt), (4, .int (nI n)), (5, .int (nI ((pcS 1 ty n us bt n).1))), (6, .int (nI ((pcS 1 ty n us bt n).2.1))), (7, .int (nI n))] → va_P D classes [(tw, .inr (6, [.int (nI ((pcS 1 ty n us bt n).2.2.1))])), (ba, .inl (cI, 26, .inl (fun j => nI (((pcS 1 ty n us bt n).2.2.2) j)))), (qt, .inl (cC, 45, .inl (fun j => nI (ty j))))] H → va_D A [(tw, .inr (6, [.int (nI ((pcS 1 ty n us bt n).2.2.1))])), (ba, .inl (cI, 26, .inl (fun j => nI (((pcS 1 ty n us bt n).2.2.2) j)))), (qt, .inl (cC, 45, .inl (fun j => nI (ty j))))] → va_S A s.heap H locs → W p l e R s m args below meth c H locs cells slots Q (F0 m 80 ls [])) :
    ∀ k, k ≤ n → ∀ (ls : Array Slot) (H : Heap) (locs : List Loc), lv_has ls 8 [(0, .ref tw), (1, .ref ba), (2, .ref (sa 7)), (3, .ref qt), (4, .int (nI n)), (5, .int (nI ((pcS 1 ty n us bt k).1))), (6, .int (nI ((pcS 1 ty n us bt k).2.1))), (7, .int (nI k))] → va_P D classes [(tw, .inr (6, [.int (nI ((pcS 1 ty n us bt k).2.2.1))])), (ba, .inl (cI, 26, .inl (fun j => nI (((pcS 1 ty n us bt k).2.2.2) j)))), (qt, .inl (cC, 45, .inl (fun j => nI (ty j))))] H → va_D A [(tw, .inr (6, [.int (nI ((pcS 1 ty n us bt k).2.2.1))])), (ba, .inl (cI, 26, .inl (fun j => nI (((pcS 1 ty n us bt k).2.2.2) j)))), (qt, .inl (cC, 45, .inl (fun j => nI (ty j))))] → va_S A s.heap H locs → W p l e R s m args below meth c H locs cells slots Q (F0 m 9 ls []) := by
  obtain ⟨hx, hb, hml, hown, hts⟩ := id S
  refine up_loop (fun k hkk ih => ?_)
  intro ls H locs hl hP hD hS
  refine lv_iload hx hb d_q_TextWriter_putCharacters_9 (lv_at hl 7 rfl) ?_
  refine lv_iload hx hb d_q_TextWriter_putCharacters_11 (lv_at hl 4 rfl) ?_
  refine n_icmp_ge hx hb d_q_TextWriter_putCharacters_13 (tgt := 80) rfl (by omega) (by omega) (fun g13 => ?_) (fun g13 => ?_)
  · skip
    obtain rfl : k = n := by omega
    exact kx ls H locs (lv_sub hl [0, 1, 2, 3, 4, 5, 6, 7] rfl) hP hD hS
  · skip
    obtain ⟨hs1, hs2, hs3⟩ := pc_step (kd := 1) (us := us) (y := bt) (Or.inl rfl) (fun j hj => (vc0_cv (ty j) (hty j hj) (hall j hj).1 (hall j hj).2).2) (show k < n by omega)
    have hs1 : (pcS 1 ty n us bt k).2.1 + 1 ≤ 3 := hs1
    refine lv_iload hx hb d_q_TextWriter_putCharacters_16 (lv_at hl 5 rfl) ?_
    refine lv_aload_n hx hb d_q_TextWriter_putCharacters_18 rfl (lv_at hl 2 rfl) ?_
    refine n_kgetN hx hb (kf_0_base hSt) hS hown hSt.2.1.2.2.2.2.2.1 d_q_TextWriter_putCharacters_19 ?_
    refine n_imul hx hb d_q_TextWriter_putCharacters_22 ?_
    refine lv_aload_n hx hb d_q_TextWriter_putCharacters_23 rfl (lv_at hl 2 rfl) ?_
    refine lv_aload_n hx hb d_q_TextWriter_putCharacters_24 rfl (lv_at hl 3 rfl) ?_
    refine lv_iload hx hb d_q_TextWriter_putCharacters_25 (lv_at hl 7 rfl) ?_
    refine n_cald hx hb hK hP 2 1 rfl rfl (by omega) (by decide) d_q_TextWriter_putCharacters_27 ?_
    refine q_readVr (n := 1) (As := [.int (nI (ty k))]) (rest := [.int (nI (((pcS 1 ty n us bt k).1) * 10))]) (wc := []) S (c_q_Kind_valueOfCharacter_0 l D cI cC sa (ty k) (hty k (by omega))) hSt hK hP (o_recv (ko_0 hSt) hS) [] rfl (q_goodV kw_502 kw_393 kw_394 kw_16 kw_395) (by decide +kernel) rfl rfl rfl ⟨Nat.le_trans (Nat.le_of_ble_eq_true rfl) hRf, Nat.le_trans (Nat.le_of_ble_eq_true rfl) hRl⟩ rfl hl.1 rfl (Nat.le_of_ble_eq_true rfl) d_q_TextWriter_putCharacters_28 hRc hS (fun H locs hP hS => ?_)
    refine n_top (show (vc0 (ty k)) = (nI (cvN 1 (ty k))) from (vc0_cv (ty k) (hty k (by omega)) (hall k (by omega)).1 (hall k (by omega)).2).1) ?_
    refine n_iadd hx hb d_q_TextWriter_putCharacters_31 ?_
    refine lv_istore hx hb d_q_TextWriter_putCharacters_32 hl (Nat.le_of_ble_eq_true rfl) rfl (fun ls hl => ?_)
    have hl : lv_has ls 8 [(5, .int (nI ((((pcS 1 ty n us bt k).1) * 10) + (cvN 1 (ty k))))), (0, .ref tw), (1, .ref ba), (2, .ref (sa 7)), (3, .ref qt), (4, .int (nI n)), (6, .int (nI ((pcS 1 ty n us bt k).2.1))), (7, .int (nI k))] := hl
    refine lv_iinc (k := 6) (v := nI ((pcS 1 ty n us bt k).2.1 + 1)) hx hb d_q_TextWriter_putCharacters_34 hl rfl (nx_inc ((pcS 1 ty n us bt k).2.1) 1) (Nat.le_of_ble_eq_true rfl) rfl (fun ls hl => ?_)
    have hl : lv_has ls 8 [(6, .int (nI ((pcS 1 ty n us bt k).2.1 + 1))), (5, .int (nI ((((pcS 1 ty n us bt k).1) * 10) + (cvN 1 (ty k))))), (0, .ref tw), (1, .ref ba), (2, .ref (sa 7)), (3, .ref qt), (4, .int (nI n)), (7, .int (nI k))] := hl
    refine lv_iload hx hb d_q_TextWriter_putCharacters_37 (lv_at hl 0 rfl) ?_
    refine lv_aload_n hx hb d_q_TextWriter_putCharacters_39 rfl (lv_at hl 4 rfl) ?_
    refine n_kgetN hx hb (kf_0_group hSt) hS hown hSt.2.1.2.2.2.2.2.2 d_q_TextWriter_putCharacters_40 ?_
    refine n_icmp_eq hx hb d_q_TextWriter_putCharacters_43 (tgt := 55) rfl (by omega) (by omega) (fun g43 => ?_) (fun g43 => ?_)
    · skip
      refine lv_aload_n hx hb d_q_TextWriter_putCharacters_55 rfl (lv_at hl 2 rfl) ?_
      refine lv_aload_n hx hb d_q_TextWriter_putCharacters_56 rfl (lv_at hl 3 rfl) ?_
      refine lv_iload hx hb d_q_TextWriter_putCharacters_57 (lv_at hl 1 rfl) ?_
      refine lv_aload_n hx hb d_q_TextWriter_putCharacters_59 rfl (lv_at hl 4 rfl) ?_
      refine lv_iload hx hb d_q_TextWriter_putCharacters_60 (lv_at hl 0 rfl) ?_
      refine q_readVr (n := 1) (As := [.int (nI ((pcS 1 ty n us bt k).2.1 + 1))]) (rest := [.int (nI ((((pcS 1 ty n us bt k).1) * 10) + (cvN 1 (ty k)))), .ref ba, .ref tw]) (wc := []) S (c_q_Kind_groupBits_0 l D cI cC sa ((pcS 1 ty n us bt k).2.1 + 1) (by omega) (by omega)) hSt hK hP (o_recv (ko_0 hSt) hS) [] rfl (q_goodV kw_503 kw_490 kw_491 kw_16 kw_492) (by decide +kernel) rfl rfl rfl ⟨Nat.le_trans (Nat.le_of_ble_eq_true rfl) hRf, Nat.le_trans (Nat.le_of_ble_eq_true rfl) hRl⟩ rfl hl.1 rfl (Nat.le_of_ble_eq_true rfl) d_q_TextWriter_putCharacters_62 hRc hS (fun H locs hP hS => ?_)
      refine q_writeVv (n := 3) (As := [.ref ba, .int (nI ((((pcS 1 ty n us bt k).1) * 10) + (cvN 1 (ty k)))), .int (nI (gsz 1 ((pcS 1 ty n us bt k).2.1 + 1)))]) (rest := []) (wc := [(tw, .inr (6, [.int (nI ((pcS 1 ty n us bt k).2.2.1))])), (ba, .inl (cI, 26, .inl (fun j => nI (((pcS 1 ty n us bt k).2.2.2) j))))]) (wr := [(qt, .inl (cC, 45, .inl (fun j => nI (ty j))))]) (w1 := [(tw, .inr (6, [.int (nI (((pcS 1 ty n us bt k).2.2.1) + (gsz 1 ((pcS 1 ty n us bt k).2.1 + 1))))])), (ba, .inl (cI, 26, .inl (fun j => nI ((ptC ((pcS 1 ty n us bt k).2.2.2) ((pcS 1 ty n us bt k).2.2.1) ((((pcS 1 ty n us bt k).1) * 10) + (cvN 1 (ty k))) (gsz 1 ((pcS 1 ty n us bt k).2.1 + 1)) (gsz 1 ((pcS 1 ty n us bt k).2.1 + 1))) j))))]) S (c_q_TextWriter_put l D cI cC tw ((pcS 1 ty n us bt k).2.2.1) ba ((((pcS 1 ty n us bt k).1) * 10) + (cvN 1 (ty k))) (gsz 1 ((pcS 1 ty n us bt k).2.1 + 1)) ((pcS 1 ty n us bt k).2.2.2) hs2 (Nat.le_trans (gsz_le _ _) (by decide)) (Nat.le_trans (hs3 (by first | exact Or.inl g43 | exact Or.inr g52)) hm) H.size) hK hP hD hA (q0 := 0) rfl rfl [0, 1] [2] rfl rfl rfl rfl (by decide) rfl (q_goodV kw_494 kw_496 ks_5 kw_6 kw_497) (by decide +kernel) rfl rfl rfl ⟨Nat.le_trans (Nat.le_of_ble_eq_true rfl) hRf, Nat.le_trans (Nat.le_of_ble_eq_true rfl) hRl⟩ rfl hl.1 rfl (Nat.le_of_ble_eq_true rfl) d_q_TextWriter_putCharacters_65 hRc hS (fun H locs hP hD hS => ?_)
      replace hP : va_P D classes [(tw, .inr (6, [.int (nI (((pcS 1 ty n us bt k).2.2.1) + (gsz 1 ((pcS 1 ty n us bt k).2.1 + 1))))])), (ba, .inl (cI, 26, .inl (fun j => nI ((ptC ((pcS 1 ty n us bt k).2.2.2) ((pcS 1 ty n us bt k).2.2.1) ((((pcS 1 ty n us bt k).1) * 10) + (cvN 1 (ty k))) (gsz 1 ((pcS 1 ty n us bt k).2.1 + 1)) (gsz 1 ((pcS 1 ty n us bt k).2.1 + 1))) j)))), (qt, .inl (cC, 45, .inl (fun j => nI (ty j))))] H := hP.sub [1, 2, 0] rfl
      replace hD : va_D A [(tw, .inr (6, [.int (nI (((pcS 1 ty n us bt k).2.2.1) + (gsz 1 ((pcS 1 ty n us bt k).2.1 + 1))))])), (ba, .inl (cI, 26, .inl (fun j => nI ((ptC ((pcS 1 ty n us bt k).2.2.2) ((pcS 1 ty n us bt k).2.2.1) ((((pcS 1 ty n us bt k).1) * 10) + (cvN 1 (ty k))) (gsz 1 ((pcS 1 ty n us bt k).2.1 + 1)) (gsz 1 ((pcS 1 ty n us bt k).2.1 + 1))) j)))), (qt, .inl (cC, 45, .inl (fun j => nI (ty j))))] := hD.sub [1, 2, 0] rfl rfl
      refine lv_iconst (v := nI 0) hx hb d_q_TextWriter_putCharacters_68 (by decide) ?_
      refine lv_istore hx hb d_q_TextWriter_putCharacters_69 hl (Nat.le_of_ble_eq_true rfl) rfl (fun ls hl => ?_)
      have hl : lv_has ls 8 [(5, .int (nI 0)), (6, .int (nI ((pcS 1 ty n us bt k).2.1 + 1))), (0, .ref tw), (1, .ref ba), (2, .ref (sa 7)), (3, .ref qt), (4, .int (nI n)), (7, .int (nI k))] := hl
      refine lv_iconst (v := nI 0) hx hb d_q_TextWriter_putCharacters_71 (by decide) ?_
      refine lv_istore hx hb d_q_TextWriter_putCharacters_72 hl (Nat.le_of_ble_eq_true rfl) rfl (fun ls hl => ?_)
      have hl : lv_has ls 8 [(6, .int (nI 0)), (5, .int (nI 0)), (0, .ref tw), (1, .ref ba), (2, .ref (sa 7)), (3, .ref qt), (4, .int (nI n)), (7, .int (nI k))] := hl
      have hpq := pcS_t (kd := 1) (t := ty) (n := n) (us := us) (y := bt) (k := k) (by first | exact Or.inl g43 | exact Or.inr g52)
      have hl : lv_has ls 8 [(6, .int (nI ((pcS 1 ty n us bt (k + 1)).2.1))), (5, .int (nI ((pcS 1 ty n us bt (k + 1)).1))), (0, .ref tw), (1, .ref ba), (2, .ref (sa 7)), (3, .ref qt), (4, .int (nI n)), (7, .int (nI k))] := lv_re hl (by rw [hpq] <;> rfl)
      have hP : va_P D classes [(tw, .inr (6, [.int (nI ((pcS 1 ty n us bt (k + 1)).2.2.1))])), (ba, .inl (cI, 26, .inl (fun j => nI (((pcS 1 ty n us bt (k + 1)).2.2.2) j)))), (qt, .inl (cC, 45, .inl (fun j => nI (ty j))))] H := by rw [hpq]; exact hP
      have hD : va_D A [(tw, .inr (6, [.int (nI ((pcS 1 ty n us bt (k + 1)).2.2.1))])), (ba, .inl (cI, 26, .inl (fun j => nI (((pcS 1 ty n us bt (k + 1)).2.2.2) j)))), (qt, .inl (cC, 45, .inl (fun j => nI (ty j))))] := by rw [hpq]; exact hD
      refine lv_iinc (k := 7) (v := nI (k + 1)) hx hb d_q_TextWriter_putCharacters_74 hl rfl (nx_inc k 1) (Nat.le_of_ble_eq_true rfl) rfl (fun ls hl => ?_)
      have hl : lv_has ls 8 [(7, .int (nI (k + 1))), (6, .int (nI ((pcS 1 ty n us bt (k + 1)).2.1))), (5, .int (nI ((pcS 1 ty n us bt (k + 1)).1))), (0, .ref tw), (1, .ref ba), (2, .ref (sa 7)), (3, .ref qt), (4, .int (nI n))] := hl
      refine lv_goto hx hb d_q_TextWriter_putCharacters_77 (tgt := 9) rfl ?_
      exact ih (by omega) ls H locs (lv_sub hl [3, 4, 5, 6, 7, 2, 1, 0] rfl) hP hD hS
    · skip
      refine lv_iload hx hb d_q_TextWriter_putCharacters_46 (lv_at hl 7 rfl) ?_
      refine lv_iload hx hb d_q_TextWriter_putCharacters_48 (lv_at hl 6 rfl) ?_
      refine lv_iconst (v := nI 1) hx hb d_q_TextWriter_putCharacters_50 (by decide) ?_
      refine n_isub hx hb d_q_TextWriter_putCharacters_51 (by omega) ?_
      refine n_icmp_ne hx hb d_q_TextWriter_putCharacters_52 (tgt := 74) rfl (by omega) (by omega) (fun g52 => ?_) (fun g52 => ?_)
      · skip
        have hpq := pcS_f (kd := 1) (t := ty) (n := n) (us := us) (y := bt) (k := k) g43 g52
        have hl : lv_has ls 8 [(6, .int (nI ((pcS 1 ty n us bt (k + 1)).2.1))), (5, .int (nI ((pcS 1 ty n us bt (k + 1)).1))), (0, .ref tw), (1, .ref ba), (2, .ref (sa 7)), (3, .ref qt), (4, .int (nI n)), (7, .int (nI k))] := lv_re hl (by rw [hpq] <;> rfl)
        have hP : va_P D classes [(tw, .inr (6, [.int (nI ((pcS 1 ty n us bt (k + 1)).2.2.1))])), (ba, .inl (cI, 26, .inl (fun j => nI (((pcS 1 ty n us bt (k + 1)).2.2.2) j)))), (qt, .inl (cC, 45, .inl (fun j => nI (ty j))))] H := by rw [hpq]; exact hP
        have hD : va_D A [(tw, .inr (6, [.int (nI ((pcS 1 ty n us bt (k + 1)).2.2.1))])), (ba, .inl (cI, 26, .inl (fun j => nI (((pcS 1 ty n us bt (k + 1)).2.2.2) j)))), (qt, .inl (cC, 45, .inl (fun j => nI (ty j))))] := by rw [hpq]; exact hD
        refine lv_iinc (k := 7) (v := nI (k + 1)) hx hb d_q_TextWriter_putCharacters_74 hl rfl (nx_inc k 1) (Nat.le_of_ble_eq_true rfl) rfl (fun ls hl => ?_)
        have hl : lv_has ls 8 [(7, .int (nI (k + 1))), (6, .int (nI ((pcS 1 ty n us bt (k + 1)).2.1))), (5, .int (nI ((pcS 1 ty n us bt (k + 1)).1))), (0, .ref tw), (1, .ref ba), (2, .ref (sa 7)), (3, .ref qt), (4, .int (nI n))] := hl
        refine lv_goto hx hb d_q_TextWriter_putCharacters_77 (tgt := 9) rfl ?_
        exact ih (by omega) ls H locs (lv_sub hl [3, 4, 5, 6, 7, 2, 1, 0] rfl) hP hD hS
      · skip
        refine lv_aload_n hx hb d_q_TextWriter_putCharacters_55 rfl (lv_at hl 2 rfl) ?_
        refine lv_aload_n hx hb d_q_TextWriter_putCharacters_56 rfl (lv_at hl 3 rfl) ?_
        refine lv_iload hx hb d_q_TextWriter_putCharacters_57 (lv_at hl 1 rfl) ?_
        refine lv_aload_n hx hb d_q_TextWriter_putCharacters_59 rfl (lv_at hl 4 rfl) ?_
        refine lv_iload hx hb d_q_TextWriter_putCharacters_60 (lv_at hl 0 rfl) ?_
        refine q_readVr (n := 1) (As := [.int (nI ((pcS 1 ty n us bt k).2.1 + 1))]) (rest := [.int (nI ((((pcS 1 ty n us bt k).1) * 10) + (cvN 1 (ty k)))), .ref ba, .ref tw]) (wc := []) S (c_q_Kind_groupBits_0 l D cI cC sa ((pcS 1 ty n us bt k).2.1 + 1) (by omega) (by omega)) hSt hK hP (o_recv (ko_0 hSt) hS) [] rfl (q_goodV kw_503 kw_490 kw_491 kw_16 kw_492) (by decide +kernel) rfl rfl rfl ⟨Nat.le_trans (Nat.le_of_ble_eq_true rfl) hRf, Nat.le_trans (Nat.le_of_ble_eq_true rfl) hRl⟩ rfl hl.1 rfl (Nat.le_of_ble_eq_true rfl) d_q_TextWriter_putCharacters_62 hRc hS (fun H locs hP hS => ?_)
        refine q_writeVv (n := 3) (As := [.ref ba, .int (nI ((((pcS 1 ty n us bt k).1) * 10) + (cvN 1 (ty k)))), .int (nI (gsz 1 ((pcS 1 ty n us bt k).2.1 + 1)))]) (rest := []) (wc := [(tw, .inr (6, [.int (nI ((pcS 1 ty n us bt k).2.2.1))])), (ba, .inl (cI, 26, .inl (fun j => nI (((pcS 1 ty n us bt k).2.2.2) j))))]) (wr := [(qt, .inl (cC, 45, .inl (fun j => nI (ty j))))]) (w1 := [(tw, .inr (6, [.int (nI (((pcS 1 ty n us bt k).2.2.1) + (gsz 1 ((pcS 1 ty n us bt k).2.1 + 1))))])), (ba, .inl (cI, 26, .inl (fun j => nI ((ptC ((pcS 1 ty n us bt k).2.2.2) ((pcS 1 ty n us bt k).2.2.1) ((((pcS 1 ty n us bt k).1) * 10) + (cvN 1 (ty k))) (gsz 1 ((pcS 1 ty n us bt k).2.1 + 1)) (gsz 1 ((pcS 1 ty n us bt k).2.1 + 1))) j))))]) S (c_q_TextWriter_put l D cI cC tw ((pcS 1 ty n us bt k).2.2.1) ba ((((pcS 1 ty n us bt k).1) * 10) + (cvN 1 (ty k))) (gsz 1 ((pcS 1 ty n us bt k).2.1 + 1)) ((pcS 1 ty n us bt k).2.2.2) hs2 (Nat.le_trans (gsz_le _ _) (by decide)) (Nat.le_trans (hs3 (by first | exact Or.inl g43 | exact Or.inr g52)) hm) H.size) hK hP hD hA (q0 := 0) rfl rfl [0, 1] [2] rfl rfl rfl rfl (by decide) rfl (q_goodV kw_494 kw_496 ks_5 kw_6 kw_497) (by decide +kernel) rfl rfl rfl ⟨Nat.le_trans (Nat.le_of_ble_eq_true rfl) hRf, Nat.le_trans (Nat.le_of_ble_eq_true rfl) hRl⟩ rfl hl.1 rfl (Nat.le_of_ble_eq_true rfl) d_q_TextWriter_putCharacters_65 hRc hS (fun H locs hP hD hS => ?_)
        replace hP : va_P D classes [(tw, .inr (6, [.int (nI (((pcS 1 ty n us bt k).2.2.1) + (gsz 1 ((pcS 1 ty n us bt k).2.1 + 1))))])), (ba, .inl (cI, 26, .inl (fun j => nI ((ptC ((pcS 1 ty n us bt k).2.2.2) ((pcS 1 ty n us bt k).2.2.1) ((((pcS 1 ty n us bt k).1) * 10) + (cvN 1 (ty k))) (gsz 1 ((pcS 1 ty n us bt k).2.1 + 1)) (gsz 1 ((pcS 1 ty n us bt k).2.1 + 1))) j)))), (qt, .inl (cC, 45, .inl (fun j => nI (ty j))))] H := hP.sub [1, 2, 0] rfl
        replace hD : va_D A [(tw, .inr (6, [.int (nI (((pcS 1 ty n us bt k).2.2.1) + (gsz 1 ((pcS 1 ty n us bt k).2.1 + 1))))])), (ba, .inl (cI, 26, .inl (fun j => nI ((ptC ((pcS 1 ty n us bt k).2.2.2) ((pcS 1 ty n us bt k).2.2.1) ((((pcS 1 ty n us bt k).1) * 10) + (cvN 1 (ty k))) (gsz 1 ((pcS 1 ty n us bt k).2.1 + 1)) (gsz 1 ((pcS 1 ty n us bt k).2.1 + 1))) j)))), (qt, .inl (cC, 45, .inl (fun j => nI (ty j))))] := hD.sub [1, 2, 0] rfl rfl
        refine lv_iconst (v := nI 0) hx hb d_q_TextWriter_putCharacters_68 (by decide) ?_
        refine lv_istore hx hb d_q_TextWriter_putCharacters_69 hl (Nat.le_of_ble_eq_true rfl) rfl (fun ls hl => ?_)
        have hl : lv_has ls 8 [(5, .int (nI 0)), (6, .int (nI ((pcS 1 ty n us bt k).2.1 + 1))), (0, .ref tw), (1, .ref ba), (2, .ref (sa 7)), (3, .ref qt), (4, .int (nI n)), (7, .int (nI k))] := hl
        refine lv_iconst (v := nI 0) hx hb d_q_TextWriter_putCharacters_71 (by decide) ?_
        refine lv_istore hx hb d_q_TextWriter_putCharacters_72 hl (Nat.le_of_ble_eq_true rfl) rfl (fun ls hl => ?_)
        have hl : lv_has ls 8 [(6, .int (nI 0)), (5, .int (nI 0)), (0, .ref tw), (1, .ref ba), (2, .ref (sa 7)), (3, .ref qt), (4, .int (nI n)), (7, .int (nI k))] := hl
        have hpq := pcS_t (kd := 1) (t := ty) (n := n) (us := us) (y := bt) (k := k) (by first | exact Or.inl g43 | exact Or.inr g52)
        have hl : lv_has ls 8 [(6, .int (nI ((pcS 1 ty n us bt (k + 1)).2.1))), (5, .int (nI ((pcS 1 ty n us bt (k + 1)).1))), (0, .ref tw), (1, .ref ba), (2, .ref (sa 7)), (3, .ref qt), (4, .int (nI n)), (7, .int (nI k))] := lv_re hl (by rw [hpq] <;> rfl)
        have hP : va_P D classes [(tw, .inr (6, [.int (nI ((pcS 1 ty n us bt (k + 1)).2.2.1))])), (ba, .inl (cI, 26, .inl (fun j => nI (((pcS 1 ty n us bt (k + 1)).2.2.2) j)))), (qt, .inl (cC, 45, .inl (fun j => nI (ty j))))] H := by rw [hpq]; exact hP
        have hD : va_D A [(tw, .inr (6, [.int (nI ((pcS 1 ty n us bt (k + 1)).2.2.1))])), (ba, .inl (cI, 26, .inl (fun j => nI (((pcS 1 ty n us bt (k + 1)).2.2.2) j)))), (qt, .inl (cC, 45, .inl (fun j => nI (ty j))))] := by rw [hpq]; exact hD
        refine lv_iinc (k := 7) (v := nI (k + 1)) hx hb d_q_TextWriter_putCharacters_74 hl rfl (nx_inc k 1) (Nat.le_of_ble_eq_true rfl) rfl (fun ls hl => ?_)
        have hl : lv_has ls 8 [(7, .int (nI (k + 1))), (6, .int (nI ((pcS 1 ty n us bt (k + 1)).2.1))), (5, .int (nI ((pcS 1 ty n us bt (k + 1)).1))), (0, .ref tw), (1, .ref ba), (2, .ref (sa 7)), (3, .ref qt), (4, .int (nI n))] := hl
        refine lv_goto hx hb d_q_TextWriter_putCharacters_77 (tgt := 9) rfl ?_
        exact ih (by omega) ls H locs (lv_sub hl [3, 4, 5, 6, 7, 2, 1, 0] rfl) hP hD hS
set_option maxHeartbeats 1000000 in
set_option maxRecDepth 100000 in
theorem bd_q_TextWriter_putCharacters_0 (cI cC : ClassId) (sa : Nat → Nat) (tw us ba qt n : Nat) (bt ty : Nat → Nat) (hn0 : n ≤ 45) (hty : ∀ j, j < n → ty j < 127) (hall : ∀ j, j < n → (0 ≤ plI (ty j) ∧ plI (ty j) ≤ nI 9)) (hm : us + bfN 1 n ≤ 208) (S : CallFix p m c b_q_TextWriter_putCharacters 8 s args (cd_q_TextWriter_putCharacters :: WS) R_TextWriter) (hRf : 5 ≤ R.frames) (hRl : 113 ≤ R.locals) (hRc : cells ≤ R.cells ∧ slots ≤ R.slots) (hK : va_K D classes [(cI, .int), (cC, .char)] s) (hA : ∀ q, s.heap.size ≤ q → A q) (hSt : SB sa A s s.heap) (kr : ∀ (pc : Nat) (ls : Array Slot) (H : Heap) (locs : List Loc), decode b_q_TextWriter_putCharacters pc = .ok (.return_, 1) → va_P D classes [(tw, .inr (6, [.int (nI ((pcS 1 ty n us bt n).2.2.1))])), (ba, .inl (cI, 26, .inl (fun j => nI (((pcS 1 ty n us bt n).2.2.2) j)))), (qt, .inl (cC, 45, .inl (fun j => nI (ty j))))] H → va_D A [(tw, .inr (6, [.int (nI ((pcS 1 ty n us bt n).2.2.1))])), (ba, .inl (cI, 26, .inl (fun j => nI (((pcS 1 ty n us bt n).2.2.2) j)))), (qt, .inl (cC, 45, .inl (fun j => nI (ty j))))] → va_S A s.heap H locs → W p l e R s m args below meth c H locs cells slots Q (F0 m pc ls [])) : ∀ (ls : Array Slot) (H : Heap) (locs : List Loc), lv_has ls 8 [(0, .ref tw), (1, .ref ba), (2, .ref (sa 7)), (3, .ref qt), (4, .int (nI n))] → va_P D classes [(tw, .inr (6, [.int (nI us)])), (ba, .inl (cI, 26, .inl (fun j => nI (bt j)))), (qt, .inl (cC, 45, .inl (fun j => nI (ty j))))] H → va_D A [(tw, .inr (6, [.int (nI us)])), (ba, .inl (cI, 26, .inl (fun j => nI (bt j)))), (qt, .inl (cC, 45, .inl (fun j => nI (ty j))))] → va_S A s.heap H locs → W p l e R s m args below meth c H locs cells slots Q (F0 m 0 ls []) := by
  obtain ⟨hx, hb, hml, hown, hts⟩ := id S
  intro ls H locs hl hP hD hS
  refine lv_iconst (v := nI 0) hx hb d_q_TextWriter_putCharacters_0 (by decide) ?_
  refine lv_istore hx hb d_q_TextWriter_putCharacters_1 hl (Nat.le_of_ble_eq_true rfl) rfl (fun ls hl => ?_)
  have hl : lv_has ls 8 [(5, .int (nI 0)), (0, .ref tw), (1, .ref ba), (2, .ref (sa 7)), (3, .ref qt), (4, .int (nI n))] := hl
  refine lv_iconst (v := nI 0) hx hb d_q_TextWriter_putCharacters_3 (by decide) ?_
  refine lv_istore hx hb d_q_TextWriter_putCharacters_4 hl (Nat.le_of_ble_eq_true rfl) rfl (fun ls hl => ?_)
  have hl : lv_has ls 8 [(6, .int (nI 0)), (5, .int (nI 0)), (0, .ref tw), (1, .ref ba), (2, .ref (sa 7)), (3, .ref qt), (4, .int (nI n))] := hl
  refine lv_iconst (v := nI 0) hx hb d_q_TextWriter_putCharacters_6 (by decide) ?_
  refine lv_istore hx hb d_q_TextWriter_putCharacters_7 hl (Nat.le_of_ble_eq_true rfl) rfl (fun ls hl => ?_)
  have hl : lv_has ls 8 [(7, .int (nI 0)), (6, .int (nI 0)), (5, .int (nI 0)), (0, .ref tw), (1, .ref ba), (2, .ref (sa 7)), (3, .ref qt), (4, .int (nI n))] := hl
  refine lp_q_TextWriter_putCharacters_0_9 cI cC sa tw us ba qt n bt ty hn0 hty hall hm S hRf hRl hRc hK hA hSt  (fun ls H locs hl hP hD hS => ?_) 0 (by omega) ls H locs (lv_sub hl [3, 4, 5, 6, 7, 2, 1, 0] rfl) hP hD hS
  exact kr _ ls H locs d_q_TextWriter_putCharacters_80 hP hD hS
set_option maxHeartbeats 1000000 in
set_option maxRecDepth 100000 in
theorem c_q_TextWriter_putCharacters_0 (l : Launch) (D : va_G) (cI cC : ClassId) (sa : Nat → Nat) (tw us ba qt n : Nat) (bt ty : Nat → Nat) (hn0 : n ≤ 45) (hty : ∀ j, j < n → ty j < 127) (hall : ∀ j, j < n → (0 ≤ plI (ty j) ∧ plI (ty j) ≤ nI 9)) (hm : us + bfN 1 n ≤ 208) (sz : Nat) : Met l y_q_TextWriter_putCharacters (cd_q_TextWriter_putCharacters :: WS) { frames := 5, cells := 0, slots := 0, locals := 113 } (va_Pc [.ref tw, .ref ba, .ref (sa 7), .ref qt, .int (nI n)] (swP sa D [(tw, .inr (6, [.int (nI us)])), (ba, .inl (cI, 26, .inl (fun j => nI (bt j)))), (qt, .inl (cC, 45, .inl (fun j => nI (ty j))))] [(cI, .int), (cC, .char)] sz)) (wQv D [(tw, .inr (6, [.int (nI us)])), (ba, .inl (cI, 26, .inl (fun j => nI (bt j)))), (qt, .inl (cC, 45, .inl (fun j => nI (ty j))))] [(tw, .inr (6, [.int (nI ((pcS 1 ty n us bt n).2.2.1))])), (ba, .inl (cI, 26, .inl (fun j => nI (((pcS 1 ty n us bt n).2.2.2) j)))), (qt, .inl (cC, 45, .inl (fun j => nI (ty j))))] sz) 0 0 (va_A [(tw, .inr (6, [.int (nI us)])), (ba, .inl (cI, 26, .inl (fun j => nI (bt j)))), (qt, .inl (cC, 45, .inl (fun j => nI (ty j))))] sz) := by
  refine Met.ofW (cc := b_q_TextWriter_putCharacters) (maxL := 8) (ret := none) (by decide) rfl ?_
  intro p e s m args below meth c s₁ B hml hv0
  obtain ⟨rfl, ⟨hP, hK, hD0, hsz⟩, hSt⟩ := hv0
  have hts := atoms_spec (ws := cd_q_TextWriter_putCharacters :: WS) B.pre
  have hown : s.vm.findClass R_TextWriter = some m.cls := findClass_of_methodNamed B.named
  have hlocks := B.notSynchronized
  subst hsz
  have hD := hD0.self (sz := s.heap.size)
  have hl := lv_entry ([.ref tw, .ref ba, .ref (sa 7), .ref qt, .int (nI n)]) (n := 8) (Nat.le_of_ble_eq_true rfl)
  rw [lg_entry_eq]
  generalize (lg_sl ([.ref tw, .ref ba, .ref (sa 7), .ref qt, .int (nI n)]) ++ List.replicate (8 - (lg_sl ([.ref tw, .ref ba, .ref (sa 7), .ref qt, .int (nI n)])).length) Slot.unset).toArray = ls at hl ⊢
  refine bd_q_TextWriter_putCharacters_0 cI cC sa tw us ba qt n bt ty hn0 hty hall hm ⟨B.exec, B.bytes, hml, hown, hts⟩ (Nat.le_refl _) (Nat.le_refl _) ⟨Nat.le_refl _, Nat.le_refl _⟩ hK (fun q h => Or.inr h) hSt (fun pc ls H locs hd hP hD hS => ?_) ls _ _ hl hP hD (va_S.rf)
  exact W.vret B.exec B.bytes B.returns (fun t ht _ => ⟨⟨(), rfl, trivial, (by have h9 := hP; rw [← ht] at h9; exact h9)⟩, hS.F ht⟩) hS.2.2 hd
end
section
theorem d_q_TextWriter_fillData_0 : decode b_q_TextWriter_fillData 0 = .ok (.aload_n 1, 1) := by decide +kernel
theorem d_q_TextWriter_fillData_1 : decode b_q_TextWriter_fillData 1 = .ok (.iload_n 2, 1) := by decide +kernel
theorem d_q_TextWriter_fillData_2 : decode b_q_TextWriter_fillData 2 = .ok (.invokestatic 9, 3) := by decide +kernel
theorem d_q_TextWriter_fillData_5 : decode b_q_TextWriter_fillData 5 = .ok (.astore 5, 2) := by decide +kernel
theorem d_q_TextWriter_fillData_7 : decode b_q_TextWriter_fillData 7 = .ok (.aload 5, 2) := by decide +kernel
theorem d_q_TextWriter_fillData_9 : decode b_q_TextWriter_fillData 9 = .ok (.iload_n 2, 1) := by decide +kernel
theorem d_q_TextWriter_fillData_10 : decode b_q_TextWriter_fillData 10 = .ok (.invokevirtual 15, 3) := by decide +kernel
theorem d_q_TextWriter_fillData_13 : decode b_q_TextWriter_fillData 13 = .ok (.bipush 8, 2) := by decide +kernel
theorem d_q_TextWriter_fillData_15 : decode b_q_TextWriter_fillData 15 = .ok (.iload 4, 2) := by decide +kernel
theorem d_q_TextWriter_fillData_17 : decode b_q_TextWriter_fillData 17 = .ok (.imul, 1) := by decide +kernel
theorem d_q_TextWriter_fillData_18 : decode b_q_TextWriter_fillData 18 = .ok (.if_icmp .le 5, 3) := by decide +kernel
theorem d_q_TextWriter_fillData_21 : decode b_q_TextWriter_fillData 21 = .ok (.iconst 0, 1) := by decide +kernel
theorem d_q_TextWriter_fillData_22 : decode b_q_TextWriter_fillData 22 = .ok (.ireturn, 1) := by decide +kernel
theorem d_q_TextWriter_fillData_23 : decode b_q_TextWriter_fillData 23 = .ok (.aload_n 3, 1) := by decide +kernel
theorem d_q_TextWriter_fillData_24 : decode b_q_TextWriter_fillData 24 = .ok (.iconst 0, 1) := by decide +kernel
theorem d_q_TextWriter_fillData_25 : decode b_q_TextWriter_fillData 25 = .ok (.invokestatic 19, 3) := by decide +kernel
theorem d_q_TextWriter_fillData_28 : decode b_q_TextWriter_fillData 28 = .ok (.aload_n 0, 1) := by decide +kernel
theorem d_q_TextWriter_fillData_29 : decode b_q_TextWriter_fillData 29 = .ok (.iconst 0, 1) := by decide +kernel
theorem d_q_TextWriter_fillData_30 : decode b_q_TextWriter_fillData 30 = .ok (.putfield 25, 3) := by decide +kernel
theorem d_q_TextWriter_fillData_33 : decode b_q_TextWriter_fillData 33 = .ok (.aload_n 0, 1) := by decide +kernel
theorem d_q_TextWriter_fillData_34 : decode b_q_TextWriter_fillData 34 = .ok (.aload_n 3, 1) := by decide +kernel
theorem d_q_TextWriter_fillData_35 : decode b_q_TextWriter_fillData 35 = .ok (.aload 5, 2) := by decide +kernel
theorem d_q_TextWriter_fillData_37 : decode b_q_TextWriter_fillData 37 = .ok (.getfield 31, 3) := by decide +kernel
theorem d_q_TextWriter_fillData_40 : decode b_q_TextWriter_fillData 40 = .ok (.iconst 4, 1) := by decide +kernel
theorem d_q_TextWriter_fillData_41 : decode b_q_TextWriter_fillData 41 = .ok (.invokevirtual 34, 3) := by decide +kernel
theorem d_q_TextWriter_fillData_44 : decode b_q_TextWriter_fillData 44 = .ok (.aload_n 0, 1) := by decide +kernel
theorem d_q_TextWriter_fillData_45 : decode b_q_TextWriter_fillData 45 = .ok (.aload_n 3, 1) := by decide +kernel
theorem d_q_TextWriter_fillData_46 : decode b_q_TextWriter_fillData 46 = .ok (.iload_n 2, 1) := by decide +kernel
theorem d_q_TextWriter_fillData_47 : decode b_q_TextWriter_fillData 47 = .ok (.aload 5, 2) := by decide +kernel
theorem d_q_TextWriter_fillData_49 : decode b_q_TextWriter_fillData 49 = .ok (.getfield 38, 3) := by decide +kernel
theorem d_q_TextWriter_fillData_52 : decode b_q_TextWriter_fillData 52 = .ok (.invokevirtual 34, 3) := by decide +kernel
theorem d_q_TextWriter_fillData_55 : decode b_q_TextWriter_fillData 55 = .ok (.aload_n 0, 1) := by decide +kernel
theorem d_q_TextWriter_fillData_56 : decode b_q_TextWriter_fillData 56 = .ok (.aload_n 3, 1) := by decide +kernel
theorem d_q_TextWriter_fillData_57 : decode b_q_TextWriter_fillData 57 = .ok (.aload 5, 2) := by decide +kernel
theorem d_q_TextWriter_fillData_59 : decode b_q_TextWriter_fillData 59 = .ok (.aload_n 1, 1) := by decide +kernel
theorem d_q_TextWriter_fillData_60 : decode b_q_TextWriter_fillData 60 = .ok (.iload_n 2, 1) := by decide +kernel
theorem d_q_TextWriter_fillData_61 : decode b_q_TextWriter_fillData 61 = .ok (.invokevirtual 41, 3) := by decide +kernel
theorem d_q_TextWriter_fillData_64 : decode b_q_TextWriter_fillData 64 = .ok (.aload_n 0, 1) := by decide +kernel
theorem d_q_TextWriter_fillData_65 : decode b_q_TextWriter_fillData 65 = .ok (.getfield 25, 3) := by decide +kernel
theorem d_q_TextWriter_fillData_68 : decode b_q_TextWriter_fillData 68 = .ok (.iconst 4, 1) := by decide +kernel
theorem d_q_TextWriter_fillData_69 : decode b_q_TextWriter_fillData 69 = .ok (.iadd, 1) := by decide +kernel
theorem d_q_TextWriter_fillData_70 : decode b_q_TextWriter_fillData 70 = .ok (.bipush 8, 2) := by decide +kernel
theorem d_q_TextWriter_fillData_72 : decode b_q_TextWriter_fillData 72 = .ok (.iload 4, 2) := by decide +kernel
theorem d_q_TextWriter_fillData_74 : decode b_q_TextWriter_fillData 74 = .ok (.imul, 1) := by decide +kernel
theorem d_q_TextWriter_fillData_75 : decode b_q_TextWriter_fillData 75 = .ok (.invokestatic 45, 3) := by decide +kernel
theorem d_q_TextWriter_fillData_78 : decode b_q_TextWriter_fillData 78 = .ok (.istore 6, 2) := by decide +kernel
theorem d_q_TextWriter_fillData_80 : decode b_q_TextWriter_fillData 80 = .ok (.aload_n 3, 1) := by decide +kernel
theorem d_q_TextWriter_fillData_81 : decode b_q_TextWriter_fillData 81 = .ok (.iload 6, 2) := by decide +kernel
theorem d_q_TextWriter_fillData_83 : decode b_q_TextWriter_fillData 83 = .ok (.bipush 7, 2) := by decide +kernel
theorem d_q_TextWriter_fillData_85 : decode b_q_TextWriter_fillData 85 = .ok (.iadd, 1) := by decide +kernel
theorem d_q_TextWriter_fillData_86 : decode b_q_TextWriter_fillData 86 = .ok (.bipush 8, 2) := by decide +kernel
theorem d_q_TextWriter_fillData_88 : decode b_q_TextWriter_fillData 88 = .ok (.idiv, 1) := by decide +kernel
theorem d_q_TextWriter_fillData_89 : decode b_q_TextWriter_fillData 89 = .ok (.iload 4, 2) := by decide +kernel
theorem d_q_TextWriter_fillData_91 : decode b_q_TextWriter_fillData 91 = .ok (.invokestatic 51, 3) := by decide +kernel
theorem d_q_TextWriter_fillData_94 : decode b_q_TextWriter_fillData 94 = .ok (.iconst 1, 1) := by decide +kernel
theorem d_q_TextWriter_fillData_95 : decode b_q_TextWriter_fillData 95 = .ok (.ireturn, 1) := by decide +kernel
end
section
variable {p : Program} {l : Launch} {e : Env} {R : Room} {s : State} {m : MethodId} {args : Array Value} {below : List Frame} {meth : Method} {c : Code} {cells slots : Nat} {Q : State → Prop} {A : Nat → Prop} {H0 : Heap} {D : va_G}
set_option maxHeartbeats 1000000 in
set_option maxRecDepth 100000 in
theorem bd_q_TextWriter_fillData_0_no (cI cC : ClassId) (sa : Nat → Nat) (tw us ba qt n dt : Nat) (bt ty : Nat → Nat) (hn0 : n ≤ 45) (hd5 : dt ≤ 25) (hty : ∀ j, j < n → ty j < 127) (hd0 : ∀ j, j < n → (0 ≤ plI (ty j) ∧ plI (ty j) ≤ nI 9)) (hno : 8 * dt < 4 + gwd 1 + bfN 1 n) (S : CallFix p m c b_q_TextWriter_fillData 7 s args (cd_q_TextWriter_fillData :: WS) R_TextWriter) (hRf : 7 ≤ R.frames) (hRl : 161 ≤ R.locals) (hRc : cells ≤ R.cells ∧ slots ≤ R.slots) (hK : va_K D classes [(cI, .int), (cC, .char)] s) (hSt : SB sa A s s.heap) (kr : ∀ (pc : Nat) (ls : Array Slot) (H : Heap) (locs : List Loc), decode b_q_TextWriter_fillData pc = .ok (.ireturn, 1) → va_P D classes [(tw, .inr (6, [.int (nI us)])), (ba, .inl (cI, 26, .inl (fun j => nI (bt j)))), (qt, .inl (cC, 45, .inl (fun j => nI (ty j))))] H → va_S A s.heap H locs → W p l e R s m args below meth c H locs cells slots Q (F0 m pc ls [.int (nI 0)])) : ∀ (ls : Array Slot) (H : Heap) (locs : List Loc), lv_has ls 7 [(0, .ref tw), (1, .ref qt), (2, .int (nI n)), (3, .ref ba), (4, .int (nI dt))] → va_P D classes [(tw, .inr (6, [.int (nI us)])), (ba, .inl (cI, 26, .inl (fun j => nI (bt j)))), (qt, .inl (cC, 45, .inl (fun j => nI (ty j))))] H → va_S A s.heap H locs → W p l e R s m args below meth c H locs cells slots Q (F0 m 0 ls []) := by
  obtain ⟨hx, hb, hml, hown, hts⟩ := id S
  intro ls H locs hl hP hS
  have hbfm : 4 + gwd 1 + bfN 1 n ≤ 600 := bf_max (Or.inl rfl) hn0
  refine lv_aload_n hx hb d_q_TextWriter_fillData_0 rfl (lv_at hl 1 rfl) ?_
  refine lv_iload_n hx hb d_q_TextWriter_fillData_1 rfl (lv_at hl 2 rfl) ?_
  refine q_readSq (n := 2) (As := [.ref qt, .int (nI n)]) (rest := []) (wc := [(qt, .inl (cC, 45, .inl (fun j => nI (ty j))))]) S (c_q_Kind_fitting_0 l D cI cC sa qt ty n hn0 hty hd0) hSt hK hP [2] rfl (q_goodS kw_382 kw_383 kw_16 kw_384) (by decide +kernel) rfl rfl ⟨Nat.le_trans (Nat.le_of_ble_eq_true rfl) hRf, Nat.le_trans (Nat.le_of_ble_eq_true rfl) hRl⟩ rfl hl.1 rfl (Nat.le_of_ble_eq_true rfl) d_q_TextWriter_fillData_2 hRc hS (fun H locs hP hS => ?_)
  refine lv_astore hx hb d_q_TextWriter_fillData_5 hl (Nat.le_of_ble_eq_true rfl) rfl (fun ls hl => ?_)
  have hl : lv_has ls 7 [(5, .ref (sa 7)), (0, .ref tw), (1, .ref qt), (2, .int (nI n)), (3, .ref ba), (4, .int (nI dt))] := hl
  refine lv_aload hx hb d_q_TextWriter_fillData_7 (lv_at hl 0 rfl) ?_
  refine lv_iload_n hx hb d_q_TextWriter_fillData_9 rfl (lv_at hl 3 rfl) ?_
  refine q_readVr (n := 1) (As := [.int (nI n)]) (rest := []) (wc := []) S (c_q_Kind_bitsFor_0 l D cI cC sa n hn0) hSt hK hP (o_recv (ko_0 hSt) hS) [] rfl (q_goodV kw_485 kw_486 kw_487 kw_16 kw_488) (by decide +kernel) rfl rfl rfl ⟨Nat.le_trans (Nat.le_of_ble_eq_true rfl) hRf, Nat.le_trans (Nat.le_of_ble_eq_true rfl) hRl⟩ rfl hl.1 rfl (Nat.le_of_ble_eq_true rfl) d_q_TextWriter_fillData_10 hRc hS (fun H locs hP hS => ?_)
  refine lv_bipush (v := nI 8) hx hb d_q_TextWriter_fillData_13 (by decide) ?_
  refine lv_iload hx hb d_q_TextWriter_fillData_15 (lv_at hl 5 rfl) ?_
  refine n_imul hx hb d_q_TextWriter_fillData_17 ?_
  refine n_icmp_le hx hb d_q_TextWriter_fillData_18 (tgt := 23) rfl (Nat.lt_of_le_of_lt hbfm (by decide)) (by omega) (fun g18 => absurd g18 (by omega)) (fun g18 => ?_)
  refine lv_iconst (v := nI 0) hx hb d_q_TextWriter_fillData_21 (by decide) ?_
  exact kr _ ls H locs d_q_TextWriter_fillData_22 hP hS
set_option maxHeartbeats 1000000 in
set_option maxRecDepth 100000 in
theorem c_q_TextWriter_fillData_0_no (l : Launch) (D : va_G) (cI cC : ClassId) (sa : Nat → Nat) (tw us ba qt n dt : Nat) (bt ty : Nat → Nat) (hn0 : n ≤ 45) (hd5 : dt ≤ 25) (hty : ∀ j, j < n → ty j < 127) (hd0 : ∀ j, j < n → (0 ≤ plI (ty j) ∧ plI (ty j) ≤ nI 9)) (hno : 8 * dt < 4 + gwd 1 + bfN 1 n) : Met l y_q_TextWriter_fillData (cd_q_TextWriter_fillData :: WS) { frames := 7, cells := 0, slots := 0, locals := 161 } (va_Pc [.ref tw, .ref qt, .int (nI n), .ref ba, .int (nI dt)] (srP sa D [(tw, .inr (6, [.int (nI us)])), (ba, .inl (cI, 26, .inl (fun j => nI (bt j)))), (qt, .inl (cC, 45, .inl (fun j => nI (ty j))))] [(cI, .int), (cC, .char)])) (pQ (nI 0)) 0 0 noA := by
  refine Met.ofW (cc := b_q_TextWriter_fillData) (maxL := 7) (ret := (some .boolean)) (by decide) rfl ?_
  intro p e s m args below meth c s₁ B hml hv0
  obtain ⟨rfl, ⟨hP, hK⟩, hSt⟩ := hv0
  have hts := atoms_spec (ws := cd_q_TextWriter_fillData :: WS) B.pre
  have hown : s.vm.findClass R_TextWriter = some m.cls := findClass_of_methodNamed B.named
  have hlocks := B.notSynchronized
  have hl := lv_entry ([.ref tw, .ref qt, .int (nI n), .ref ba, .int (nI dt)]) (n := 7) (Nat.le_of_ble_eq_true rfl)
  rw [lg_entry_eq]
  generalize (lg_sl ([.ref tw, .ref qt, .int (nI n), .ref ba, .int (nI dt)]) ++ List.replicate (7 - (lg_sl ([.ref tw, .ref qt, .int (nI n), .ref ba, .int (nI dt)])).length) Slot.unset).toArray = ls at hl ⊢
  refine bd_q_TextWriter_fillData_0_no cI cC sa tw us ba qt n dt bt ty hn0 hd5 hty hd0 hno ⟨B.exec, B.bytes, hml, hown, hts⟩ (Nat.le_refl _) (Nat.le_refl _) ⟨Nat.le_refl _, Nat.le_refl _⟩ hK hSt (fun pc ls H locs hd hP hS => ?_) ls _ _ hl hP (va_S.rf (A := noA))
  exact W.zret B.exec B.bytes B.returns rfl (fun t ht _ => ⟨⟨_, (), rfl, rfl, trivial⟩, hS.F ht⟩) hS.2.2 hd
end
section
variable {p : Program} {l : Launch} {e : Env} {R : Room} {s : State} {m : MethodId} {args : Array Value} {below : List Frame} {meth : Method} {c : Code} {cells slots : Nat} {Q : State → Prop} {A : Nat → Prop} {H0 : Heap} {D : va_G}
set_option maxHeartbeats 1000000 in
set_option maxRecDepth 100000 in
theorem bd_q_TextWriter_fillData_0_ok (cI cC : ClassId) (sa : Nat → Nat) (tw us ba qt n dt : Nat) (bt ty : Nat → Nat) (hn0 : n ≤ 45) (hd5 : dt ≤ 25) (hty : ∀ j, j < n → ty j < 127) (hd0 : ∀ j, j < n → (0 ≤ plI (ty j) ∧ plI (ty j) ≤ nI 9)) (hfit : 4 + gwd 1 + bfN 1 n ≤ 8 * dt) (S : CallFix p m c b_q_TextWriter_fillData 7 s args (cd_q_TextWriter_fillData :: WS) R_TextWriter) (hRf : 7 ≤ R.frames) (hRl : 161 ≤ R.locals) (hRc : cells ≤ R.cells ∧ slots ≤ R.slots) (hK : va_K D classes [(cI, .int), (cC, .char)] s) (hA : ∀ q, s.heap.size ≤ q → A q) (hSt : SB sa A s s.heap) (kr : ∀ (pc : Nat) (ls : Array Slot) (H : Heap) (locs : List Loc), decode b_q_TextWriter_fillData pc = .ok (.ireturn, 1) → va_P D classes [(tw, .inr (6, [.int (nI ((cxR 1 ty n (flL bt 0 26)).1))])), (ba, .inl (cI, 26, .inl (fun j => nI ((frL (cxR 1 ty n (flL bt 0 26)).2 ((min ((cxR 1 ty n (flL bt 0 26)).1 + 4) (8 * dt) + 7) / 8) (dt - ((min ((cxR 1 ty n (flL bt 0 26)).1 + 4) (8 * dt) + 7) / 8))) j)))), (qt, .inl (cC, 45, .inl (fun j => nI (ty j))))] H → va_D A [(tw, .inr (6, [.int (nI ((cxR 1 ty n (flL bt 0 26)).1))])), (ba, .inl (cI, 26, .inl (fun j => nI ((frL (cxR 1 ty n (flL bt 0 26)).2 ((min ((cxR 1 ty n (flL bt 0 26)).1 + 4) (8 * dt) + 7) / 8) (dt - ((min ((cxR 1 ty n (flL bt 0 26)).1 + 4) (8 * dt) + 7) / 8))) j)))), (qt, .inl (cC, 45, .inl (fun j => nI (ty j))))] → va_S A s.heap H locs → W p l e R s m args below meth c H locs cells slots Q (F0 m pc ls [.int (nI 1)])) : ∀ (ls : Array Slot) (H : Heap) (locs : List Loc), lv_has ls 7 [(0, .ref tw), (1, .ref qt), (2, .int (nI n)), (3, .ref ba), (4, .int (nI dt))] → va_P D classes [(tw, .inr (6, [.int (nI us)])), (ba, .inl (cI, 26, .inl (fun j => nI (bt j)))), (qt, .inl (cC, 45, .inl (fun j => nI (ty j))))] H → va_D A [(tw, .inr (6, [.int (nI us)])), (ba, .inl (cI, 26, .inl (fun j => nI (bt j)))), (qt, .inl (cC, 45, .inl (fun j => nI (ty j))))] → va_S A s.heap H locs → W p l e R s m args below meth c H locs cells slots Q (F0 m 0 ls []) := by
  obtain ⟨hx, hb, hml, hown, hts⟩ := id S
  intro ls H locs hl hP hD hS
  have hbfm : 4 + gwd 1 + bfN 1 n ≤ 600 := bf_max (Or.inl rfl) hn0
  have hcx : (cxR 1 ty n (flL bt 0 26)).1 = 4 + gwd 1 + bfN 1 n := cx_len (y := (flL bt 0 26)) (Or.inl rfl) (fun j hj => (vc0_cv (ty j) (hty j hj) (hd0 j hj).1 (hd0 j hj).2).2)
  refine lv_aload_n hx hb d_q_TextWriter_fillData_0 rfl (lv_at hl 1 rfl) ?_
  refine lv_iload_n hx hb d_q_TextWriter_fillData_1 rfl (lv_at hl 2 rfl) ?_
  refine q_readSq (n := 2) (As := [.ref qt, .int (nI n)]) (rest := []) (wc := [(qt, .inl (cC, 45, .inl (fun j => nI (ty j))))]) S (c_q_Kind_fitting_0 l D cI cC sa qt ty n hn0 hty hd0) hSt hK hP [2] rfl (q_goodS kw_382 kw_383 kw_16 kw_384) (by decide +kernel) rfl rfl ⟨Nat.le_trans (Nat.le_of_ble_eq_true rfl) hRf, Nat.le_trans (Nat.le_of_ble_eq_true rfl) hRl⟩ rfl hl.1 rfl (Nat.le_of_ble_eq_true rfl) d_q_TextWriter_fillData_2 hRc hS (fun H locs hP hS => ?_)
  refine lv_astore hx hb d_q_TextWriter_fillData_5 hl (Nat.le_of_ble_eq_true rfl) rfl (fun ls hl => ?_)
  have hl : lv_has ls 7 [(5, .ref (sa 7)), (0, .ref tw), (1, .ref qt), (2, .int (nI n)), (3, .ref ba), (4, .int (nI dt))] := hl
  refine lv_aload hx hb d_q_TextWriter_fillData_7 (lv_at hl 0 rfl) ?_
  refine lv_iload_n hx hb d_q_TextWriter_fillData_9 rfl (lv_at hl 3 rfl) ?_
  refine q_readVr (n := 1) (As := [.int (nI n)]) (rest := []) (wc := []) S (c_q_Kind_bitsFor_0 l D cI cC sa n hn0) hSt hK hP (o_recv (ko_0 hSt) hS) [] rfl (q_goodV kw_485 kw_486 kw_487 kw_16 kw_488) (by decide +kernel) rfl rfl rfl ⟨Nat.le_trans (Nat.le_of_ble_eq_true rfl) hRf, Nat.le_trans (Nat.le_of_ble_eq_true rfl) hRl⟩ rfl hl.1 rfl (Nat.le_of_ble_eq_true rfl) d_q_TextWriter_fillData_10 hRc hS (fun H locs hP hS => ?_)
  refine lv_bipush (v := nI 8) hx hb d_q_TextWriter_fillData_13 (by decide) ?_
  refine lv_iload hx hb d_q_TextWriter_fillData_15 (lv_at hl 5 rfl) ?_
  refine n_imul hx hb d_q_TextWriter_fillData_17 ?_
  refine n_icmp_le hx hb d_q_TextWriter_fillData_18 (tgt := 23) rfl (Nat.lt_of_le_of_lt hbfm (by decide)) (by omega) (fun g18 => ?_) (fun g18 => absurd g18 (by omega))
  refine lv_aload_n hx hb d_q_TextWriter_fillData_23 rfl (lv_at hl 4 rfl) ?_
  refine lv_iconst (v := nI 0) hx hb d_q_TextWriter_fillData_24 (by decide) ?_
  refine q_writeSv (n := 2) (As := [.ref ba, .int (nI 0)]) (rest := []) (wc := [(ba, .inl (cI, 26, .inl (fun j => nI (bt j))))]) (wr := [(tw, .inr (6, [.int (nI us)])), (qt, .inl (cC, 45, .inl (fun j => nI (ty j))))]) (w1 := [(ba, .inl (cI, 26, .inl (fun j => nI ((flL bt 0 26) j))))]) S (c_j_Arrays_fill l D cI cC ba 26 bt 0 (by decide) H.size) hK hP hD hA [1] [0, 2] rfl rfl rfl rfl (by decide) rfl (q_goodS kw_493 kw_169 kw_9 kw_170) (by decide +kernel) rfl rfl ⟨Nat.le_trans (Nat.le_of_ble_eq_true rfl) hRf, Nat.le_trans (Nat.le_of_ble_eq_true rfl) hRl⟩ rfl hl.1 rfl (Nat.le_of_ble_eq_true rfl) d_q_TextWriter_fillData_25 hRc hS (fun H locs hP hD hS => ?_)
  replace hP : va_P D classes [(tw, .inr (6, [.int (nI us)])), (ba, .inl (cI, 26, .inl (fun j => nI ((flL bt 0 26) j)))), (qt, .inl (cC, 45, .inl (fun j => nI (ty j))))] H := hP.sub [0, 2, 1] rfl
  replace hD : va_D A [(tw, .inr (6, [.int (nI us)])), (ba, .inl (cI, 26, .inl (fun j => nI ((flL bt 0 26) j)))), (qt, .inl (cC, 45, .inl (fun j => nI (ty j))))] := hD.sub [0, 2, 1] rfl rfl
  refine lv_aload_n hx hb d_q_TextWriter_fillData_28 rfl (lv_at hl 1 rfl) ?_
  refine lv_iconst (v := nI 0) hx hb d_q_TextWriter_fillData_29 (by decide) ?_
  refine n_put (C := R_TextWriter) (T := F_TextWriter) (N := 1) (v := .int (nI 0)) hx hb hts u_TextWriter_in t_TextWriter t_TextWriter_ok n_TextWriter hown hK hP hD hS 0 rfl rfl 0 (by decide) kw_139 rfl rfl rfl (Nat.le_of_ble_eq_true rfl) d_q_TextWriter_fillData_30 (fun H locs hP hD hS => ?_)
  have hP : va_P D classes [(tw, .inr (6, [.int (nI 0)])), (ba, .inl (cI, 26, .inl (fun j => nI ((flL bt 0 26) j)))), (qt, .inl (cC, 45, .inl (fun j => nI (ty j))))] H := hP
  have hD : va_D A [(tw, .inr (6, [.int (nI 0)])), (ba, .inl (cI, 26, .inl (fun j => nI ((flL bt 0 26) j)))), (qt, .inl (cC, 45, .inl (fun j => nI (ty j))))] := hD
  refine lv_aload_n hx hb d_q_TextWriter_fillData_33 rfl (lv_at hl 1 rfl) ?_
  refine lv_aload_n hx hb d_q_TextWriter_fillData_34 rfl (lv_at hl 4 rfl) ?_
  refine lv_aload hx hb d_q_TextWriter_fillData_35 (lv_at hl 0 rfl) ?_
  refine n_kgetN hx hb (kf_0_code hSt) hS hown hSt.2.1.2.2.2.1 d_q_TextWriter_fillData_37 ?_
  refine lv_iconst (v := nI 4) hx hb d_q_TextWriter_fillData_40 (by decide) ?_
  refine q_writeVv (n := 3) (As := [.ref ba, .int (nI 1), .int (nI 4)]) (rest := []) (wc := [(tw, .inr (6, [.int (nI 0)])), (ba, .inl (cI, 26, .inl (fun j => nI ((flL bt 0 26) j))))]) (wr := [(qt, .inl (cC, 45, .inl (fun j => nI (ty j))))]) (w1 := [(tw, .inr (6, [.int (nI (0 + 4))])), (ba, .inl (cI, 26, .inl (fun j => nI ((ptC (flL bt 0 26) 0 1 4 4) j))))]) S (c_q_TextWriter_put l D cI cC tw 0 ba 1 4 (flL bt 0 26) (by decide) (by decide) (by decide) H.size) hK hP hD hA (q0 := 0) rfl rfl [0, 1] [2] rfl rfl rfl rfl (by decide) rfl (q_goodV kw_494 kw_496 ks_5 kw_6 kw_497) (by decide +kernel) rfl rfl rfl ⟨Nat.le_trans (Nat.le_of_ble_eq_true rfl) hRf, Nat.le_trans (Nat.le_of_ble_eq_true rfl) hRl⟩ rfl hl.1 rfl (Nat.le_of_ble_eq_true rfl) d_q_TextWriter_fillData_41 hRc hS (fun H locs hP hD hS => ?_)
  replace hP : va_P D classes [(tw, .inr (6, [.int (nI (0 + 4))])), (ba, .inl (cI, 26, .inl (fun j => nI ((ptC (flL bt 0 26) 0 1 4 4) j)))), (qt, .inl (cC, 45, .inl (fun j => nI (ty j))))] H := hP.sub [1, 2, 0] rfl
  replace hD : va_D A [(tw, .inr (6, [.int (nI (0 + 4))])), (ba, .inl (cI, 26, .inl (fun j => nI ((ptC (flL bt 0 26) 0 1 4 4) j)))), (qt, .inl (cC, 45, .inl (fun j => nI (ty j))))] := hD.sub [1, 2, 0] rfl rfl
  refine lv_aload_n hx hb d_q_TextWriter_fillData_44 rfl (lv_at hl 1 rfl) ?_
  refine lv_aload_n hx hb d_q_TextWriter_fillData_45 rfl (lv_at hl 4 rfl) ?_
  refine lv_iload_n hx hb d_q_TextWriter_fillData_46 rfl (lv_at hl 3 rfl) ?_
  refine lv_aload hx hb d_q_TextWriter_fillData_47 (lv_at hl 0 rfl) ?_
  refine n_kgetN hx hb (kf_0_countBits hSt) hS hown hSt.2.1.2.2.2.2.1 d_q_TextWriter_fillData_49 ?_
  refine q_writeVv (n := 3) (As := [.ref ba, .int (nI n), .int (nI 10)]) (rest := []) (wc := [(tw, .inr (6, [.int (nI (0 + 4))])), (ba, .inl (cI, 26, .inl (fun j => nI ((ptC (flL bt 0 26) 0 1 4 4) j))))]) (wr := [(qt, .inl (cC, 45, .inl (fun j => nI (ty j))))]) (w1 := [(tw, .inr (6, [.int (nI ((0 + 4) + 10))])), (ba, .inl (cI, 26, .inl (fun j => nI ((ptC (ptC (flL bt 0 26) 0 1 4 4) (0 + 4) n 10 10) j))))]) S (c_q_TextWriter_put l D cI cC tw (0 + 4) ba n 10 (ptC (flL bt 0 26) 0 1 4 4) (by omega) (by decide) (by decide) H.size) hK hP hD hA (q0 := 0) rfl rfl [0, 1] [2] rfl rfl rfl rfl (by decide) rfl (q_goodV kw_494 kw_496 ks_5 kw_6 kw_497) (by decide +kernel) rfl rfl rfl ⟨Nat.le_trans (Nat.le_of_ble_eq_true rfl) hRf, Nat.le_trans (Nat.le_of_ble_eq_true rfl) hRl⟩ rfl hl.1 rfl (Nat.le_of_ble_eq_true rfl) d_q_TextWriter_fillData_52 hRc hS (fun H locs hP hD hS => ?_)
  replace hP : va_P D classes [(tw, .inr (6, [.int (nI ((0 + 4) + 10))])), (ba, .inl (cI, 26, .inl (fun j => nI ((ptC (ptC (flL bt 0 26) 0 1 4 4) (0 + 4) n 10 10) j)))), (qt, .inl (cC, 45, .inl (fun j => nI (ty j))))] H := hP.sub [1, 2, 0] rfl
  replace hD : va_D A [(tw, .inr (6, [.int (nI ((0 + 4) + 10))])), (ba, .inl (cI, 26, .inl (fun j => nI ((ptC (ptC (flL bt 0 26) 0 1 4 4) (0 + 4) n 10 10) j)))), (qt, .inl (cC, 45, .inl (fun j => nI (ty j))))] := hD.sub [1, 2, 0] rfl rfl
  refine lv_aload_n hx hb d_q_TextWriter_fillData_55 rfl (lv_at hl 1 rfl) ?_
  refine lv_aload_n hx hb d_q_TextWriter_fillData_56 rfl (lv_at hl 4 rfl) ?_
  refine lv_aload hx hb d_q_TextWriter_fillData_57 (lv_at hl 0 rfl) ?_
  refine lv_aload_n hx hb d_q_TextWriter_fillData_59 rfl (lv_at hl 2 rfl) ?_
  refine lv_iload_n hx hb d_q_TextWriter_fillData_60 rfl (lv_at hl 3 rfl) ?_
  refine q_writeVvs (n := 4) (As := [.ref ba, .ref (sa 7), .ref qt, .int (nI n)]) (rest := []) (wc := [(tw, .inr (6, [.int (nI ((0 + 4) + 10))])), (ba, .inl (cI, 26, .inl (fun j => nI ((ptC (ptC (flL bt 0 26) 0 1 4 4) (0 + 4) n 10 10) j)))), (qt, .inl (cC, 45, .inl (fun j => nI (ty j))))]) (wr := []) (w1 := [(tw, .inr (6, [.int (nI ((pcS 1 ty n ((0 + 4) + 10) (ptC (ptC (flL bt 0 26) 0 1 4 4) (0 + 4) n 10 10) n).2.2.1))])), (ba, .inl (cI, 26, .inl (fun j => nI (((pcS 1 ty n ((0 + 4) + 10) (ptC (ptC (flL bt 0 26) 0 1 4 4) (0 + 4) n 10 10) n).2.2.2) j)))), (qt, .inl (cC, 45, .inl (fun j => nI (ty j))))]) S (c_q_TextWriter_putCharacters_0 l D cI cC sa tw ((0 + 4) + 10) ba qt n (ptC (ptC (flL bt 0 26) 0 1 4 4) (0 + 4) n 10 10) ty hn0 hty hd0 (by have h7 : gwd 1 = 10 := rfl; omega) H.size) hSt hK hP hD hA (q0 := 0) rfl rfl [0, 1, 2] [] rfl rfl rfl rfl (by decide) rfl (q_goodV kw_498 kw_500 ks_6 kw_6 kw_501) (by decide +kernel) rfl rfl rfl ⟨Nat.le_trans (Nat.le_of_ble_eq_true rfl) hRf, Nat.le_trans (Nat.le_of_ble_eq_true rfl) hRl⟩ rfl hl.1 rfl (Nat.le_of_ble_eq_true rfl) d_q_TextWriter_fillData_61 hRc hS (fun H locs hP hD hS => ?_)
  replace hP : va_P D classes [(tw, .inr (6, [.int (nI ((pcS 1 ty n ((0 + 4) + 10) (ptC (ptC (flL bt 0 26) 0 1 4 4) (0 + 4) n 10 10) n).2.2.1))])), (ba, .inl (cI, 26, .inl (fun j => nI (((pcS 1 ty n ((0 + 4) + 10) (ptC (ptC (flL bt 0 26) 0 1 4 4) (0 + 4) n 10 10) n).2.2.2) j)))), (qt, .inl (cC, 45, .inl (fun j => nI (ty j))))] H := hP.sub [0, 1, 2] rfl
  replace hD : va_D A [(tw, .inr (6, [.int (nI ((pcS 1 ty n ((0 + 4) + 10) (ptC (ptC (flL bt 0 26) 0 1 4 4) (0 + 4) n 10 10) n).2.2.1))])), (ba, .inl (cI, 26, .inl (fun j => nI (((pcS 1 ty n ((0 + 4) + 10) (ptC (ptC (flL bt 0 26) 0 1 4 4) (0 + 4) n 10 10) n).2.2.2) j)))), (qt, .inl (cC, 45, .inl (fun j => nI (ty j))))] := hD.sub [0, 1, 2] rfl rfl
  have hP : va_P D classes [(tw, .inr (6, [.int (nI ((cxR 1 ty n (flL bt 0 26)).1))])), (ba, .inl (cI, 26, .inl (fun j => nI (((cxR 1 ty n (flL bt 0 26)).2) j)))), (qt, .inl (cC, 45, .inl (fun j => nI (ty j))))] H := hP
  have hD : va_D A [(tw, .inr (6, [.int (nI ((cxR 1 ty n (flL bt 0 26)).1))])), (ba, .inl (cI, 26, .inl (fun j => nI (((cxR 1 ty n (flL bt 0 26)).2) j)))), (qt, .inl (cC, 45, .inl (fun j => nI (ty j))))] := hD
  refine lv_aload_n hx hb d_q_TextWriter_fillData_64 rfl (lv_at hl 1 rfl) ?_
  refine n_get (C := R_TextWriter) (T := F_TextWriter) (N := 1) (v := .int (nI ((cxR 1 ty n (flL bt 0 26)).1))) hx hb hts u_TextWriter_in hown hK hP 0 rfl rfl 0 (by decide) kw_139 rfl d_q_TextWriter_fillData_65 ?_
  refine lv_iconst (v := nI 4) hx hb d_q_TextWriter_fillData_68 (by decide) ?_
  refine n_iadd hx hb d_q_TextWriter_fillData_69 ?_
  refine lv_bipush (v := nI 8) hx hb d_q_TextWriter_fillData_70 (by decide) ?_
  refine lv_iload hx hb d_q_TextWriter_fillData_72 (lv_at hl 5 rfl) ?_
  refine n_imul hx hb d_q_TextWriter_fillData_74 ?_
  refine q_pureS (n := 2) (As := [.int (nI (((cxR 1 ty n (flL bt 0 26)).1) + 4)), .int (nI (8 * dt))]) (rest := []) S (c_j_Math_min l (((cxR 1 ty n (flL bt 0 26)).1) + 4) (8 * dt) (by omega) (by omega)) (q_goodS kw_504 kw_431 kw_19 kw_432) (by decide +kernel) rfl rfl ⟨Nat.le_trans (Nat.le_of_ble_eq_true rfl) hRf, Nat.le_trans (Nat.le_of_ble_eq_true rfl) hRl⟩ rfl hl.1 rfl (Nat.le_of_ble_eq_true rfl) d_q_TextWriter_fillData_75 hRc hS (fun H locs hkp hS => ?_)
  replace hP := hP.kept (fun k q hq => hkp q.1 (hP k q hq).lt)
  refine lv_istore hx hb d_q_TextWriter_fillData_78 hl (Nat.le_of_ble_eq_true rfl) rfl (fun ls hl => ?_)
  have hl : lv_has ls 7 [(6, .int (nI (min (((cxR 1 ty n (flL bt 0 26)).1) + 4) (8 * dt)))), (5, .ref (sa 7)), (0, .ref tw), (1, .ref qt), (2, .int (nI n)), (3, .ref ba), (4, .int (nI dt))] := hl
  refine lv_aload_n hx hb d_q_TextWriter_fillData_80 rfl (lv_at hl 5 rfl) ?_
  refine lv_iload hx hb d_q_TextWriter_fillData_81 (lv_at hl 0 rfl) ?_
  refine lv_bipush (v := nI 7) hx hb d_q_TextWriter_fillData_83 (by decide) ?_
  refine n_iadd hx hb d_q_TextWriter_fillData_85 ?_
  refine lv_bipush (v := nI 8) hx hb d_q_TextWriter_fillData_86 (by decide) ?_
  refine n_idiv hx hb d_q_TextWriter_fillData_88 (by omega) (by omega) (by omega) ?_
  refine lv_iload hx hb d_q_TextWriter_fillData_89 (lv_at hl 6 rfl) ?_
  refine q_writeSv (n := 3) (As := [.ref ba, .int (nI (((min (((cxR 1 ty n (flL bt 0 26)).1) + 4) (8 * dt)) + 7) / 8)), .int (nI dt)]) (rest := []) (wc := [(ba, .inl (cI, 26, .inl (fun j => nI (((cxR 1 ty n (flL bt 0 26)).2) j))))]) (wr := [(tw, .inr (6, [.int (nI ((cxR 1 ty n (flL bt 0 26)).1))])), (qt, .inl (cC, 45, .inl (fun j => nI (ty j))))]) (w1 := [(ba, .inl (cI, 26, .inl (fun j => nI ((frL ((cxR 1 ty n (flL bt 0 26)).2) (((min (((cxR 1 ty n (flL bt 0 26)).1) + 4) (8 * dt)) + 7) / 8) (dt - (((min (((cxR 1 ty n (flL bt 0 26)).1) + 4) (8 * dt)) + 7) / 8))) j))))]) S (c_q_TextWriter_fillRest l D cI cC ba (((min (((cxR 1 ty n (flL bt 0 26)).1) + 4) (8 * dt)) + 7) / 8) dt ((cxR 1 ty n (flL bt 0 26)).2) (by omega) (by omega) H.size) hK hP hD hA [1] [0, 2] rfl rfl rfl rfl (by decide) rfl (q_goodS kw_505 kw_506 kw_6 kw_507) (by decide +kernel) rfl rfl ⟨Nat.le_trans (Nat.le_of_ble_eq_true rfl) hRf, Nat.le_trans (Nat.le_of_ble_eq_true rfl) hRl⟩ rfl hl.1 rfl (Nat.le_of_ble_eq_true rfl) d_q_TextWriter_fillData_91 hRc hS (fun H locs hP hD hS => ?_)
  replace hP : va_P D classes [(tw, .inr (6, [.int (nI ((cxR 1 ty n (flL bt 0 26)).1))])), (ba, .inl (cI, 26, .inl (fun j => nI ((frL ((cxR 1 ty n (flL bt 0 26)).2) (((min (((cxR 1 ty n (flL bt 0 26)).1) + 4) (8 * dt)) + 7) / 8) (dt - (((min (((cxR 1 ty n (flL bt 0 26)).1) + 4) (8 * dt)) + 7) / 8))) j)))), (qt, .inl (cC, 45, .inl (fun j => nI (ty j))))] H := hP.sub [0, 2, 1] rfl
  replace hD : va_D A [(tw, .inr (6, [.int (nI ((cxR 1 ty n (flL bt 0 26)).1))])), (ba, .inl (cI, 26, .inl (fun j => nI ((frL ((cxR 1 ty n (flL bt 0 26)).2) (((min (((cxR 1 ty n (flL bt 0 26)).1) + 4) (8 * dt)) + 7) / 8) (dt - (((min (((cxR 1 ty n (flL bt 0 26)).1) + 4) (8 * dt)) + 7) / 8))) j)))), (qt, .inl (cC, 45, .inl (fun j => nI (ty j))))] := hD.sub [0, 2, 1] rfl rfl
  refine lv_iconst (v := nI 1) hx hb d_q_TextWriter_fillData_94 (by decide) ?_
  exact kr _ ls H locs d_q_TextWriter_fillData_95 hP hD hS
set_option maxHeartbeats 1000000 in
set_option maxRecDepth 100000 in
theorem c_q_TextWriter_fillData_0_ok (l : Launch) (D : va_G) (cI cC : ClassId) (sa : Nat → Nat) (tw us ba qt n dt : Nat) (bt ty : Nat → Nat) (hn0 : n ≤ 45) (hd5 : dt ≤ 25) (hty : ∀ j, j < n → ty j < 127) (hd0 : ∀ j, j < n → (0 ≤ plI (ty j) ∧ plI (ty j) ≤ nI 9)) (hfit : 4 + gwd 1 + bfN 1 n ≤ 8 * dt) (sz : Nat) : Met l y_q_TextWriter_fillData (cd_q_TextWriter_fillData :: WS) { frames := 7, cells := 0, slots := 0, locals := 161 } (va_Pc [.ref tw, .ref qt, .int (nI n), .ref ba, .int (nI dt)] (swP sa D [(tw, .inr (6, [.int (nI us)])), (ba, .inl (cI, 26, .inl (fun j => nI (bt j)))), (qt, .inl (cC, 45, .inl (fun j => nI (ty j))))] [(cI, .int), (cC, .char)] sz)) (wQi D (nI 1) [(tw, .inr (6, [.int (nI us)])), (ba, .inl (cI, 26, .inl (fun j => nI (bt j)))), (qt, .inl (cC, 45, .inl (fun j => nI (ty j))))] [(tw, .inr (6, [.int (nI ((cxR 1 ty n (flL bt 0 26)).1))])), (ba, .inl (cI, 26, .inl (fun j => nI ((frL (cxR 1 ty n (flL bt 0 26)).2 ((min ((cxR 1 ty n (flL bt 0 26)).1 + 4) (8 * dt) + 7) / 8) (dt - ((min ((cxR 1 ty n (flL bt 0 26)).1 + 4) (8 * dt) + 7) / 8))) j)))), (qt, .inl (cC, 45, .inl (fun j => nI (ty j))))] sz) 0 0 (va_A [(tw, .inr (6, [.int (nI us)])), (ba, .inl (cI, 26, .inl (fun j => nI (bt j)))), (qt, .inl (cC, 45, .inl (fun j => nI (ty j))))] sz) := by
  refine Met.ofW (cc := b_q_TextWriter_fillData) (maxL := 7) (ret := (some .boolean)) (by decide) rfl ?_
  intro p e s m args below meth c s₁ B hml hv0
  obtain ⟨rfl, ⟨hP, hK, hD0, hsz⟩, hSt⟩ := hv0
  have hts := atoms_spec (ws := cd_q_TextWriter_fillData :: WS) B.pre
  have hown : s.vm.findClass R_TextWriter = some m.cls := findClass_of_methodNamed B.named
  have hlocks := B.notSynchronized
  subst hsz
  have hD := hD0.self (sz := s.heap.size)
  have hl := lv_entry ([.ref tw, .ref qt, .int (nI n), .ref ba, .int (nI dt)]) (n := 7) (Nat.le_of_ble_eq_true rfl)
  rw [lg_entry_eq]
  generalize (lg_sl ([.ref tw, .ref qt, .int (nI n), .ref ba, .int (nI dt)]) ++ List.replicate (7 - (lg_sl ([.ref tw, .ref qt, .int (nI n), .ref ba, .int (nI dt)])).length) Slot.unset).toArray = ls at hl ⊢
  refine bd_q_TextWriter_fillData_0_ok cI cC sa tw us ba qt n dt bt ty hn0 hd5 hty hd0 hfit ⟨B.exec, B.bytes, hml, hown, hts⟩ (Nat.le_refl _) (Nat.le_refl _) ⟨Nat.le_refl _, Nat.le_refl _⟩ hK (fun q h => Or.inr h) hSt (fun pc ls H locs hd hP hD hS => ?_) ls _ _ hl hP hD (va_S.rf)
  exact W.zret B.exec B.bytes B.returns rfl (fun t ht _ => ⟨⟨_, (), rfl, rfl, (by have h9 := hP; rw [← ht] at h9; exact h9)⟩, hS.F ht⟩) hS.2.2 hd
end
section
variable {p : Program} {l : Launch} {e : Env} {R : Room} {s : State} {m : MethodId} {args : Array Value} {below : List Frame} {meth : Method} {c : Code} {cells slots : Nat} {Q : State → Prop} {A : Nat → Prop} {H0 : Heap} {D : va_G}
set_option maxHeartbeats 1000000 in
set_option maxRecDepth 100000 in
theorem lp_q_TextWriter_putCharacters_1_9 (cI cC : ClassId) (sa : Nat → Nat) (tw us ba qt n : Nat) (bt ty : Nat → Nat) (hn0 : n ≤ 45) (hty : ∀ j, j < n → ty j < 127) (hall : ∀ j, j < n → (0 ≤ plI (ty j))) (hm : us + bfN 2 n ≤ 208) (S : CallFix p m c b_q_TextWriter_putCharacters 8 s args (cd_q_TextWriter_putCharacters :: WS) R_TextWriter) (hRf : 5 ≤ R.frames) (hRl : 113 ≤ R.locals) (hRc : cells ≤ R.cells ∧ slots ≤ R.slots) (hK : va_K D classes [(cI, .int), (cC, .char)] s) (hA : ∀ q, s.heap.size ≤ q → A q) (hSt : SB sa A s s.heap) (kx : ∀ (ls : Array Slot) (H : Heap) (locs : List Loc), lv_has ls 8 [(0, .ref tw), (1, .ref ba), (2, .ref (sa 8)), (3, .ref qt), (4, .int (nI n)), (5, .int (nI ((pcS 2 ty n us bt n).1))), (6, .int (nI ((pcS 2 ty n us bt n).2.1))), (7, .int (nI n))] → va_P D classes [(tw, .inr (6, [.int (nI ((pcS 2 ty n us bt n).2.2.1))])), (ba, .inl (cI, 26, .inl (fun j => nI (((pcS 2 ty n us bt n).2.2.2) j)))), (qt, .inl (cC, 45, .inl (fun j => nI (ty j))))] H → va_D A [(tw, .inr (6, [.int (nI ((pcS 2 ty n us bt n).2.2.1))])), (ba, .inl (cI, 26, .inl (fun j => nI (((pcS 2 ty n us bt n).2.2.2) j)))), (qt, .inl (cC, 45, .inl (fun j => nI (ty j))))] → va_S A s.heap H locs → W p l e R s m args below meth c H locs cells slots Q (F0 m 80 ls [])) :
    ∀ k, k ≤ n → ∀ (ls : Array Slot) (H : Heap) (locs : List Loc), lv_has ls 8 [(0, .ref tw), (1, .ref ba), (2, .ref (sa 8)), (3, .ref qt), (4, .int (nI n)), (5, .int (nI ((pcS 2 ty n us bt k).1))), (6, .int (nI ((pcS 2 ty n us bt k).2.1))), (7, .int (nI k))] → va_P D classes [(tw, .inr (6, [.int (nI ((pcS 2 ty n us bt k).2.2.1))])), (ba, .inl (cI, 26, .inl (fun j => nI (((pcS 2 ty n us bt k).2.2.2) j)))), (qt, .inl (cC, 45, .inl (fun j => nI (ty j))))] H → va_D A [(tw, .inr (6, [.int (nI ((pcS 2 ty n us bt k).2.2.1))])), (ba, .inl (cI, 26, .inl (fun j => nI (((pcS 2 ty n us bt k).2.2.2) j)))), (qt, .inl (cC, 45, .inl (fun j => nI (ty j))))] → va_S A s.heap H locs → W p l e R s m args below meth c H locs cells slots Q (F0 m 9 ls []) := by
  obtain ⟨hx, hb, hml, hown, hts⟩ := id S
  refine up_loop (fun k hkk ih => ?_)
  intro ls H locs hl hP hD hS
  refine lv_iload hx hb d_q_TextWriter_putCharacters_9 (lv_at hl 7 rfl) ?_
  refine lv_iload hx hb d_q_TextWriter_putCharacters_11 (lv_at hl 4 rfl) ?_
  refine n_icmp_ge hx hb d_q_TextWriter_putCharacters_13 (tgt := 80) rfl (by omega) (by omega) (fun g13 => ?_) (fun g13 => ?_)
  · skip
    obtain rfl : k = n := by omega
    exact kx ls H locs (lv_sub hl [0, 1, 2, 3, 4, 5, 6, 7] rfl) hP hD hS
  · skip
    obtain ⟨hs1, hs2, hs3⟩ := pc_step (kd := 2) (us := us) (y := bt) (Or.inr (Or.inl rfl)) (fun j hj => (pl_cv (ty j) (hty j hj) (hall j hj)).2) (show k < n by omega)
    have hs1 : (pcS 2 ty n us bt k).2.1 + 1 ≤ 2 := hs1
    refine lv_iload hx hb d_q_TextWriter_putCharacters_16 (lv_at hl 5 rfl) ?_
    refine lv_aload_n hx hb d_q_TextWriter_putCharacters_18 rfl (lv_at hl 2 rfl) ?_
    refine n_kgetN hx hb (kf_1_base hSt) hS hown hSt.2.1.2.2.2.2.2.1 d_q_TextWriter_putCharacters_19 ?_
    refine n_imul hx hb d_q_TextWriter_putCharacters_22 ?_
    refine lv_aload_n hx hb d_q_TextWriter_putCharacters_23 rfl (lv_at hl 2 rfl) ?_
    refine lv_aload_n hx hb d_q_TextWriter_putCharacters_24 rfl (lv_at hl 3 rfl) ?_
    refine lv_iload hx hb d_q_TextWriter_putCharacters_25 (lv_at hl 7 rfl) ?_
    refine n_cald hx hb hK hP 2 1 rfl rfl (by omega) (by decide) d_q_TextWriter_putCharacters_27 ?_
    refine q_readVr (n := 1) (As := [.int (nI (ty k))]) (rest := [.int (nI (((pcS 2 ty n us bt k).1) * 45))]) (wc := []) S (c_q_Kind_valueOfCharacter_1 l D cI cC sa (ty k) (hty k (by omega))) hSt hK hP (o_recv (ko_1 hSt) hS) [] rfl (q_goodV kw_502 kw_393 kw_394 kw_16 kw_395) (by decide +kernel) rfl rfl rfl ⟨Nat.le_trans (Nat.le_of_ble_eq_true rfl) hRf, Nat.le_trans (Nat.le_of_ble_eq_true rfl) hRl⟩ rfl hl.1 rfl (Nat.le_of_ble_eq_true rfl) d_q_TextWriter_putCharacters_28 hRc hS (fun H locs hP hS => ?_)
    refine n_top (show (plI (ty k)) = (nI (cvN 2 (ty k))) from (pl_cv (ty k) (hty k (by omega)) (hall k (by omega))).1) ?_
    refine n_iadd hx hb d_q_TextWriter_putCharacters_31 ?_
    refine lv_istore hx hb d_q_TextWriter_putCharacters_32 hl (Nat.le_of_ble_eq_true rfl) rfl (fun ls hl => ?_)
    have hl : lv_has ls 8 [(5, .int (nI ((((pcS 2 ty n us bt k).1) * 45) + (cvN 2 (ty k))))), (0, .ref tw), (1, .ref ba), (2, .ref (sa 8)), (3, .ref qt), (4, .int (nI n)), (6, .int (nI ((pcS 2 ty n us bt k).2.1))), (7, .int (nI k))] := hl
    refine lv_iinc (k := 6) (v := nI ((pcS 2 ty n us bt k).2.1 + 1)) hx hb d_q_TextWriter_putCharacters_34 hl rfl (nx_inc ((pcS 2 ty n us bt k).2.1) 1) (Nat.le_of_ble_eq_true rfl) rfl (fun ls hl => ?_)
    have hl : lv_has ls 8 [(6, .int (nI ((pcS 2 ty n us bt k).2.1 + 1))), (5, .int (nI ((((pcS 2 ty n us bt k).1) * 45) + (cvN 2 (ty k))))), (0, .ref tw), (1, .ref ba), (2, .ref (sa 8)), (3, .ref qt), (4, .int (nI n)), (7, .int (nI k))] := hl
    refine lv_iload hx hb d_q_TextWriter_putCharacters_37 (lv_at hl 0 rfl) ?_
    refine lv_aload_n hx hb d_q_TextWriter_putCharacters_39 rfl (lv_at hl 4 rfl) ?_
    refine n_kgetN hx hb (kf_1_group hSt) hS hown hSt.2.1.2.2.2.2.2.2 d_q_TextWriter_putCharacters_40 ?_
    refine n_icmp_eq hx hb d_q_TextWriter_putCharacters_43 (tgt := 55) rfl (by omega) (by omega) (fun g43 => ?_) (fun g43 => ?_)
    · skip
      refine lv_aload_n hx hb d_q_TextWriter_putCharacters_55 rfl (lv_at hl 2 rfl) ?_
      refine lv_aload_n hx hb d_q_TextWriter_putCharacters_56 rfl (lv_at hl 3 rfl) ?_
      refine lv_iload hx hb d_q_TextWriter_putCharacters_57 (lv_at hl 1 rfl) ?_
      refine lv_aload_n hx hb d_q_TextWriter_putCharacters_59 rfl (lv_at hl 4 rfl) ?_
      refine lv_iload hx hb d_q_TextWriter_putCharacters_60 (lv_at hl 0 rfl) ?_
      refine q_readVr (n := 1) (As := [.int (nI ((pcS 2 ty n us bt k).2.1 + 1))]) (rest := [.int (nI ((((pcS 2 ty n us bt k).1) * 45) + (cvN 2 (ty k)))), .ref ba, .ref tw]) (wc := []) S (c_q_Kind_groupBits_1 l D cI cC sa ((pcS 2 ty n us bt k).2.1 + 1) (by omega) (by omega)) hSt hK hP (o_recv (ko_1 hSt) hS) [] rfl (q_goodV kw_503 kw_490 kw_491 kw_16 kw_492) (by decide +kernel) rfl rfl rfl ⟨Nat.le_trans (Nat.le_of_ble_eq_true rfl) hRf, Nat.le_trans (Nat.le_of_ble_eq_true rfl) hRl⟩ rfl hl.1 rfl (Nat.le_of_ble_eq_true rfl) d_q_TextWriter_putCharacters_62 hRc hS (fun H locs hP hS => ?_)
      refine q_writeVv (n := 3) (As := [.ref ba, .int (nI ((((pcS 2 ty n us bt k).1) * 45) + (cvN 2 (ty k)))), .int (nI (gsz 2 ((pcS 2 ty n us bt k).2.1 + 1)))]) (rest := []) (wc := [(tw, .inr (6, [.int (nI ((pcS 2 ty n us bt k).2.2.1))])), (ba, .inl (cI, 26, .inl (fun j => nI (((pcS 2 ty n us bt k).2.2.2) j))))]) (wr := [(qt, .inl (cC, 45, .inl (fun j => nI (ty j))))]) (w1 := [(tw, .inr (6, [.int (nI (((pcS 2 ty n us bt k).2.2.1) + (gsz 2 ((pcS 2 ty n us bt k).2.1 + 1))))])), (ba, .inl (cI, 26, .inl (fun j => nI ((ptC ((pcS 2 ty n us bt k).2.2.2) ((pcS 2 ty n us bt k).2.2.1) ((((pcS 2 ty n us bt k).1) * 45) + (cvN 2 (ty k))) (gsz 2 ((pcS 2 ty n us bt k).2.1 + 1)) (gsz 2 ((pcS 2 ty n us bt k).2.1 + 1))) j))))]) S (c_q_TextWriter_put l D cI cC tw ((pcS 2 ty n us bt k).2.2.1) ba ((((pcS 2 ty n us bt k).1) * 45) + (cvN 2 (ty k))) (gsz 2 ((pcS 2 ty n us bt k).2.1 + 1)) ((pcS 2 ty n us bt k).2.2.2) hs2 (Nat.le_trans (gsz_le _ _) (by decide)) (Nat.le_trans (hs3 (by first | exact Or.inl g43 | exact Or.inr g52)) hm) H.size) hK hP hD hA (q0 := 0) rfl rfl [0, 1] [2] rfl rfl rfl rfl (by decide) rfl (q_goodV kw_494 kw_496 ks_5 kw_6 kw_497) (by decide +kernel) rfl rfl rfl ⟨Nat.le_trans (Nat.le_of_ble_eq_true rfl) hRf, Nat.le_trans (Nat.le_of_ble_eq_true rfl) hRl⟩ rfl hl.1 rfl (Nat.le_of_ble_eq_true rfl) d_q_TextWriter_putCharacters_65 hRc hS (fun H locs hP hD hS => ?_)
      replace hP : va_P D classes [(tw, .inr (6, [.int (nI (((pcS 2 ty n us bt k).2.2.1) + (gsz 2 ((pcS 2 ty n us bt k).2.1 + 1))))])), (ba, .inl (cI, 26, .inl (fun j => nI ((ptC ((pcS 2 ty n us bt k).2.2.2) ((pcS 2 ty n us bt k).2.2.1) ((((pcS 2 ty n us bt k).1) * 45) + (cvN 2 (ty k))) (gsz 2 ((pcS 2 ty n us bt k).2.1 + 1)) (gsz 2 ((pcS 2 ty n us bt k).2.1 + 1))) j)))), (qt, .inl (cC, 45, .inl (fun j => nI (ty j))))] H := hP.sub [1, 2, 0] rfl
      replace hD : va_D A [(tw, .inr (6, [.int (nI (((pcS 2 ty n us bt k).2.2.1) + (gsz 2 ((pcS 2 ty n us bt k).2.1 + 1))))])), (ba, .inl (cI, 26, .inl (fun j => nI ((ptC ((pcS 2 ty n us bt k).2.2.2) ((pcS 2 ty n us bt k).2.2.1) ((((pcS 2 ty n us bt k).1) * 45) + (cvN 2 (ty k))) (gsz 2 ((pcS 2 ty n us bt k).2.1 + 1)) (gsz 2 ((pcS 2 ty n us bt k).2.1 + 1))) j)))), (qt, .inl (cC, 45, .inl (fun j => nI (ty j))))] := hD.sub [1, 2, 0] rfl rfl
      refine lv_iconst (v := nI 0) hx hb d_q_TextWriter_putCharacters_68 (by decide) ?_
      refine lv_istore hx hb d_q_TextWriter_putCharacters_69 hl (Nat.le_of_ble_eq_true rfl) rfl (fun ls hl => ?_)
      have hl : lv_has ls 8 [(5, .int (nI 0)), (6, .int (nI ((pcS 2 ty n us bt k).2.1 + 1))), (0, .ref tw), (1, .ref ba), (2, .ref (sa 8)), (3, .ref qt), (4, .int (nI n)), (7, .int (nI k))] := hl
      refine lv_iconst (v := nI 0) hx hb d_q_TextWriter_putCharacters_71 (by decide) ?_
      refine lv_istore hx hb d_q_TextWriter_putCharacters_72 hl (Nat.le_of_ble_eq_true rfl) rfl (fun ls hl => ?_)
      have hl : lv_has ls 8 [(6, .int (nI 0)), (5, .int (nI 0)), (0, .ref tw), (1, .ref ba), (2, .ref (sa 8)), (3, .ref qt), (4, .int (nI n)), (7, .int (nI k))] := hl
      have hpq := pcS_t (kd := 2) (t := ty) (n := n) (us := us) (y := bt) (k := k) (by first | exact Or.inl g43 | exact Or.inr g52)
      have hl : lv_has ls 8 [(6, .int (nI ((pcS 2 ty n us bt (k + 1)).2.1))), (5, .int (nI ((pcS 2 ty n us bt (k + 1)).1))), (0, .ref tw), (1, .ref ba), (2, .ref (sa 8)), (3, .ref qt), (4, .int (nI n)), (7, .int (nI k))] := lv_re hl (by rw [hpq] <;> rfl)
      have hP : va_P D classes [(tw, .inr (6, [.int (nI ((pcS 2 ty n us bt (k + 1)).2.2.1))])), (ba, .inl (cI, 26, .inl (fun j => nI (((pcS 2 ty n us bt (k + 1)).2.2.2) j)))), (qt, .inl (cC, 45, .inl (fun j => nI (ty j))))] H := by rw [hpq]; exact hP
      have hD : va_D A [(tw, .inr (6, [.int (nI ((pcS 2 ty n us bt (k + 1)).2.2.1))])), (ba, .inl (cI, 26, .inl (fun j => nI (((pcS 2 ty n us bt (k + 1)).2.2.2) j)))), (qt, .inl (cC, 45, .inl (fun j => nI (ty j))))] := by rw [hpq]; exact hD
      refine lv_iinc (k := 7) (v := nI (k + 1)) hx hb d_q_TextWriter_putCharacters_74 hl rfl (nx_inc k 1) (Nat.le_of_ble_eq_true rfl) rfl (fun ls hl => ?_)
      have hl : lv_has ls 8 [(7, .int (nI (k + 1))), (6, .int (nI ((pcS 2 ty n us bt (k + 1)).2.1))), (5, .int (nI ((pcS 2 ty n us bt (k + 1)).1))), (0, .ref tw), (1, .ref ba), (2, .ref (sa 8)), (3, .ref qt), (4, .int (nI n))] := hl
      refine lv_goto hx hb d_q_TextWriter_putCharacters_77 (tgt := 9) rfl ?_
      exact ih (by omega) ls H locs (lv_sub hl [3, 4, 5, 6, 7, 2, 1, 0] rfl) hP hD hS
    · skip
      refine lv_iload hx hb d_q_TextWriter_putCharacters_46 (lv_at hl 7 rfl) ?_
      refine lv_iload hx hb d_q_TextWriter_putCharacters_48 (lv_at hl 6 rfl) ?_
      refine lv_iconst (v := nI 1) hx hb d_q_TextWriter_putCharacters_50 (by decide) ?_
      refine n_isub hx hb d_q_TextWriter_putCharacters_51 (by omega) ?_
      refine n_icmp_ne hx hb d_q_TextWriter_putCharacters_52 (tgt := 74) rfl (by omega) (by omega) (fun g52 => ?_) (fun g52 => ?_)
      · skip
        have hpq := pcS_f (kd := 2) (t := ty) (n := n) (us := us) (y := bt) (k := k) g43 g52
        have hl : lv_has ls 8 [(6, .int (nI ((pcS 2 ty n us bt (k + 1)).2.1))), (5, .int (nI ((pcS 2 ty n us bt (k + 1)).1))), (0, .ref tw), (1, .ref ba), (2, .ref (sa 8)), (3, .ref qt), (4, .int (nI n)), (7, .int (nI k))] := lv_re hl (by rw [hpq] <;> rfl)
        have hP : va_P D classes [(tw, .inr (6, [.int (nI ((pcS 2 ty n us bt (k + 1)).2.2.1))])), (ba, .inl (cI, 26, .inl (fun j => nI (((pcS 2 ty n us bt (k + 1)).2.2.2) j)))), (qt, .inl (cC, 45, .inl (fun j => nI (ty j))))] H := by rw [hpq]; exact hP
        have hD : va_D A [(tw, .inr (6, [.int (nI ((pcS 2 ty n us bt (k + 1)).2.2.1))])), (ba, .inl (cI, 26, .inl (fun j => nI (((pcS 2 ty n us bt (k + 1)).2.2.2) j)))), (qt, .inl (cC, 45, .inl (fun j => nI (ty j))))] := by rw [hpq]; exact hD
        refine lv_iinc (k := 7) (v := nI (k + 1)) hx hb d_q_TextWriter_putCharacters_74 hl rfl (nx_inc k 1) (Nat.le_of_ble_eq_true rfl) rfl (fun ls hl => ?_)
        have hl : lv_has ls 8 [(7, .int (nI (k + 1))), (6, .int (nI ((pcS 2 ty n us bt (k + 1)).2.1))), (5, .int (nI ((pcS 2 ty n us bt (k + 1)).1))), (0, .ref tw), (1, .ref ba), (2, .ref (sa 8)), (3, .ref qt), (4, .int (nI n))] := hl
        refine lv_goto hx hb d_q_TextWriter_putCharacters_77 (tgt := 9) rfl ?_
        exact ih (by omega) ls H locs (lv_sub hl [3, 4, 5, 6, 7, 2, 1, 0] rfl) hP hD hS
      · skip
        refine lv_aload_n hx hb d_q_TextWriter_putCharacters_55 rfl (lv_at hl 2 rfl) ?_
        refine lv_aload_n hx hb d_q_TextWriter_putCharacters_56 rfl (lv_at hl 3 rfl) ?_
        refine lv_iload hx hb d_q_TextWriter_putCharacters_57 (lv_at hl 1 rfl) ?_
        refine lv_aload_n hx hb d_q_TextWriter_putCharacters_59 rfl (lv_at hl 4 rfl) ?_
        refine lv_iload hx hb d_q_TextWriter_putCharacters_60 (lv_at hl 0 rfl) ?_
        refine q_readVr (n := 1) (As := [.int (nI ((pcS 2 ty n us bt k).2.1 + 1))]) (rest := [.int (nI ((((pcS 2 ty n us bt k).1) * 45) + (cvN 2 (ty k)))), .ref ba, .ref tw]) (wc := []) S (c_q_Kind_groupBits_1 l D cI cC sa ((pcS 2 ty n us bt k).2.1 + 1) (by omega) (by omega)) hSt hK hP (o_recv (ko_1 hSt) hS) [] rfl (q_goodV kw_503 kw_490 kw_491 kw_16 kw_492) (by decide +kernel) rfl rfl rfl ⟨Nat.le_trans (Nat.le_of_ble_eq_true rfl) hRf, Nat.le_trans (Nat.le_of_ble_eq_true rfl) hRl⟩ rfl hl.1 rfl (Nat.le_of_ble_eq_true rfl) d_q_TextWriter_putCharacters_62 hRc hS (fun H locs hP hS => ?_)
        refine q_writeVv (n := 3) (As := [.ref ba, .int (nI ((((pcS 2 ty n us bt k).1) * 45) + (cvN 2 (ty k)))), .int (nI (gsz 2 ((pcS 2 ty n us bt k).2.1 + 1)))]) (rest := []) (wc := [(tw, .inr (6, [.int (nI ((pcS 2 ty n us bt k).2.2.1))])), (ba, .inl (cI, 26, .inl (fun j => nI (((pcS 2 ty n us bt k).2.2.2) j))))]) (wr := [(qt, .inl (cC, 45, .inl (fun j => nI (ty j))))]) (w1 := [(tw, .inr (6, [.int (nI (((pcS 2 ty n us bt k).2.2.1) + (gsz 2 ((pcS 2 ty n us bt k).2.1 + 1))))])), (ba, .inl (cI, 26, .inl (fun j => nI ((ptC ((pcS 2 ty n us bt k).2.2.2) ((pcS 2 ty n us bt k).2.2.1) ((((pcS 2 ty n us bt k).1) * 45) + (cvN 2 (ty k))) (gsz 2 ((pcS 2 ty n us bt k).2.1 + 1)) (gsz 2 ((pcS 2 ty n us bt k).2.1 + 1))) j))))]) S (c_q_TextWriter_put l D cI cC tw ((pcS 2 ty n us bt k).2.2.1) ba ((((pcS 2 ty n us bt k).1) * 45) + (cvN 2 (ty k))) (gsz 2 ((pcS 2 ty n us bt k).2.1 + 1)) ((pcS 2 ty n us bt k).2.2.2) hs2 (Nat.le_trans (gsz_le _ _) (by decide)) (Nat.le_trans (hs3 (by first | exact Or.inl g43 | exact Or.inr g52)) hm) H.size) hK hP hD hA (q0 := 0) rfl rfl [0, 1] [2] rfl rfl rfl rfl (by decide) rfl (q_goodV kw_494 kw_496 ks_5 kw_6 kw_497) (by decide +kernel) rfl rfl rfl ⟨Nat.le_trans (Nat.le_of_ble_eq_true rfl) hRf, Nat.le_trans (Nat.le_of_ble_eq_true rfl) hRl⟩ rfl hl.1 rfl (Nat.le_of_ble_eq_true rfl) d_q_TextWriter_putCharacters_65 hRc hS (fun H locs hP hD hS => ?_)
        replace hP : va_P D classes [(tw, .inr (6, [.int (nI (((pcS 2 ty n us bt k).2.2.1) + (gsz 2 ((pcS 2 ty n us bt k).2.1 + 1))))])), (ba, .inl (cI, 26, .inl (fun j => nI ((ptC ((pcS 2 ty n us bt k).2.2.2) ((pcS 2 ty n us bt k).2.2.1) ((((pcS 2 ty n us bt k).1) * 45) + (cvN 2 (ty k))) (gsz 2 ((pcS 2 ty n us bt k).2.1 + 1)) (gsz 2 ((pcS 2 ty n us bt k).2.1 + 1))) j)))), (qt, .inl (cC, 45, .inl (fun j => nI (ty j))))] H := hP.sub [1, 2, 0] rfl
        replace hD : va_D A [(tw, .inr (6, [.int (nI (((pcS 2 ty n us bt k).2.2.1) + (gsz 2 ((pcS 2 ty n us bt k).2.1 + 1))))])), (ba, .inl (cI, 26, .inl (fun j => nI ((ptC ((pcS 2 ty n us bt k).2.2.2) ((pcS 2 ty n us bt k).2.2.1) ((((pcS 2 ty n us bt k).1) * 45) + (cvN 2 (ty k))) (gsz 2 ((pcS 2 ty n us bt k).2.1 + 1)) (gsz 2 ((pcS 2 ty n us bt k).2.1 + 1))) j)))), (qt, .inl (cC, 45, .inl (fun j => nI (ty j))))] := hD.sub [1, 2, 0] rfl rfl
        refine lv_iconst (v := nI 0) hx hb d_q_TextWriter_putCharacters_68 (by decide) ?_
        refine lv_istore hx hb d_q_TextWriter_putCharacters_69 hl (Nat.le_of_ble_eq_true rfl) rfl (fun ls hl => ?_)
        have hl : lv_has ls 8 [(5, .int (nI 0)), (6, .int (nI ((pcS 2 ty n us bt k).2.1 + 1))), (0, .ref tw), (1, .ref ba), (2, .ref (sa 8)), (3, .ref qt), (4, .int (nI n)), (7, .int (nI k))] := hl
        refine lv_iconst (v := nI 0) hx hb d_q_TextWriter_putCharacters_71 (by decide) ?_
        refine lv_istore hx hb d_q_TextWriter_putCharacters_72 hl (Nat.le_of_ble_eq_true rfl) rfl (fun ls hl => ?_)
        have hl : lv_has ls 8 [(6, .int (nI 0)), (5, .int (nI 0)), (0, .ref tw), (1, .ref ba), (2, .ref (sa 8)), (3, .ref qt), (4, .int (nI n)), (7, .int (nI k))] := hl
        have hpq := pcS_t (kd := 2) (t := ty) (n := n) (us := us) (y := bt) (k := k) (by first | exact Or.inl g43 | exact Or.inr g52)
        have hl : lv_has ls 8 [(6, .int (nI ((pcS 2 ty n us bt (k + 1)).2.1))), (5, .int (nI ((pcS 2 ty n us bt (k + 1)).1))), (0, .ref tw), (1, .ref ba), (2, .ref (sa 8)), (3, .ref qt), (4, .int (nI n)), (7, .int (nI k))] := lv_re hl (by rw [hpq] <;> rfl)
        have hP : va_P D classes [(tw, .inr (6, [.int (nI ((pcS 2 ty n us bt (k + 1)).2.2.1))])), (ba, .inl (cI, 26, .inl (fun j => nI (((pcS 2 ty n us bt (k + 1)).2.2.2) j)))), (qt, .inl (cC, 45, .inl (fun j => nI (ty j))))] H := by rw [hpq]; exact hP
        have hD : va_D A [(tw, .inr (6, [.int (nI ((pcS 2 ty n us bt (k + 1)).2.2.1))])), (ba, .inl (cI, 26, .inl (fun j => nI (((pcS 2 ty n us bt (k + 1)).2.2.2) j)))), (qt, .inl (cC, 45, .inl (fun j => nI (ty j))))] := by rw [hpq]; exact hD
        refine lv_iinc (k := 7) (v := nI (k + 1)) hx hb d_q_TextWriter_putCharacters_74 hl rfl (nx_inc k 1) (Nat.le_of_ble_eq_true rfl) rfl (fun ls hl => ?_)
        have hl : lv_has ls 8 [(7, .int (nI (k + 1))), (6, .int (nI ((pcS 2 ty n us bt (k + 1)).2.1))), (5, .int (nI ((pcS 2 ty n us bt (k + 1)).1))), (0, .ref tw), (1, .ref ba), (2, .ref (sa 8)), (3, .ref qt), (4, .int (nI n))] := hl
        refine lv_goto hx hb d_q_TextWriter_putCharacters_77 (tgt := 9) rfl ?_
        exact ih (by omega) ls H locs (lv_sub hl [3, 4, 5, 6, 7, 2, 1, 0] rfl) hP hD hS
set_option maxHeartbeats 1000000 in
set_option maxRecDepth 100000 in
theorem bd_q_TextWriter_putCharacters_1 (cI cC : ClassId) (sa : Nat → Nat) (tw us ba qt n : Nat) (bt ty : Nat → Nat) (hn0 : n ≤ 45) (hty : ∀ j, j < n → ty j < 127) (hall : ∀ j, j < n → (0 ≤ plI (ty j))) (hm : us + bfN 2 n ≤ 208) (S : CallFix p m c b_q_TextWriter_putCharacters 8 s args (cd_q_TextWriter_putCharacters :: WS) R_TextWriter) (hRf : 5 ≤ R.frames) (hRl : 113 ≤ R.locals) (hRc : cells ≤ R.cells ∧ slots ≤ R.slots) (hK : va_K D classes [(cI, .int), (cC, .char)] s) (hA : ∀ q, s.heap.size ≤ q → A q) (hSt : SB sa A s s.heap) (kr : ∀ (pc : Nat) (ls : Array Slot) (H : Heap) (locs : List Loc), decode b_q_TextWriter_putCharacters pc = .ok (.return_, 1) → va_P D classes [(tw, .inr (6, [.int (nI ((pcS 2 ty n us bt n).2.2.1))])), (ba, .inl (cI, 26, .inl (fun j => nI (((pcS 2 ty n us bt n).2.2.2) j)))), (qt, .inl (cC, 45, .inl (fun j => nI (ty j))))] H → va_D A [(tw, .inr (6, [.int (nI ((pcS 2 ty n us bt n).2.2.1))])), (ba, .inl (cI, 26, .inl (fun j => nI (((pcS 2 ty n us bt n).2.2.2) j)))), (qt, .inl (cC, 45, .inl (fun j => nI (ty j))))] → va_S A s.heap H locs → W p l e R s m args below meth c H locs cells slots Q (F0 m pc ls [])) : ∀ (ls : Array Slot) (H : Heap) (locs : List Loc), lv_has ls 8 [(0, .ref tw), (1, .ref ba), (2, .ref (sa 8)), (3, .ref qt), (4, .int (nI n))] → va_P D classes [(tw, .inr (6, [.int (nI us)])), (ba, .inl (cI, 26, .inl (fun j => nI (bt j)))), (qt, .inl (cC, 45, .inl (fun j => nI (ty j))))] H → va_D A [(tw, .inr (6, [.int (nI us)])), (ba, .inl (cI, 26, .inl (fun j => nI (bt j)))), (qt, .inl (cC, 45, .inl (fun j => nI (ty j))))] → va_S A s.heap H locs → W p l e R s m args below meth c H locs cells slots Q (F0 m 0 ls []) := by
  obtain ⟨hx, hb, hml, hown, hts⟩ := id S
  intro ls H locs hl hP hD hS
  refine lv_iconst (v := nI 0) hx hb d_q_TextWriter_putCharacters_0 (by decide) ?_
  refine lv_istore hx hb d_q_TextWriter_putCharacters_1 hl (Nat.le_of_ble_eq_true rfl) rfl (fun ls hl => ?_)
  have hl : lv_has ls 8 [(5, .int (nI 0)), (0, .ref tw), (1, .ref ba), (2, .ref (sa 8)), (3, .ref qt), (4, .int (nI n))] := hl
  refine lv_iconst (v := nI 0) hx hb d_q_TextWriter_putCharacters_3 (by decide) ?_
  refine lv_istore hx hb d_q_TextWriter_putCharacters_4 hl (Nat.le_of_ble_eq_true rfl) rfl (fun ls hl => ?_)
  have hl : lv_has ls 8 [(6, .int (nI 0)), (5, .int (nI 0)), (0, .ref tw), (1, .ref ba), (2, .ref (sa 8)), (3, .ref qt), (4, .int (nI n))] := hl
  refine lv_iconst (v := nI 0) hx hb d_q_TextWriter_putCharacters_6 (by decide) ?_
  refine lv_istore hx hb d_q_TextWriter_putCharacters_7 hl (Nat.le_of_ble_eq_true rfl) rfl (fun ls hl => ?_)
  have hl : lv_has ls 8 [(7, .int (nI 0)), (6, .int (nI 0)), (5, .int (nI 0)), (0, .ref tw), (1, .ref ba), (2, .ref (sa 8)), (3, .ref qt), (4, .int (nI n))] := hl
  refine lp_q_TextWriter_putCharacters_1_9 cI cC sa tw us ba qt n bt ty hn0 hty hall hm S hRf hRl hRc hK hA hSt  (fun ls H locs hl hP hD hS => ?_) 0 (by omega) ls H locs (lv_sub hl [3, 4, 5, 6, 7, 2, 1, 0] rfl) hP hD hS
  exact kr _ ls H locs d_q_TextWriter_putCharacters_80 hP hD hS
set_option maxHeartbeats 1000000 in
set_option maxRecDepth 100000 in
theorem c_q_TextWriter_putCharacters_1 (l : Launch) (D : va_G) (cI cC : ClassId) (sa : Nat → Nat) (tw us ba qt n : Nat) (bt ty : Nat → Nat) (hn0 : n ≤ 45) (hty : ∀ j, j < n → ty j < 127) (hall : ∀ j, j < n → (0 ≤ plI (ty j))) (hm : us + bfN 2 n ≤ 208) (sz : Nat) : Met l y_q_TextWriter_putCharacters (cd_q_TextWriter_putCharacters :: WS) { frames := 5, cells := 0, slots := 0, locals := 113 } (va_Pc [.ref tw, .ref ba, .ref (sa 8), .ref qt, .int (nI n)] (swP sa D [(tw, .inr (6, [.int (nI us)])), (ba, .inl (cI, 26, .inl (fun j => nI (bt j)))), (qt, .inl (cC, 45, .inl (fun j => nI (ty j))))] [(cI, .int), (cC, .char)] sz)) (wQv D [(tw, .inr (6, [.int (nI us)])), (ba, .inl (cI, 26, .inl (fun j => nI (bt j)))), (qt, .inl (cC, 45, .inl (fun j => nI (ty j))))] [(tw, .inr (6, [.int (nI ((pcS 2 ty n us bt n).2.2.1))])), (ba, .inl (cI, 26, .inl (fun j => nI (((pcS 2 ty n us bt n).2.2.2) j)))), (qt, .inl (cC, 45, .inl (fun j => nI (ty j))))] sz) 0 0 (va_A [(tw, .inr (6, [.int (nI us)])), (ba, .inl (cI, 26, .inl (fun j => nI (bt j)))), (qt, .inl (cC, 45, .inl (fun j => nI (ty j))))] sz) := by
  refine Met.ofW (cc := b_q_TextWriter_putCharacters) (maxL := 8) (ret := none) (by decide) rfl ?_
  intro p e s m args below meth c s₁ B hml hv0
  obtain ⟨rfl, ⟨hP, hK, hD0, hsz⟩, hSt⟩ := hv0
  have hts := atoms_spec (ws := cd_q_TextWriter_putCharacters :: WS) B.pre
  have hown : s.vm.findClass R_TextWriter = some m.cls := findClass_of_methodNamed B.named
  have hlocks := B.notSynchronized
  subst hsz
  have hD := hD0.self (sz := s.heap.size)
  have hl := lv_entry ([.ref tw, .ref ba, .ref (sa 8), .ref qt, .int (nI n)]) (n := 8) (Nat.le_of_ble_eq_true rfl)
  rw [lg_entry_eq]
  generalize (lg_sl ([.ref tw, .ref ba, .ref (sa 8), .ref qt, .int (nI n)]) ++ List.replicate (8 - (lg_sl ([.ref tw, .ref ba, .ref (sa 8), .ref qt, .int (nI n)])).length) Slot.unset).toArray = ls at hl ⊢
  refine bd_q_TextWriter_putCharacters_1 cI cC sa tw us ba qt n bt ty hn0 hty hall hm ⟨B.exec, B.bytes, hml, hown, hts⟩ (Nat.le_refl _) (Nat.le_refl _) ⟨Nat.le_refl _, Nat.le_refl _⟩ hK (fun q h => Or.inr h) hSt (fun pc ls H locs hd hP hD hS => ?_) ls _ _ hl hP hD (va_S.rf)
  exact W.vret B.exec B.bytes B.returns (fun t ht _ => ⟨⟨(), rfl, trivial, (by have h9 := hP; rw [← ht] at h9; exact h9)⟩, hS.F ht⟩) hS.2.2 hd
end
section
variable {p : Program} {l : Launch} {e : Env} {R : Room} {s : State} {m : MethodId} {args : Array Value} {below : List Frame} {meth : Method} {c : Code} {cells slots : Nat} {Q : State → Prop} {A : Nat → Prop} {H0 : Heap} {D : va_G}
set_option maxHeartbeats 1000000 in
set_option maxRecDepth 100000 in
theorem bd_q_TextWriter_fillData_1_no (cI cC : ClassId) (sa : Nat → Nat) (tw us ba qt n dt x0 : Nat) (bt ty : Nat → Nat) (hn0 : n ≤ 45) (hd5 : dt ≤ 25) (hty : ∀ j, j < n → ty j < 127) (hd1 : x0 < n) (hd2 : ¬ (0 ≤ plI (ty x0) ∧ plI (ty x0) ≤ nI 9)) (hd3 : ∀ j, j < x0 → (0 ≤ plI (ty j) ∧ plI (ty j) ≤ nI 9)) (hp0 : ∀ j, j < n → (0 ≤ plI (ty j))) (hno : 8 * dt < 4 + gwd 2 + bfN 2 n) (S : CallFix p m c b_q_TextWriter_fillData 7 s args (cd_q_TextWriter_fillData :: WS) R_TextWriter) (hRf : 7 ≤ R.frames) (hRl : 161 ≤ R.locals) (hRc : cells ≤ R.cells ∧ slots ≤ R.slots) (hK : va_K D classes [(cI, .int), (cC, .char)] s) (hSt : SB sa A s s.heap) (kr : ∀ (pc : Nat) (ls : Array Slot) (H : Heap) (locs : List Loc), decode b_q_TextWriter_fillData pc = .ok (.ireturn, 1) → va_P D classes [(tw, .inr (6, [.int (nI us)])), (ba, .inl (cI, 26, .inl (fun j => nI (bt j)))), (qt, .inl (cC, 45, .inl (fun j => nI (ty j))))] H → va_S A s.heap H locs → W p l e R s m args below meth c H locs cells slots Q (F0 m pc ls [.int (nI 0)])) : ∀ (ls : Array Slot) (H : Heap) (locs : List Loc), lv_has ls 7 [(0, .ref tw), (1, .ref qt), (2, .int (nI n)), (3, .ref ba), (4, .int (nI dt))] → va_P D classes [(tw, .inr (6, [.int (nI us)])), (ba, .inl (cI, 26, .inl (fun j => nI (bt j)))), (qt, .inl (cC, 45, .inl (fun j => nI (ty j))))] H → va_S A s.heap H locs → W p l e R s m args below meth c H locs cells slots Q (F0 m 0 ls []) := by
  obtain ⟨hx, hb, hml, hown, hts⟩ := id S
  intro ls H locs hl hP hS
  have hbfm : 4 + gwd 2 + bfN 2 n ≤ 600 := bf_max (Or.inr (Or.inl rfl)) hn0
  refine lv_aload_n hx hb d_q_TextWriter_fillData_0 rfl (lv_at hl 1 rfl) ?_
  refine lv_iload_n hx hb d_q_TextWriter_fillData_1 rfl (lv_at hl 2 rfl) ?_
  refine q_readSq (n := 2) (As := [.ref qt, .int (nI n)]) (rest := []) (wc := [(qt, .inl (cC, 45, .inl (fun j => nI (ty j))))]) S (c_q_Kind_fitting_1 l D cI cC sa qt ty n _ hn0 hty hd1 hd2 hd3 hp0) hSt hK hP [2] rfl (q_goodS kw_382 kw_383 kw_16 kw_384) (by decide +kernel) rfl rfl ⟨Nat.le_trans (Nat.le_of_ble_eq_true rfl) hRf, Nat.le_trans (Nat.le_of_ble_eq_true rfl) hRl⟩ rfl hl.1 rfl (Nat.le_of_ble_eq_true rfl) d_q_TextWriter_fillData_2 hRc hS (fun H locs hP hS => ?_)
  refine lv_astore hx hb d_q_TextWriter_fillData_5 hl (Nat.le_of_ble_eq_true rfl) rfl (fun ls hl => ?_)
  have hl : lv_has ls 7 [(5, .ref (sa 8)), (0, .ref tw), (1, .ref qt), (2, .int (nI n)), (3, .ref ba), (4, .int (nI dt))] := hl
  refine lv_aload hx hb d_q_TextWriter_fillData_7 (lv_at hl 0 rfl) ?_
  refine lv_iload_n hx hb d_q_TextWriter_fillData_9 rfl (lv_at hl 3 rfl) ?_
  refine q_readVr (n := 1) (As := [.int (nI n)]) (rest := []) (wc := []) S (c_q_Kind_bitsFor_1 l D cI cC sa n hn0) hSt hK hP (o_recv (ko_1 hSt) hS) [] rfl (q_goodV kw_485 kw_486 kw_487 kw_16 kw_488) (by decide +kernel) rfl rfl rfl ⟨Nat.le_trans (Nat.le_of_ble_eq_true rfl) hRf, Nat.le_trans (Nat.le_of_ble_eq_true rfl) hRl⟩ rfl hl.1 rfl (Nat.le_of_ble_eq_true rfl) d_q_TextWriter_fillData_10 hRc hS (fun H locs hP hS => ?_)
  refine lv_bipush (v := nI 8) hx hb d_q_TextWriter_fillData_13 (by decide) ?_
  refine lv_iload hx hb d_q_TextWriter_fillData_15 (lv_at hl 5 rfl) ?_
  refine n_imul hx hb d_q_TextWriter_fillData_17 ?_
  refine n_icmp_le hx hb d_q_TextWriter_fillData_18 (tgt := 23) rfl (Nat.lt_of_le_of_lt hbfm (by decide)) (by omega) (fun g18 => absurd g18 (by omega)) (fun g18 => ?_)
  refine lv_iconst (v := nI 0) hx hb d_q_TextWriter_fillData_21 (by decide) ?_
  exact kr _ ls H locs d_q_TextWriter_fillData_22 hP hS
set_option maxHeartbeats 1000000 in
set_option maxRecDepth 100000 in
theorem c_q_TextWriter_fillData_1_no (l : Launch) (D : va_G) (cI cC : ClassId) (sa : Nat → Nat) (tw us ba qt n dt x0 : Nat) (bt ty : Nat → Nat) (hn0 : n ≤ 45) (hd5 : dt ≤ 25) (hty : ∀ j, j < n → ty j < 127) (hd1 : x0 < n) (hd2 : ¬ (0 ≤ plI (ty x0) ∧ plI (ty x0) ≤ nI 9)) (hd3 : ∀ j, j < x0 → (0 ≤ plI (ty j) ∧ plI (ty j) ≤ nI 9)) (hp0 : ∀ j, j < n → (0 ≤ plI (ty j))) (hno : 8 * dt < 4 + gwd 2 + bfN 2 n) : Met l y_q_TextWriter_fillData (cd_q_TextWriter_fillData :: WS) { frames := 7, cells := 0, slots := 0, locals := 161 } (va_Pc [.ref tw, .ref qt, .int (nI n), .ref ba, .int (nI dt)] (srP sa D [(tw, .inr (6, [.int (nI us)])), (ba, .inl (cI, 26, .inl (fun j => nI (bt j)))), (qt, .inl (cC, 45, .inl (fun j => nI (ty j))))] [(cI, .int), (cC, .char)])) (pQ (nI 0)) 0 0 noA := by
  refine Met.ofW (cc := b_q_TextWriter_fillData) (maxL := 7) (ret := (some .boolean)) (by decide) rfl ?_
  intro p e s m args below meth c s₁ B hml hv0
  obtain ⟨rfl, ⟨hP, hK⟩, hSt⟩ := hv0
  have hts := atoms_spec (ws := cd_q_TextWriter_fillData :: WS) B.pre
  have hown : s.vm.findClass R_TextWriter = some m.cls := findClass_of_methodNamed B.named
  have hlocks := B.notSynchronized
  have hl := lv_entry ([.ref tw, .ref qt, .int (nI n), .ref ba, .int (nI dt)]) (n := 7) (Nat.le_of_ble_eq_true rfl)
  rw [lg_entry_eq]
  generalize (lg_sl ([.ref tw, .ref qt, .int (nI n), .ref ba, .int (nI dt)]) ++ List.replicate (7 - (lg_sl ([.ref tw, .ref qt, .int (nI n), .ref ba, .int (nI dt)])).length) Slot.unset).toArray = ls at hl ⊢
  refine bd_q_TextWriter_fillData_1_no cI cC sa tw us ba qt n dt x0 bt ty hn0 hd5 hty hd1 hd2 hd3 hp0 hno ⟨B.exec, B.bytes, hml, hown, hts⟩ (Nat.le_refl _) (Nat.le_refl _) ⟨Nat.le_refl _, Nat.le_refl _⟩ hK hSt (fun pc ls H locs hd hP hS => ?_) ls _ _ hl hP (va_S.rf (A := noA))
  exact W.zret B.exec B.bytes B.returns rfl (fun t ht _ => ⟨⟨_, (), rfl, rfl, trivial⟩, hS.F ht⟩) hS.2.2 hd
end
section
variable {p : Program} {l : Launch} {e : Env} {R : Room} {s : State} {m : MethodId} {args : Array Value} {below : List Frame} {meth : Method} {c : Code} {cells slots : Nat} {Q : State → Prop} {A : Nat → Prop} {H0 : Heap} {D : va_G}
set_option maxHeartbeats 1000000 in
set_option maxRecDepth 100000 in
theorem bd_q_TextWriter_fillData_1_ok (cI cC : ClassId) (sa : Nat → Nat) (tw us ba qt n dt x0 : Nat) (bt ty : Nat → Nat) (hn0 : n ≤ 45) (hd5 : dt ≤ 25) (hty : ∀ j, j < n → ty j < 127) (hd1 : x0 < n) (hd2 : ¬ (0 ≤ plI (ty x0) ∧ plI (ty x0) ≤ nI 9)) (hd3 : ∀ j, j < x0 → (0 ≤ plI (ty j) ∧ plI (ty j) ≤ nI 9)) (hp0 : ∀ j, j < n → (0 ≤ plI (ty j))) (hfit : 4 + gwd 2 + bfN 2 n ≤ 8 * dt) (S : CallFix p m c b_q_TextWriter_fillData 7 s args (cd_q_TextWriter_fillData :: WS) R_TextWriter) (hRf : 7 ≤ R.frames) (hRl : 161 ≤ R.locals) (hRc : cells ≤ R.cells ∧ slots ≤ R.slots) (hK : va_K D classes [(cI, .int), (cC, .char)] s) (hA : ∀ q, s.heap.size ≤ q → A q) (hSt : SB sa A s s.heap) (kr : ∀ (pc : Nat) (ls : Array Slot) (H : Heap) (locs : List Loc), decode b_q_TextWriter_fillData pc = .ok (.ireturn, 1) → va_P D classes [(tw, .inr (6, [.int (nI ((cxR 2 ty n (flL bt 0 26)).1))])), (ba, .inl (cI, 26, .inl (fun j => nI ((frL (cxR 2 ty n (flL bt 0 26)).2 ((min ((cxR 2 ty n (flL bt 0 26)).1 + 4) (8 * dt) + 7) / 8) (dt - ((min ((cxR 2 ty n (flL bt 0 26)).1 + 4) (8 * dt) + 7) / 8))) j)))), (qt, .inl (cC, 45, .inl (fun j => nI (ty j))))] H → va_D A [(tw, .inr (6, [.int (nI ((cxR 2 ty n (flL bt 0 26)).1))])), (ba, .inl (cI, 26, .inl (fun j => nI ((frL (cxR 2 ty n (flL bt 0 26)).2 ((min ((cxR 2 ty n (flL bt 0 26)).1 + 4) (8 * dt) + 7) / 8) (dt - ((min ((cxR 2 ty n (flL bt 0 26)).1 + 4) (8 * dt) + 7) / 8))) j)))), (qt, .inl (cC, 45, .inl (fun j => nI (ty j))))] → va_S A s.heap H locs → W p l e R s m args below meth c H locs cells slots Q (F0 m pc ls [.int (nI 1)])) : ∀ (ls : Array Slot) (H : Heap) (locs : List Loc), lv_has ls 7 [(0, .ref tw), (1, .ref qt), (2, .int (nI n)), (3, .ref ba), (4, .int (nI dt))] → va_P D classes [(tw, .inr (6, [.int (nI us)])), (ba, .inl (cI, 26, .inl (fun j => nI (bt j)))), (qt, .inl (cC, 45, .inl (fun j => nI (ty j))))] H → va_D A [(tw, .inr (6, [.int (nI us)])), (ba, .inl (cI, 26, .inl (fun j => nI (bt j)))), (qt, .inl (cC, 45, .inl (fun j => nI (ty j))))] → va_S A s.heap H locs → W p l e R s m args below meth c H locs cells slots Q (F0 m 0 ls []) := by
  obtain ⟨hx, hb, hml, hown, hts⟩ := id S
  intro ls H locs hl hP hD hS
  have hbfm : 4 + gwd 2 + bfN 2 n ≤ 600 := bf_max (Or.inr (Or.inl rfl)) hn0
  have hcx : (cxR 2 ty n (flL bt 0 26)).1 = 4 + gwd 2 + bfN 2 n := cx_len (y := (flL bt 0 26)) (Or.inr (Or.inl rfl)) (fun j hj => (pl_cv (ty j) (hty j hj) (hp0 j hj)).2)
  refine lv_aload_n hx hb d_q_TextWriter_fillData_0 rfl (lv_at hl 1 rfl) ?_
  refine lv_iload_n hx hb d_q_TextWriter_fillData_1 rfl (lv_at hl 2 rfl) ?_
  refine q_readSq (n := 2) (As := [.ref qt, .int (nI n)]) (rest := []) (wc := [(qt, .inl (cC, 45, .inl (fun j => nI (ty j))))]) S (c_q_Kind_fitting_1 l D cI cC sa qt ty n _ hn0 hty hd1 hd2 hd3 hp0) hSt hK hP [2] rfl (q_goodS kw_382 kw_383 kw_16 kw_384) (by decide +kernel) rfl rfl ⟨Nat.le_trans (Nat.le_of_ble_eq_true rfl) hRf, Nat.le_trans (Nat.le_of_ble_eq_true rfl) hRl⟩ rfl hl.1 rfl (Nat.le_of_ble_eq_true rfl) d_q_TextWriter_fillData_2 hRc hS (fun H locs hP hS => ?_)
  refine lv_astore hx hb d_q_TextWriter_fillData_5 hl (Nat.le_of_ble_eq_true rfl) rfl (fun ls hl => ?_)
  have hl : lv_has ls 7 [(5, .ref (sa 8)), (0, .ref tw), (1, .ref qt), (2, .int (nI n)), (3, .ref ba), (4, .int (nI dt))] := hl
  refine lv_aload hx hb d_q_TextWriter_fillData_7 (lv_at hl 0 rfl) ?_
  refine lv_iload_n hx hb d_q_TextWriter_fillData_9 rfl (lv_at hl 3 rfl) ?_
  refine q_readVr (n := 1) (As := [.int (nI n)]) (rest := []) (wc := []) S (c_q_Kind_bitsFor_1 l D cI cC sa n hn0) hSt hK hP (o_recv (ko_1 hSt) hS) [] rfl (q_goodV kw_485 kw_486 kw_487 kw_16 kw_488) (by decide +kernel) rfl rfl rfl ⟨Nat.le_trans (Nat.le_of_ble_eq_true rfl) hRf, Nat.le_trans (Nat.le_of_ble_eq_true rfl) hRl⟩ rfl hl.1 rfl (Nat.le_of_ble_eq_true rfl) d_q_TextWriter_fillData_10 hRc hS (fun H locs hP hS => ?_)
  refine lv_bipush (v := nI 8) hx hb d_q_TextWriter_fillData_13 (by decide) ?_
  refine lv_iload hx hb d_q_TextWriter_fillData_15 (lv_at hl 5 rfl) ?_
  refine n_imul hx hb d_q_TextWriter_fillData_17 ?_
  refine n_icmp_le hx hb d_q_TextWriter_fillData_18 (tgt := 23) rfl (Nat.lt_of_le_of_lt hbfm (by decide)) (by omega) (fun g18 => ?_) (fun g18 => absurd g18 (by omega))
  refine lv_aload_n hx hb d_q_TextWriter_fillData_23 rfl (lv_at hl 4 rfl) ?_
  refine lv_iconst (v := nI 0) hx hb d_q_TextWriter_fillData_24 (by decide) ?_
  refine q_writeSv (n := 2) (As := [.ref ba, .int (nI 0)]) (rest := []) (wc := [(ba, .inl (cI, 26, .inl (fun j => nI (bt j))))]) (wr := [(tw, .inr (6, [.int (nI us)])), (qt, .inl (cC, 45, .inl (fun j => nI (ty j))))]) (w1 := [(ba, .inl (cI, 26, .inl (fun j => nI ((flL bt 0 26) j))))]) S (c_j_Arrays_fill l D cI cC ba 26 bt 0 (by decide) H.size) hK hP hD hA [1] [0, 2] rfl rfl rfl rfl (by decide) rfl (q_goodS kw_493 kw_169 kw_9 kw_170) (by decide +kernel) rfl rfl ⟨Nat.le_trans (Nat.le_of_ble_eq_true rfl) hRf, Nat.le_trans (Nat.le_of_ble_eq_true rfl) hRl⟩ rfl hl.1 rfl (Nat.le_of_ble_eq_true rfl) d_q_TextWriter_fillData_25 hRc hS (fun H locs hP hD hS => ?_)
  replace hP : va_P D classes [(tw, .inr (6, [.int (nI us)])), (ba, .inl (cI, 26, .inl (fun j => nI ((flL bt 0 26) j)))), (qt, .inl (cC, 45, .inl (fun j => nI (ty j))))] H := hP.sub [0, 2, 1] rfl
  replace hD : va_D A [(tw, .inr (6, [.int (nI us)])), (ba, .inl (cI, 26, .inl (fun j => nI ((flL bt 0 26) j)))), (qt, .inl (cC, 45, .inl (fun j => nI (ty j))))] := hD.sub [0, 2, 1] rfl rfl
  refine lv_aload_n hx hb d_q_TextWriter_fillData_28 rfl (lv_at hl 1 rfl) ?_
  refine lv_iconst (v := nI 0) hx hb d_q_TextWriter_fillData_29 (by decide) ?_
  refine n_put (C := R_TextWriter) (T := F_TextWriter) (N := 1) (v := .int (nI 0)) hx hb hts u_TextWriter_in t_TextWriter t_TextWriter_ok n_TextWriter hown hK hP hD hS 0 rfl rfl 0 (by decide) kw_139 rfl rfl rfl (Nat.le_of_ble_eq_true rfl) d_q_TextWriter_fillData_30 (fun H locs hP hD hS => ?_)
  have hP : va_P D classes [(tw, .inr (6, [.int (nI 0)])), (ba, .inl (cI, 26, .inl (fun j => nI ((flL bt 0 26) j)))), (qt, .inl (cC, 45, .inl (fun j => nI (ty j))))] H := hP
  have hD : va_D A [(tw, .inr (6, [.int (nI 0)])), (ba, .inl (cI, 26, .inl (fun j => nI ((flL bt 0 26) j)))), (qt, .inl (cC, 45, .inl (fun j => nI (ty j))))] := hD
  refine lv_aload_n hx hb d_q_TextWriter_fillData_33 rfl (lv_at hl 1 rfl) ?_
  refine lv_aload_n hx hb d_q_TextWriter_fillData_34 rfl (lv_at hl 4 rfl) ?_
  refine lv_aload hx hb d_q_TextWriter_fillData_35 (lv_at hl 0 rfl) ?_
  refine n_kgetN hx hb (kf_1_code hSt) hS hown hSt.2.1.2.2.2.1 d_q_TextWriter_fillData_37 ?_
  refine lv_iconst (v := nI 4) hx hb d_q_TextWriter_fillData_40 (by decide) ?_
  refine q_writeVv (n := 3) (As := [.ref ba, .int (nI 2), .int (nI 4)]) (rest := []) (wc := [(tw, .inr (6, [.int (nI 0)])), (ba, .inl (cI, 26, .inl (fun j => nI ((flL bt 0 26) j))))]) (wr := [(qt, .inl (cC, 45, .inl (fun j => nI (ty j))))]) (w1 := [(tw, .inr (6, [.int (nI (0 + 4))])), (ba, .inl (cI, 26, .inl (fun j => nI ((ptC (flL bt 0 26) 0 2 4 4) j))))]) S (c_q_TextWriter_put l D cI cC tw 0 ba 2 4 (flL bt 0 26) (by decide) (by decide) (by decide) H.size) hK hP hD hA (q0 := 0) rfl rfl [0, 1] [2] rfl rfl rfl rfl (by decide) rfl (q_goodV kw_494 kw_496 ks_5 kw_6 kw_497) (by decide +kernel) rfl rfl rfl ⟨Nat.le_trans (Nat.le_of_ble_eq_true rfl) hRf, Nat.le_trans (Nat.le_of_ble_eq_true rfl) hRl⟩ rfl hl.1 rfl (Nat.le_of_ble_eq_true rfl) d_q_TextWriter_fillData_41 hRc hS (fun H locs hP hD hS => ?_)
  replace hP : va_P D classes [(tw, .inr (6, [.int (nI (0 + 4))])), (ba, .inl (cI, 26, .inl (fun j => nI ((ptC (flL bt 0 26) 0 2 4 4) j)))), (qt, .inl (cC, 45, .inl (fun j => nI (ty j))))] H := hP.sub [1, 2, 0] rfl
  replace hD : va_D A [(tw, .inr (6, [.int (nI (0 + 4))])), (ba, .inl (cI, 26, .inl (fun j => nI ((ptC (flL bt 0 26) 0 2 4 4) j)))), (qt, .inl (cC, 45, .inl (fun j => nI (ty j))))] := hD.sub [1, 2, 0] rfl rfl
  refine lv_aload_n hx hb d_q_TextWriter_fillData_44 rfl (lv_at hl 1 rfl) ?_
  refine lv_aload_n hx hb d_q_TextWriter_fillData_45 rfl (lv_at hl 4 rfl) ?_
  refine lv_iload_n hx hb d_q_TextWriter_fillData_46 rfl (lv_at hl 3 rfl) ?_
  refine lv_aload hx hb d_q_TextWriter_fillData_47 (lv_at hl 0 rfl) ?_
  refine n_kgetN hx hb (kf_1_countBits hSt) hS hown hSt.2.1.2.2.2.2.1 d_q_TextWriter_fillData_49 ?_
  refine q_writeVv (n := 3) (As := [.ref ba, .int (nI n), .int (nI 9)]) (rest := []) (wc := [(tw, .inr (6, [.int (nI (0 + 4))])), (ba, .inl (cI, 26, .inl (fun j => nI ((ptC (flL bt 0 26) 0 2 4 4) j))))]) (wr := [(qt, .inl (cC, 45, .inl (fun j => nI (ty j))))]) (w1 := [(tw, .inr (6, [.int (nI ((0 + 4) + 9))])), (ba, .inl (cI, 26, .inl (fun j => nI ((ptC (ptC (flL bt 0 26) 0 2 4 4) (0 + 4) n 9 9) j))))]) S (c_q_TextWriter_put l D cI cC tw (0 + 4) ba n 9 (ptC (flL bt 0 26) 0 2 4 4) (by omega) (by decide) (by decide) H.size) hK hP hD hA (q0 := 0) rfl rfl [0, 1] [2] rfl rfl rfl rfl (by decide) rfl (q_goodV kw_494 kw_496 ks_5 kw_6 kw_497) (by decide +kernel) rfl rfl rfl ⟨Nat.le_trans (Nat.le_of_ble_eq_true rfl) hRf, Nat.le_trans (Nat.le_of_ble_eq_true rfl) hRl⟩ rfl hl.1 rfl (Nat.le_of_ble_eq_true rfl) d_q_TextWriter_fillData_52 hRc hS (fun H locs hP hD hS => ?_)
  replace hP : va_P D classes [(tw, .inr (6, [.int (nI ((0 + 4) + 9))])), (ba, .inl (cI, 26, .inl (fun j => nI ((ptC (ptC (flL bt 0 26) 0 2 4 4) (0 + 4) n 9 9) j)))), (qt, .inl (cC, 45, .inl (fun j => nI (ty j))))] H := hP.sub [1, 2, 0] rfl
  replace hD : va_D A [(tw, .inr (6, [.int (nI ((0 + 4) + 9))])), (ba, .inl (cI, 26, .inl (fun j => nI ((ptC (ptC (flL bt 0 26) 0 2 4 4) (0 + 4) n 9 9) j)))), (qt, .inl (cC, 45, .inl (fun j => nI (ty j))))] := hD.sub [1, 2, 0] rfl rfl
  refine lv_aload_n hx hb d_q_TextWriter_fillData_55 rfl (lv_at hl 1 rfl) ?_
  refine lv_aload_n hx hb d_q_TextWriter_fillData_56 rfl (lv_at hl 4 rfl) ?_
  refine lv_aload hx hb d_q_TextWriter_fillData_57 (lv_at hl 0 rfl) ?_
  refine lv_aload_n hx hb d_q_TextWriter_fillData_59 rfl (lv_at hl 2 rfl) ?_
  refine lv_iload_n hx hb d_q_TextWriter_fillData_60 rfl (lv_at hl 3 rfl) ?_
  refine q_writeVvs (n := 4) (As := [.ref ba, .ref (sa 8), .ref qt, .int (nI n)]) (rest := []) (wc := [(tw, .inr (6, [.int (nI ((0 + 4) + 9))])), (ba, .inl (cI, 26, .inl (fun j => nI ((ptC (ptC (flL bt 0 26) 0 2 4 4) (0 + 4) n 9 9) j)))), (qt, .inl (cC, 45, .inl (fun j => nI (ty j))))]) (wr := []) (w1 := [(tw, .inr (6, [.int (nI ((pcS 2 ty n ((0 + 4) + 9) (ptC (ptC (flL bt 0 26) 0 2 4 4) (0 + 4) n 9 9) n).2.2.1))])), (ba, .inl (cI, 26, .inl (fun j => nI (((pcS 2 ty n ((0 + 4) + 9) (ptC (ptC (flL bt 0 26) 0 2 4 4) (0 + 4) n 9 9) n).2.2.2) j)))), (qt, .inl (cC, 45, .inl (fun j => nI (ty j))))]) S (c_q_TextWriter_putCharacters_1 l D cI cC sa tw ((0 + 4) + 9) ba qt n (ptC (ptC (flL bt 0 26) 0 2 4 4) (0 + 4) n 9 9) ty hn0 hty hp0 (by have h7 : gwd 2 = 9 := rfl; omega) H.size) hSt hK hP hD hA (q0 := 0) rfl rfl [0, 1, 2] [] rfl rfl rfl rfl (by decide) rfl (q_goodV kw_498 kw_500 ks_6 kw_6 kw_501) (by decide +kernel) rfl rfl rfl ⟨Nat.le_trans (Nat.le_of_ble_eq_true rfl) hRf, Nat.le_trans (Nat.le_of_ble_eq_true rfl) hRl⟩ rfl hl.1 rfl (Nat.le_of_ble_eq_true rfl) d_q_TextWriter_fillData_61 hRc hS (fun H locs hP hD hS => ?_)
  replace hP : va_P D classes [(tw, .inr (6, [.int (nI ((pcS 2 ty n ((0 + 4) + 9) (ptC (ptC (flL bt 0 26) 0 2 4 4) (0 + 4) n 9 9) n).2.2.1))])), (ba, .inl (cI, 26, .inl (fun j => nI (((pcS 2 ty n ((0 + 4) + 9) (ptC (ptC (flL bt 0 26) 0 2 4 4) (0 + 4) n 9 9) n).2.2.2) j)))), (qt, .inl (cC, 45, .inl (fun j => nI (ty j))))] H := hP.sub [0, 1, 2] rfl
  replace hD : va_D A [(tw, .inr (6, [.int (nI ((pcS 2 ty n ((0 + 4) + 9) (ptC (ptC (flL bt 0 26) 0 2 4 4) (0 + 4) n 9 9) n).2.2.1))])), (ba, .inl (cI, 26, .inl (fun j => nI (((pcS 2 ty n ((0 + 4) + 9) (ptC (ptC (flL bt 0 26) 0 2 4 4) (0 + 4) n 9 9) n).2.2.2) j)))), (qt, .inl (cC, 45, .inl (fun j => nI (ty j))))] := hD.sub [0, 1, 2] rfl rfl
  have hP : va_P D classes [(tw, .inr (6, [.int (nI ((cxR 2 ty n (flL bt 0 26)).1))])), (ba, .inl (cI, 26, .inl (fun j => nI (((cxR 2 ty n (flL bt 0 26)).2) j)))), (qt, .inl (cC, 45, .inl (fun j => nI (ty j))))] H := hP
  have hD : va_D A [(tw, .inr (6, [.int (nI ((cxR 2 ty n (flL bt 0 26)).1))])), (ba, .inl (cI, 26, .inl (fun j => nI (((cxR 2 ty n (flL bt 0 26)).2) j)))), (qt, .inl (cC, 45, .inl (fun j => nI (ty j))))] := hD
  refine lv_aload_n hx hb d_q_TextWriter_fillData_64 rfl (lv_at hl 1 rfl) ?_
  refine n_get (C := R_TextWriter) (T := F_TextWriter) (N := 1) (v := .int (nI ((cxR 2 ty n (flL bt 0 26)).1))) hx hb hts u_TextWriter_in hown hK hP 0 rfl rfl 0 (by decide) kw_139 rfl d_q_TextWriter_fillData_65 ?_
  refine lv_iconst (v := nI 4) hx hb d_q_TextWriter_fillData_68 (by decide) ?_
  refine n_iadd hx hb d_q_TextWriter_fillData_69 ?_
  refine lv_bipush (v := nI 8) hx hb d_q_TextWriter_fillData_70 (by decide) ?_
  refine lv_iload hx hb d_q_TextWriter_fillData_72 (lv_at hl 5 rfl) ?_
  refine n_imul hx hb d_q_TextWriter_fillData_74 ?_
  refine q_pureS (n := 2) (As := [.int (nI (((cxR 2 ty n (flL bt 0 26)).1) + 4)), .int (nI (8 * dt))]) (rest := []) S (c_j_Math_min l (((cxR 2 ty n (flL bt 0 26)).1) + 4) (8 * dt) (by omega) (by omega)) (q_goodS kw_504 kw_431 kw_19 kw_432) (by decide +kernel) rfl rfl ⟨Nat.le_trans (Nat.le_of_ble_eq_true rfl) hRf, Nat.le_trans (Nat.le_of_ble_eq_true rfl) hRl⟩ rfl hl.1 rfl (Nat.le_of_ble_eq_true rfl) d_q_TextWriter_fillData_75 hRc hS (fun H locs hkp hS => ?_)
  replace hP := hP.kept (fun k q hq => hkp q.1 (hP k q hq).lt)
  refine lv_istore hx hb d_q_TextWriter_fillData_78 hl (Nat.le_of_ble_eq_true rfl) rfl (fun ls hl => ?_)
  have hl : lv_has ls 7 [(6, .int (nI (min (((cxR 2 ty n (flL bt 0 26)).1) + 4) (8 * dt)))), (5, .ref (sa 8)), (0, .ref tw), (1, .ref qt), (2, .int (nI n)), (3, .ref ba), (4, .int (nI dt))] := hl
  refine lv_aload_n hx hb d_q_TextWriter_fillData_80 rfl (lv_at hl 5 rfl) ?_
  refine lv_iload hx hb d_q_TextWriter_fillData_81 (lv_at hl 0 rfl) ?_
  refine lv_bipush (v := nI 7) hx hb d_q_TextWriter_fillData_83 (by decide) ?_
  refine n_iadd hx hb d_q_TextWriter_fillData_85 ?_
  refine lv_bipush (v := nI 8) hx hb d_q_TextWriter_fillData_86 (by decide) ?_
  refine n_idiv hx hb d_q_TextWriter_fillData_88 (by omega) (by omega) (by omega) ?_
  refine lv_iload hx hb d_q_TextWriter_fillData_89 (lv_at hl 6 rfl) ?_
  refine q_writeSv (n := 3) (As := [.ref ba, .int (nI (((min (((cxR 2 ty n (flL bt 0 26)).1) + 4) (8 * dt)) + 7) / 8)), .int (nI dt)]) (rest := []) (wc := [(ba, .inl (cI, 26, .inl (fun j => nI (((cxR 2 ty n (flL bt 0 26)).2) j))))]) (wr := [(tw, .inr (6, [.int (nI ((cxR 2 ty n (flL bt 0 26)).1))])), (qt, .inl (cC, 45, .inl (fun j => nI (ty j))))]) (w1 := [(ba, .inl (cI, 26, .inl (fun j => nI ((frL ((cxR 2 ty n (flL bt 0 26)).2) (((min (((cxR 2 ty n (flL bt 0 26)).1) + 4) (8 * dt)) + 7) / 8) (dt - (((min (((cxR 2 ty n (flL bt 0 26)).1) + 4) (8 * dt)) + 7) / 8))) j))))]) S (c_q_TextWriter_fillRest l D cI cC ba (((min (((cxR 2 ty n (flL bt 0 26)).1) + 4) (8 * dt)) + 7) / 8) dt ((cxR 2 ty n (flL bt 0 26)).2) (by omega) (by omega) H.size) hK hP hD hA [1] [0, 2] rfl rfl rfl rfl (by decide) rfl (q_goodS kw_505 kw_506 kw_6 kw_507) (by decide +kernel) rfl rfl ⟨Nat.le_trans (Nat.le_of_ble_eq_true rfl) hRf, Nat.le_trans (Nat.le_of_ble_eq_true rfl) hRl⟩ rfl hl.1 rfl (Nat.le_of_ble_eq_true rfl) d_q_TextWriter_fillData_91 hRc hS (fun H locs hP hD hS => ?_)
  replace hP : va_P D classes [(tw, .inr (6, [.int (nI ((cxR 2 ty n (flL bt 0 26)).1))])), (ba, .inl (cI, 26, .inl (fun j => nI ((frL ((cxR 2 ty n (flL bt 0 26)).2) (((min (((cxR 2 ty n (flL bt 0 26)).1) + 4) (8 * dt)) + 7) / 8) (dt - (((min (((cxR 2 ty n (flL bt 0 26)).1) + 4) (8 * dt)) + 7) / 8))) j)))), (qt, .inl (cC, 45, .inl (fun j => nI (ty j))))] H := hP.sub [0, 2, 1] rfl
  replace hD : va_D A [(tw, .inr (6, [.int (nI ((cxR 2 ty n (flL bt 0 26)).1))])), (ba, .inl (cI, 26, .inl (fun j => nI ((frL ((cxR 2 ty n (flL bt 0 26)).2) (((min (((cxR 2 ty n (flL bt 0 26)).1) + 4) (8 * dt)) + 7) / 8) (dt - (((min (((cxR 2 ty n (flL bt 0 26)).1) + 4) (8 * dt)) + 7) / 8))) j)))), (qt, .inl (cC, 45, .inl (fun j => nI (ty j))))] := hD.sub [0, 2, 1] rfl rfl
  refine lv_iconst (v := nI 1) hx hb d_q_TextWriter_fillData_94 (by decide) ?_
  exact kr _ ls H locs d_q_TextWriter_fillData_95 hP hD hS
set_option maxHeartbeats 1000000 in
set_option maxRecDepth 100000 in
theorem c_q_TextWriter_fillData_1_ok (l : Launch) (D : va_G) (cI cC : ClassId) (sa : Nat → Nat) (tw us ba qt n dt x0 : Nat) (bt ty : Nat → Nat) (hn0 : n ≤ 45) (hd5 : dt ≤ 25) (hty : ∀ j, j < n → ty j < 127) (hd1 : x0 < n) (hd2 : ¬ (0 ≤ plI (ty x0) ∧ plI (ty x0) ≤ nI 9)) (hd3 : ∀ j, j < x0 → (0 ≤ plI (ty j) ∧ plI (ty j) ≤ nI 9)) (hp0 : ∀ j, j < n → (0 ≤ plI (ty j))) (hfit : 4 + gwd 2 + bfN 2 n ≤ 8 * dt) (sz : Nat) : Met l y_q_TextWriter_fillData (cd_q_TextWriter_fillData :: WS) { frames := 7, cells := 0, slots := 0, locals := 161 } (va_Pc [.ref tw, .ref qt, .int (nI n), .ref ba, .int (nI dt)] (swP sa D [(tw, .inr (6, [.int (nI us)])), (ba, .inl (cI, 26, .inl (fun j => nI (bt j)))), (qt, .inl (cC, 45, .inl (fun j => nI (ty j))))] [(cI, .int), (cC, .char)] sz)) (wQi D (nI 1) [(tw, .inr (6, [.int (nI us)])), (ba, .inl (cI, 26, .inl (fun j => nI (bt j)))), (qt, .inl (cC, 45, .inl (fun j => nI (ty j))))] [(tw, .inr (6, [.int (nI ((cxR 2 ty n (flL bt 0 26)).1))])), (ba, .inl (cI, 26, .inl (fun j => nI ((frL (cxR 2 ty n (flL bt 0 26)).2 ((min ((cxR 2 ty n (flL bt 0 26)).1 + 4) (8 * dt) + 7) / 8) (dt - ((min ((cxR 2 ty n (flL bt 0 26)).1 + 4) (8 * dt) + 7) / 8))) j)))), (qt, .inl (cC, 45, .inl (fun j => nI (ty j))))] sz) 0 0 (va_A [(tw, .inr (6, [.int (nI us)])), (ba, .inl (cI, 26, .inl (fun j => nI (bt j)))), (qt, .inl (cC, 45, .inl (fun j => nI (ty j))))] sz) := by
  refine Met.ofW (cc := b_q_TextWriter_fillData) (maxL := 7) (ret := (some .boolean)) (by decide) rfl ?_
  intro p e s m args below meth c s₁ B hml hv0
  obtain ⟨rfl, ⟨hP, hK, hD0, hsz⟩, hSt⟩ := hv0
  have hts := atoms_spec (ws := cd_q_TextWriter_fillData :: WS) B.pre
  have hown : s.vm.findClass R_TextWriter = some m.cls := findClass_of_methodNamed B.named
  have hlocks := B.notSynchronized
  subst hsz
  have hD := hD0.self (sz := s.heap.size)
  have hl := lv_entry ([.ref tw, .ref qt, .int (nI n), .ref ba, .int (nI dt)]) (n := 7) (Nat.le_of_ble_eq_true rfl)
  rw [lg_entry_eq]
  generalize (lg_sl ([.ref tw, .ref qt, .int (nI n), .ref ba, .int (nI dt)]) ++ List.replicate (7 - (lg_sl ([.ref tw, .ref qt, .int (nI n), .ref ba, .int (nI dt)])).length) Slot.unset).toArray = ls at hl ⊢
  refine bd_q_TextWriter_fillData_1_ok cI cC sa tw us ba qt n dt x0 bt ty hn0 hd5 hty hd1 hd2 hd3 hp0 hfit ⟨B.exec, B.bytes, hml, hown, hts⟩ (Nat.le_refl _) (Nat.le_refl _) ⟨Nat.le_refl _, Nat.le_refl _⟩ hK (fun q h => Or.inr h) hSt (fun pc ls H locs hd hP hD hS => ?_) ls _ _ hl hP hD (va_S.rf)
  exact W.zret B.exec B.bytes B.returns rfl (fun t ht _ => ⟨⟨_, (), rfl, rfl, (by have h9 := hP; rw [← ht] at h9; exact h9)⟩, hS.F ht⟩) hS.2.2 hd
end
section
variable {p : Program} {l : Launch} {e : Env} {R : Room} {s : State} {m : MethodId} {args : Array Value} {below : List Frame} {meth : Method} {c : Code} {cells slots : Nat} {Q : State → Prop} {A : Nat → Prop} {H0 : Heap} {D : va_G}
set_option maxHeartbeats 1000000 in
set_option maxRecDepth 100000 in
theorem lp_q_TextWriter_putCharacters_2_9 (cI cC : ClassId) (sa : Nat → Nat) (tw us ba qt n : Nat) (bt ty : Nat → Nat) (hn0 : n ≤ 45) (hty : ∀ j, j < n → ty j < 127) (hall : ∀ j, j < n → True) (hm : us + bfN 4 n ≤ 208) (S : CallFix p m c b_q_TextWriter_putCharacters 8 s args (cd_q_TextWriter_putCharacters :: WS) R_TextWriter) (hRf : 5 ≤ R.frames) (hRl : 113 ≤ R.locals) (hRc : cells ≤ R.cells ∧ slots ≤ R.slots) (hK : va_K D classes [(cI, .int), (cC, .char)] s) (hA : ∀ q, s.heap.size ≤ q → A q) (hSt : SB sa A s s.heap) (kx : ∀ (ls : Array Slot) (H : Heap) (locs : List Loc), lv_has ls 8 [(0, .ref tw), (1, .ref ba), (2, .ref (sa 9)), (3, .ref qt), (4, .int (nI n)), (5, .int (nI ((pcS 4 ty n us bt n).1))), (6, .int (nI ((pcS 4 ty n us bt n).2.1))), (7, .int (nI n))] → va_P D classes [(tw, .inr (6, [.int (nI ((pcS 4 ty n us bt n).2.2.1))])), (ba, .inl (cI, 26, .inl (fun j => nI (((pcS 4 ty n us bt n).2.2.2) j)))), (qt, .inl (cC, 45, .inl (fun j => nI (ty j))))] H → va_D A [(tw, .inr (6, [.int (nI ((pcS 4 ty n us bt n).2.2.1))])), (ba, .inl (cI, 26, .inl (fun j => nI (((pcS 4 ty n us bt n).2.2.2) j)))), (qt, .inl (cC, 45, .inl (fun j => nI (ty j))))] → va_S A s.heap H locs → W p l e R s m args below meth c H locs cells slots Q (F0 m 80 ls [])) :
    ∀ k, k ≤ n → ∀ (ls : Array Slot) (H : Heap) (locs : List Loc), lv_has ls 8 [(0, .ref tw), (1, .ref ba), (2, .ref (sa 9)), (3, .ref qt), (4, .int (nI n)), (5, .int (nI ((pcS 4 ty n us bt k).1))), (6, .int (nI ((pcS 4 ty n us bt k).2.1))), (7, .int (nI k))] → va_P D classes [(tw, .inr (6, [.int (nI ((pcS 4 ty n us bt k).2.2.1))])), (ba, .inl (cI, 26, .inl (fun j => nI (((pcS 4 ty n us bt k).2.2.2) j)))), (qt, .inl (cC, 45, .inl (fun j => nI (ty j))))] H → va_D A [(tw, .inr (6, [.int (nI ((pcS 4 ty n us bt k).2.2.1))])), (ba, .inl (cI, 26, .inl (fun j => nI (((pcS 4 ty n us bt k).2.2.2) j)))), (qt, .inl (cC, 45, .inl (fun j => nI (ty j))))] → va_S A s.heap H locs → W p l e R s m args below meth c H locs cells slots Q (F0 m 9 ls []) := by
  obtain ⟨hx, hb, hml, hown, hts⟩ := id S
  refine up_loop (fun k hkk ih => ?_)
  intro ls H locs hl hP hD hS
  refine lv_iload hx hb d_q_TextWriter_putCharacters_9 (lv_at hl 7 rfl) ?_
  refine lv_iload hx hb d_q_TextWriter_putCharacters_11 (lv_at hl 4 rfl) ?_
  refine n_icmp_ge hx hb d_q_TextWriter_putCharacters_13 (tgt := 80) rfl (by omega) (by omega) (fun g13 => ?_) (fun g13 => ?_)
  · skip
    obtain rfl : k = n := by omega
    exact kx ls H locs (lv_sub hl [0, 1, 2, 3, 4, 5, 6, 7] rfl) hP hD hS
  · skip
    obtain ⟨hs1, hs2, hs3⟩ := pc_step (kd := 4) (us := us) (y := bt) (Or.inr (Or.inr rfl)) (fun j hj => Nat.lt_trans (hty j hj) (by decide)) (show k < n by omega)
    have hs1 : (pcS 4 ty n us bt k).2.1 + 1 ≤ 1 := hs1
    refine lv_iload hx hb d_q_TextWriter_putCharacters_16 (lv_at hl 5 rfl) ?_
    refine lv_aload_n hx hb d_q_TextWriter_putCharacters_18 rfl (lv_at hl 2 rfl) ?_
    refine n_kgetN hx hb (kf_2_base hSt) hS hown hSt.2.1.2.2.2.2.2.1 d_q_TextWriter_putCharacters_19 ?_
    refine n_imul hx hb d_q_TextWriter_putCharacters_22 ?_
    refine lv_aload_n hx hb d_q_TextWriter_putCharacters_23 rfl (lv_at hl 2 rfl) ?_
    refine lv_aload_n hx hb d_q_TextWriter_putCharacters_24 rfl (lv_at hl 3 rfl) ?_
    refine lv_iload hx hb d_q_TextWriter_putCharacters_25 (lv_at hl 7 rfl) ?_
    refine n_cald hx hb hK hP 2 1 rfl rfl (by omega) (by decide) d_q_TextWriter_putCharacters_27 ?_
    refine q_readVr (n := 1) (As := [.int (nI (ty k))]) (rest := [.int (nI (((pcS 4 ty n us bt k).1) * 256))]) (wc := []) S (c_q_Kind_valueOfCharacter_2 l D cI cC sa (ty k) (hty k (by omega))) hSt hK hP (o_recv (ko_2 hSt) hS) [] rfl (q_goodV kw_502 kw_393 kw_394 kw_16 kw_395) (by decide +kernel) rfl rfl rfl ⟨Nat.le_trans (Nat.le_of_ble_eq_true rfl) hRf, Nat.le_trans (Nat.le_of_ble_eq_true rfl) hRl⟩ rfl hl.1 rfl (Nat.le_of_ble_eq_true rfl) d_q_TextWriter_putCharacters_28 hRc hS (fun H locs hP hS => ?_)
    refine n_topn (show (ty k) = cvN 4 (ty k) from rfl) ?_
    refine n_iadd hx hb d_q_TextWriter_putCharacters_31 ?_
    refine lv_istore hx hb d_q_TextWriter_putCharacters_32 hl (Nat.le_of_ble_eq_true rfl) rfl (fun ls hl => ?_)
    have hl : lv_has ls 8 [(5, .int (nI ((((pcS 4 ty n us bt k).1) * 256) + (cvN 4 (ty k))))), (0, .ref tw), (1, .ref ba), (2, .ref (sa 9)), (3, .ref qt), (4, .int (nI n)), (6, .int (nI ((pcS 4 ty n us bt k).2.1))), (7, .int (nI k))] := hl
    refine lv_iinc (k := 6) (v := nI ((pcS 4 ty n us bt k).2.1 + 1)) hx hb d_q_TextWriter_putCharacters_34 hl rfl (nx_inc ((pcS 4 ty n us bt k).2.1) 1) (Nat.le_of_ble_eq_true rfl) rfl (fun ls hl => ?_)
    have hl : lv_has ls 8 [(6, .int (nI ((pcS 4 ty n us bt k).2.1 + 1))), (5, .int (nI ((((pcS 4 ty n us bt k).1) * 256) + (cvN 4 (ty k))))), (0, .ref tw), (1, .ref ba), (2, .ref (sa 9)), (3, .ref qt), (4, .int (nI n)), (7, .int (nI k))] := hl
    refine lv_iload hx hb d_q_TextWriter_putCharacters_37 (lv_at hl 0 rfl) ?_
    refine lv_aload_n hx hb d_q_TextWriter_putCharacters_39 rfl (lv_at hl 4 rfl) ?_
    refine n_kgetN hx hb (kf_2_group hSt) hS hown hSt.2.1.2.2.2.2.2.2 d_q_TextWriter_putCharacters_40 ?_
    refine n_icmp_eq hx hb d_q_TextWriter_putCharacters_43 (tgt := 55) rfl (by omega) (by omega) (fun g43 => ?_) (fun g43 => ?_)
    · skip
      refine lv_aload_n hx hb d_q_TextWriter_putCharacters_55 rfl (lv_at hl 2 rfl) ?_
      refine lv_aload_n hx hb d_q_TextWriter_putCharacters_56 rfl (lv_at hl 3 rfl) ?_
      refine lv_iload hx hb d_q_TextWriter_putCharacters_57 (lv_at hl 1 rfl) ?_
      refine lv_aload_n hx hb d_q_TextWriter_putCharacters_59 rfl (lv_at hl 4 rfl) ?_
      refine lv_iload hx hb d_q_TextWriter_putCharacters_60 (lv_at hl 0 rfl) ?_
      refine q_readVr (n := 1) (As := [.int (nI ((pcS 4 ty n us bt k).2.1 + 1))]) (rest := [.int (nI ((((pcS 4 ty n us bt k).1) * 256) + (cvN 4 (ty k)))), .ref ba, .ref tw]) (wc := []) S (c_q_Kind_groupBits_2 l D cI cC sa ((pcS 4 ty n us bt k).2.1 + 1) (by omega) (by omega)) hSt hK hP (o_recv (ko_2 hSt) hS) [] rfl (q_goodV kw_503 kw_490 kw_491 kw_16 kw_492) (by decide +kernel) rfl rfl rfl ⟨Nat.le_trans (Nat.le_of_ble_eq_true rfl) hRf, Nat.le_trans (Nat.le_of_ble_eq_true rfl) hRl⟩ rfl hl.1 rfl (Nat.le_of_ble_eq_true rfl) d_q_TextWriter_putCharacters_62 hRc hS (fun H locs hP hS => ?_)
      refine q_writeVv (n := 3) (As := [.ref ba, .int (nI ((((pcS 4 ty n us bt k).1) * 256) + (cvN 4 (ty k)))), .int (nI (gsz 4 ((pcS 4 ty n us bt k).2.1 + 1)))]) (rest := []) (wc := [(tw, .inr (6, [.int (nI ((pcS 4 ty n us bt k).2.2.1))])), (ba, .inl (cI, 26, .inl (fun j => nI (((pcS 4 ty n us bt k).2.2.2) j))))]) (wr := [(qt, .inl (cC, 45, .inl (fun j => nI (ty j))))]) (w1 := [(tw, .inr (6, [.int (nI (((pcS 4 ty n us bt k).2.2.1) + (gsz 4 ((pcS 4 ty n us bt k).2.1 + 1))))])), (ba, .inl (cI, 26, .inl (fun j => nI ((ptC ((pcS 4 ty n us bt k).2.2.2) ((pcS 4 ty n us bt k).2.2.1) ((((pcS 4 ty n us bt k).1) * 256) + (cvN 4 (ty k))) (gsz 4 ((pcS 4 ty n us bt k).2.1 + 1)) (gsz 4 ((pcS 4 ty n us bt k).2.1 + 1))) j))))]) S (c_q_TextWriter_put l D cI cC tw ((pcS 4 ty n us bt k).2.2.1) ba ((((pcS 4 ty n us bt k).1) * 256) + (cvN 4 (ty k))) (gsz 4 ((pcS 4 ty n us bt k).2.1 + 1)) ((pcS 4 ty n us bt k).2.2.2) hs2 (Nat.le_trans (gsz_le _ _) (by decide)) (Nat.le_trans (hs3 (by first | exact Or.inl g43 | exact Or.inr g52)) hm) H.size) hK hP hD hA (q0 := 0) rfl rfl [0, 1] [2] rfl rfl rfl rfl (by decide) rfl (q_goodV kw_494 kw_496 ks_5 kw_6 kw_497) (by decide +kernel) rfl rfl rfl ⟨Nat.le_trans (Nat.le_of_ble_eq_true rfl) hRf, Nat.le_trans (Nat.le_of_ble_eq_true rfl) hRl⟩ rfl hl.1 rfl (Nat.le_of_ble_eq_true rfl) d_q_TextWriter_putCharacters_65 hRc hS (fun H locs hP hD hS => ?_)
      replace hP : va_P D classes [(tw, .inr (6, [.int (nI (((pcS 4 ty n us bt k).2.2.1) + (gsz 4 ((pcS 4 ty n us bt k).2.1 + 1))))])), (ba, .inl (cI, 26, .inl (fun j => nI ((ptC ((pcS 4 ty n us bt k).2.2.2) ((pcS 4 ty n us bt k).2.2.1) ((((pcS 4 ty n us bt k).1) * 256) + (cvN 4 (ty k))) (gsz 4 ((pcS 4 ty n us bt k).2.1 + 1)) (gsz 4 ((pcS 4 ty n us bt k).2.1 + 1))) j)))), (qt, .inl (cC, 45, .inl (fun j => nI (ty j))))] H := hP.sub [1, 2, 0] rfl
      replace hD : va_D A [(tw, .inr (6, [.int (nI (((pcS 4 ty n us bt k).2.2.1) + (gsz 4 ((pcS 4 ty n us bt k).2.1 + 1))))])), (ba, .inl (cI, 26, .inl (fun j => nI ((ptC ((pcS 4 ty n us bt k).2.2.2) ((pcS 4 ty n us bt k).2.2.1) ((((pcS 4 ty n us bt k).1) * 256) + (cvN 4 (ty k))) (gsz 4 ((pcS 4 ty n us bt k).2.1 + 1)) (gsz 4 ((pcS 4 ty n us bt k).2.1 + 1))) j)))), (qt, .inl (cC, 45, .inl (fun j => nI (ty j))))] := hD.sub [1, 2, 0] rfl rfl
      refine lv_iconst (v := nI 0) hx hb d_q_TextWriter_putCharacters_68 (by decide) ?_
      refine lv_istore hx hb d_q_TextWriter_putCharacters_69 hl (Nat.le_of_ble_eq_true rfl) rfl (fun ls hl => ?_)
      have hl : lv_has ls 8 [(5, .int (nI 0)), (6, .int (nI ((pcS 4 ty n us bt k).2.1 + 1))), (0, .ref tw), (1, .ref ba), (2, .ref (sa 9)), (3, .ref qt), (4, .int (nI n)), (7, .int (nI k))] := hl
      refine lv_iconst (v := nI 0) hx hb d_q_TextWriter_putCharacters_71 (by decide) ?_
      refine lv_istore hx hb d_q_TextWriter_putCharacters_72 hl (Nat.le_of_ble_eq_true rfl) rfl (fun ls hl => ?_)
      have hl : lv_has ls 8 [(6, .int (nI 0)), (5, .int (nI 0)), (0, .ref tw), (1, .ref ba), (2, .ref (sa 9)), (3, .ref qt), (4, .int (nI n)), (7, .int (nI k))] := hl
      have hpq := pcS_t (kd := 4) (t := ty) (n := n) (us := us) (y := bt) (k := k) (by first | exact Or.inl g43 | exact Or.inr g52)
      have hl : lv_has ls 8 [(6, .int (nI ((pcS 4 ty n us bt (k + 1)).2.1))), (5, .int (nI ((pcS 4 ty n us bt (k + 1)).1))), (0, .ref tw), (1, .ref ba), (2, .ref (sa 9)), (3, .ref qt), (4, .int (nI n)), (7, .int (nI k))] := lv_re hl (by rw [hpq] <;> rfl)
      have hP : va_P D classes [(tw, .inr (6, [.int (nI ((pcS 4 ty n us bt (k + 1)).2.2.1))])), (ba, .inl (cI, 26, .inl (fun j => nI (((pcS 4 ty n us bt (k + 1)).2.2.2) j)))), (qt, .inl (cC, 45, .inl (fun j => nI (ty j))))] H := by rw [hpq]; exact hP
      have hD : va_D A [(tw, .inr (6, [.int (nI ((pcS 4 ty n us bt (k + 1)).2.2.1))])), (ba, .inl (cI, 26, .inl (fun j => nI (((pcS 4 ty n us bt (k + 1)).2.2.2) j)))), (qt, .inl (cC, 45, .inl (fun j => nI (ty j))))] := by rw [hpq]; exact hD
      refine lv_iinc (k := 7) (v := nI (k + 1)) hx hb d_q_TextWriter_putCharacters_74 hl rfl (nx_inc k 1) (Nat.le_of_ble_eq_true rfl) rfl (fun ls hl => ?_)
      have hl : lv_has ls 8 [(7, .int (nI (k + 1))), (6, .int (nI ((pcS 4 ty n us bt (k + 1)).2.1))), (5, .int (nI ((pcS 4 ty n us bt (k + 1)).1))), (0, .ref tw), (1, .ref ba), (2, .ref (sa 9)), (3, .ref qt), (4, .int (nI n))] := hl
      refine lv_goto hx hb d_q_TextWriter_putCharacters_77 (tgt := 9) rfl ?_
      exact ih (by omega) ls H locs (lv_sub hl [3, 4, 5, 6, 7, 2, 1, 0] rfl) hP hD hS
    · skip
      refine lv_iload hx hb d_q_TextWriter_putCharacters_46 (lv_at hl 7 rfl) ?_
      refine lv_iload hx hb d_q_TextWriter_putCharacters_48 (lv_at hl 6 rfl) ?_
      refine lv_iconst (v := nI 1) hx hb d_q_TextWriter_putCharacters_50 (by decide) ?_
      refine n_isub hx hb d_q_TextWriter_putCharacters_51 (by omega) ?_
      refine n_icmp_ne hx hb d_q_TextWriter_putCharacters_52 (tgt := 74) rfl (by omega) (by omega) (fun g52 => ?_) (fun g52 => ?_)
      · skip
        have hpq := pcS_f (kd := 4) (t := ty) (n := n) (us := us) (y := bt) (k := k) g43 g52
        have hl : lv_has ls 8 [(6, .int (nI ((pcS 4 ty n us bt (k + 1)).2.1))), (5, .int (nI ((pcS 4 ty n us bt (k + 1)).1))), (0, .ref tw), (1, .ref ba), (2, .ref (sa 9)), (3, .ref qt), (4, .int (nI n)), (7, .int (nI k))] := lv_re hl (by rw [hpq] <;> rfl)
        have hP : va_P D classes [(tw, .inr (6, [.int (nI ((pcS 4 ty n us bt (k + 1)).2.2.1))])), (ba, .inl (cI, 26, .inl (fun j => nI (((pcS 4 ty n us bt (k + 1)).2.2.2) j)))), (qt, .inl (cC, 45, .inl (fun j => nI (ty j))))] H := by rw [hpq]; exact hP
        have hD : va_D A [(tw, .inr (6, [.int (nI ((pcS 4 ty n us bt (k + 1)).2.2.1))])), (ba, .inl (cI, 26, .inl (fun j => nI (((pcS 4 ty n us bt (k + 1)).2.2.2) j)))), (qt, .inl (cC, 45, .inl (fun j => nI (ty j))))] := by rw [hpq]; exact hD
        refine lv_iinc (k := 7) (v := nI (k + 1)) hx hb d_q_TextWriter_putCharacters_74 hl rfl (nx_inc k 1) (Nat.le_of_ble_eq_true rfl) rfl (fun ls hl => ?_)
        have hl : lv_has ls 8 [(7, .int (nI (k + 1))), (6, .int (nI ((pcS 4 ty n us bt (k + 1)).2.1))), (5, .int (nI ((pcS 4 ty n us bt (k + 1)).1))), (0, .ref tw), (1, .ref ba), (2, .ref (sa 9)), (3, .ref qt), (4, .int (nI n))] := hl
        refine lv_goto hx hb d_q_TextWriter_putCharacters_77 (tgt := 9) rfl ?_
        exact ih (by omega) ls H locs (lv_sub hl [3, 4, 5, 6, 7, 2, 1, 0] rfl) hP hD hS
      · skip
        refine lv_aload_n hx hb d_q_TextWriter_putCharacters_55 rfl (lv_at hl 2 rfl) ?_
        refine lv_aload_n hx hb d_q_TextWriter_putCharacters_56 rfl (lv_at hl 3 rfl) ?_
        refine lv_iload hx hb d_q_TextWriter_putCharacters_57 (lv_at hl 1 rfl) ?_
        refine lv_aload_n hx hb d_q_TextWriter_putCharacters_59 rfl (lv_at hl 4 rfl) ?_
        refine lv_iload hx hb d_q_TextWriter_putCharacters_60 (lv_at hl 0 rfl) ?_
        refine q_readVr (n := 1) (As := [.int (nI ((pcS 4 ty n us bt k).2.1 + 1))]) (rest := [.int (nI ((((pcS 4 ty n us bt k).1) * 256) + (cvN 4 (ty k)))), .ref ba, .ref tw]) (wc := []) S (c_q_Kind_groupBits_2 l D cI cC sa ((pcS 4 ty n us bt k).2.1 + 1) (by omega) (by omega)) hSt hK hP (o_recv (ko_2 hSt) hS) [] rfl (q_goodV kw_503 kw_490 kw_491 kw_16 kw_492) (by decide +kernel) rfl rfl rfl ⟨Nat.le_trans (Nat.le_of_ble_eq_true rfl) hRf, Nat.le_trans (Nat.le_of_ble_eq_true rfl) hRl⟩ rfl hl.1 rfl (Nat.le_of_ble_eq_true rfl) d_q_TextWriter_putCharacters_62 hRc hS (fun H locs hP hS => ?_)
        refine q_writeVv (n := 3) (As := [.ref ba, .int (nI ((((pcS 4 ty n us bt k).1) * 256) + (cvN 4 (ty k)))), .int (nI (gsz 4 ((pcS 4 ty n us bt k).2.1 + 1)))]) (rest := []) (wc := [(tw, .inr (6, [.int (nI ((pcS 4 ty n us bt k).2.2.1))])), (ba, .inl (cI, 26, .inl (fun j => nI (((pcS 4 ty n us bt k).2.2.2) j))))]) (wr := [(qt, .inl (cC, 45, .inl (fun j => nI (ty j))))]) (w1 := [(tw, .inr (6, [.int (nI (((pcS 4 ty n us bt k).2.2.1) + (gsz 4 ((pcS 4 ty n us bt k).2.1 + 1))))])), (ba, .inl (cI, 26, .inl (fun j => nI ((ptC ((pcS 4 ty n us bt k).2.2.2) ((pcS 4 ty n us bt k).2.2.1) ((((pcS 4 ty n us bt k).1) * 256) + (cvN 4 (ty k))) (gsz 4 ((pcS 4 ty n us bt k).2.1 + 1)) (gsz 4 ((pcS 4 ty n us bt k).2.1 + 1))) j))))]) S (c_q_TextWriter_put l D cI cC tw ((pcS 4 ty n us bt k).2.2.1) ba ((((pcS 4 ty n us bt k).1) * 256) + (cvN 4 (ty k))) (gsz 4 ((pcS 4 ty n us bt k).2.1 + 1)) ((pcS 4 ty n us bt k).2.2.2) hs2 (Nat.le_trans (gsz_le _ _) (by decide)) (Nat.le_trans (hs3 (by first | exact Or.inl g43 | exact Or.inr g52)) hm) H.size) hK hP hD hA (q0 := 0) rfl rfl [0, 1] [2] rfl rfl rfl rfl (by decide) rfl (q_goodV kw_494 kw_496 ks_5 kw_6 kw_497) (by decide +kernel) rfl rfl rfl ⟨Nat.le_trans (Nat.le_of_ble_eq_true rfl) hRf, Nat.le_trans (Nat.le_of_ble_eq_true rfl) hRl⟩ rfl hl.1 rfl (Nat.le_of_ble_eq_true rfl) d_q_TextWriter_putCharacters_65 hRc hS (fun H locs hP hD hS => ?_)
        replace hP : va_P D classes [(tw, .inr (6, [.int (nI (((pcS 4 ty n us bt k).2.2.1) + (gsz 4 ((pcS 4 ty n us bt k).2.1 + 1))))])), (ba, .inl (cI, 26, .inl (fun j => nI ((ptC ((pcS 4 ty n us bt k).2.2.2) ((pcS 4 ty n us bt k).2.2.1) ((((pcS 4 ty n us bt k).1) * 256) + (cvN 4 (ty k))) (gsz 4 ((pcS 4 ty n us bt k).2.1 + 1)) (gsz 4 ((pcS 4 ty n us bt k).2.1 + 1))) j)))), (qt, .inl (cC, 45, .inl (fun j => nI (ty j))))] H := hP.sub [1, 2, 0] rfl
        replace hD : va_D A [(tw, .inr (6, [.int (nI (((pcS 4 ty n us bt k).2.2.1) + (gsz 4 ((pcS 4 ty n us bt k).2.1 + 1))))])), (ba, .inl (cI, 26, .inl (fun j => nI ((ptC ((pcS 4 ty n us bt k).2.2.2) ((pcS 4 ty n us bt k).2.2.1) ((((pcS 4 ty n us bt k).1) * 256) + (cvN 4 (ty k))) (gsz 4 ((pcS 4 ty n us bt k).2.1 + 1)) (gsz 4 ((pcS 4 ty n us bt k).2.1 + 1))) j)))), (qt, .inl (cC, 45, .inl (fun j => nI (ty j))))] := hD.sub [1, 2, 0] rfl rfl
        refine lv_iconst (v := nI 0) hx hb d_q_TextWriter_putCharacters_68 (by decide) ?_
        refine lv_istore hx hb d_q_TextWriter_putCharacters_69 hl (Nat.le_of_ble_eq_true rfl) rfl (fun ls hl => ?_)
        have hl : lv_has ls 8 [(5, .int (nI 0)), (6, .int (nI ((pcS 4 ty n us bt k).2.1 + 1))), (0, .ref tw), (1, .ref ba), (2, .ref (sa 9)), (3, .ref qt), (4, .int (nI n)), (7, .int (nI k))] := hl
        refine lv_iconst (v := nI 0) hx hb d_q_TextWriter_putCharacters_71 (by decide) ?_
        refine lv_istore hx hb d_q_TextWriter_putCharacters_72 hl (Nat.le_of_ble_eq_true rfl) rfl (fun ls hl => ?_)
        have hl : lv_has ls 8 [(6, .int (nI 0)), (5, .int (nI 0)), (0, .ref tw), (1, .ref ba), (2, .ref (sa 9)), (3, .ref qt), (4, .int (nI n)), (7, .int (nI k))] := hl
        have hpq := pcS_t (kd := 4) (t := ty) (n := n) (us := us) (y := bt) (k := k) (by first | exact Or.inl g43 | exact Or.inr g52)
        have hl : lv_has ls 8 [(6, .int (nI ((pcS 4 ty n us bt (k + 1)).2.1))), (5, .int (nI ((pcS 4 ty n us bt (k + 1)).1))), (0, .ref tw), (1, .ref ba), (2, .ref (sa 9)), (3, .ref qt), (4, .int (nI n)), (7, .int (nI k))] := lv_re hl (by rw [hpq] <;> rfl)
        have hP : va_P D classes [(tw, .inr (6, [.int (nI ((pcS 4 ty n us bt (k + 1)).2.2.1))])), (ba, .inl (cI, 26, .inl (fun j => nI (((pcS 4 ty n us bt (k + 1)).2.2.2) j)))), (qt, .inl (cC, 45, .inl (fun j => nI (ty j))))] H := by rw [hpq]; exact hP
        have hD : va_D A [(tw, .inr (6, [.int (nI ((pcS 4 ty n us bt (k + 1)).2.2.1))])), (ba, .inl (cI, 26, .inl (fun j => nI (((pcS 4 ty n us bt (k + 1)).2.2.2) j)))), (qt, .inl (cC, 45, .inl (fun j => nI (ty j))))] := by rw [hpq]; exact hD
        refine lv_iinc (k := 7) (v := nI (k + 1)) hx hb d_q_TextWriter_putCharacters_74 hl rfl (nx_inc k 1) (Nat.le_of_ble_eq_true rfl) rfl (fun ls hl => ?_)
        have hl : lv_has ls 8 [(7, .int (nI (k + 1))), (6, .int (nI ((pcS 4 ty n us bt (k + 1)).2.1))), (5, .int (nI ((pcS 4 ty n us bt (k + 1)).1))), (0, .ref tw), (1, .ref ba), (2, .ref (sa 9)), (3, .ref qt), (4, .int (nI n))] := hl
        refine lv_goto hx hb d_q_TextWriter_putCharacters_77 (tgt := 9) rfl ?_
        exact ih (by omega) ls H locs (lv_sub hl [3, 4, 5, 6, 7, 2, 1, 0] rfl) hP hD hS
set_option maxHeartbeats 1000000 in
set_option maxRecDepth 100000 in
theorem bd_q_TextWriter_putCharacters_2 (cI cC : ClassId) (sa : Nat → Nat) (tw us ba qt n : Nat) (bt ty : Nat → Nat) (hn0 : n ≤ 45) (hty : ∀ j, j < n → ty j < 127) (hall : ∀ j, j < n → True) (hm : us + bfN 4 n ≤ 208) (S : CallFix p m c b_q_TextWriter_putCharacters 8 s args (cd_q_TextWriter_putCharacters :: WS) R_TextWriter) (hRf : 5 ≤ R.frames) (hRl : 113 ≤ R.locals) (hRc : cells ≤ R.cells ∧ slots ≤ R.slots) (hK : va_K D classes [(cI, .int), (cC, .char)] s) (hA : ∀ q, s.heap.size ≤ q → A q) (hSt : SB sa A s s.heap) (kr : ∀ (pc : Nat) (ls : Array Slot) (H : Heap) (locs : List Loc), decode b_q_TextWriter_putCharacters pc = .ok (.return_, 1) → va_P D classes [(tw, .inr (6, [.int (nI ((pcS 4 ty n us bt n).2.2.1))])), (ba, .inl (cI, 26, .inl (fun j => nI (((pcS 4 ty n us bt n).2.2.2) j)))), (qt, .inl (cC, 45, .inl (fun j => nI (ty j))))] H → va_D A [(tw, .inr (6, [.int (nI ((pcS 4 ty n us bt n).2.2.1))])), (ba, .inl (cI, 26, .inl (fun j => nI (((pcS 4 ty n us bt n).2.2.2) j)))), (qt, .inl (cC, 45, .inl (fun j => nI (ty j))))] → va_S A s.heap H locs → W p l e R s m args below meth c H locs cells slots Q (F0 m pc ls [])) : ∀ (ls : Array Slot) (H : Heap) (locs : List Loc), lv_has ls 8 [(0, .ref tw), (1, .ref ba), (2, .ref (sa 9)), (3, .ref qt), (4, .int (nI n))] → va_P D classes [(tw, .inr (6, [.int (nI us)])), (ba, .inl (cI, 26, .inl (fun j => nI (bt j)))), (qt, .inl (cC, 45, .inl (fun j => nI (ty j))))] H → va_D A [(tw, .inr (6, [.int (nI us)])), (ba, .inl (cI, 26, .inl (fun j => nI (bt j)))), (qt, .inl (cC, 45, .inl (fun j => nI (ty j))))] → va_S A s.heap H locs → W p l e R s m args below meth c H locs cells slots Q (F0 m 0 ls []) := by
  obtain ⟨hx, hb, hml, hown, hts⟩ := id S
  intro ls H locs hl hP hD hS
  refine lv_iconst (v := nI 0) hx hb d_q_TextWriter_putCharacters_0 (by decide) ?_
  refine lv_istore hx hb d_q_TextWriter_putCharacters_1 hl (Nat.le_of_ble_eq_true rfl) rfl (fun ls hl => ?_)
  have hl : lv_has ls 8 [(5, .int (nI 0)), (0, .ref tw), (1, .ref ba), (2, .ref (sa 9)), (3, .ref qt), (4, .int (nI n))] := hl
  refine lv_iconst (v := nI 0) hx hb d_q_TextWriter_putCharacters_3 (by decide) ?_
  refine lv_istore hx hb d_q_TextWriter_putCharacters_4 hl (Nat.le_of_ble_eq_true rfl) rfl (fun ls hl => ?_)
  have hl : lv_has ls 8 [(6, .int (nI 0)), (5, .int (nI 0)), (0, .ref tw), (1, .ref ba), (2, .ref (sa 9)), (3, .ref qt), (4, .int (nI n))] := hl
  refine lv_iconst (v := nI 0) hx hb d_q_TextWriter_putCharacters_6 (by decide) ?_
  refine lv_istore hx hb d_q_TextWriter_putCharacters_7 hl (Nat.le_of_ble_eq_true rfl) rfl (fun ls hl => ?_)
  have hl : lv_has ls 8 [(7, .int (nI 0)), (6, .int (nI 0)), (5, .int (nI 0)), (0, .ref tw), (1, .ref ba), (2, .ref (sa 9)), (3, .ref qt), (4, .int (nI n))] := hl
  refine lp_q_TextWriter_putCharacters_2_9 cI cC sa tw us ba qt n bt ty hn0 hty hall hm S hRf hRl hRc hK hA hSt  (fun ls H locs hl hP hD hS => ?_) 0 (by omega) ls H locs (lv_sub hl [3, 4, 5, 6, 7, 2, 1, 0] rfl) hP hD hS
  exact kr _ ls H locs d_q_TextWriter_putCharacters_80 hP hD hS
set_option maxHeartbeats 1000000 in
set_option maxRecDepth 100000 in
theorem c_q_TextWriter_putCharacters_2 (l : Launch) (D : va_G) (cI cC : ClassId) (sa : Nat → Nat) (tw us ba qt n : Nat) (bt ty : Nat → Nat) (hn0 : n ≤ 45) (hty : ∀ j, j < n → ty j < 127) (hall : ∀ j, j < n → True) (hm : us + bfN 4 n ≤ 208) (sz : Nat) : Met l y_q_TextWriter_putCharacters (cd_q_TextWriter_putCharacters :: WS) { frames := 5, cells := 0, slots := 0, locals := 113 } (va_Pc [.ref tw, .ref ba, .ref (sa 9), .ref qt, .int (nI n)] (swP sa D [(tw, .inr (6, [.int (nI us)])), (ba, .inl (cI, 26, .inl (fun j => nI (bt j)))), (qt, .inl (cC, 45, .inl (fun j => nI (ty j))))] [(cI, .int), (cC, .char)] sz)) (wQv D [(tw, .inr (6, [.int (nI us)])), (ba, .inl (cI, 26, .inl (fun j => nI (bt j)))), (qt, .inl (cC, 45, .inl (fun j => nI (ty j))))] [(tw, .inr (6, [.int (nI ((pcS 4 ty n us bt n).2.2.1))])), (ba, .inl (cI, 26, .inl (fun j => nI (((pcS 4 ty n us bt n).2.2.2) j)))), (qt, .inl (cC, 45, .inl (fun j => nI (ty j))))] sz) 0 0 (va_A [(tw, .inr (6, [.int (nI us)])), (ba, .inl (cI, 26, .inl (fun j => nI (bt j)))), (qt, .inl (cC, 45, .inl (fun j => nI (ty j))))] sz) := by
  refine Met.ofW (cc := b_q_TextWriter_putCharacters) (maxL := 8) (ret := none) (by decide) rfl ?_
  intro p e s m args below meth c s₁ B hml hv0
  obtain ⟨rfl, ⟨hP, hK, hD0, hsz⟩, hSt⟩ := hv0
  have hts := atoms_spec (ws := cd_q_TextWriter_putCharacters :: WS) B.pre
  have hown : s.vm.findClass R_TextWriter = some m.cls := findClass_of_methodNamed B.named
  have hlocks := B.notSynchronized
  subst hsz
  have hD := hD0.self (sz := s.heap.size)
  have hl := lv_entry ([.ref tw, .ref ba, .ref (sa 9), .ref qt, .int (nI n)]) (n := 8) (Nat.le_of_ble_eq_true rfl)
  rw [lg_entry_eq]
  generalize (lg_sl ([.ref tw, .ref ba, .ref (sa 9), .ref qt, .int (nI n)]) ++ List.replicate (8 - (lg_sl ([.ref tw, .ref ba, .ref (sa 9), .ref qt, .int (nI n)])).length) Slot.unset).toArray = ls at hl ⊢
  refine bd_q_TextWriter_putCharacters_2 cI cC sa tw us ba qt n bt ty hn0 hty hall hm ⟨B.exec, B.bytes, hml, hown, hts⟩ (Nat.le_refl _) (Nat.le_refl _) ⟨Nat.le_refl _, Nat.le_refl _⟩ hK (fun q h => Or.inr h) hSt (fun pc ls H locs hd hP hD hS => ?_) ls _ _ hl hP hD (va_S.rf)
  exact W.vret B.exec B.bytes B.returns (fun t ht _ => ⟨⟨(), rfl, trivial, (by have h9 := hP; rw [← ht] at h9; exact h9)⟩, hS.F ht⟩) hS.2.2 hd
end
section
variable {p : Program} {l : Launch} {e : Env} {R : Room} {s : State} {m : MethodId} {args : Array Value} {below : List Frame} {meth : Method} {c : Code} {cells slots : Nat} {Q : State → Prop} {A : Nat → Prop} {H0 : Heap} {D : va_G}
set_option maxHeartbeats 1000000 in
set_option maxRecDepth 100000 in
theorem bd_q_TextWriter_fillData_2_no (cI cC : ClassId) (sa : Nat → Nat) (tw us ba qt n dt x0 x2 : Nat) (bt ty : Nat → Nat) (hn0 : n ≤ 45) (hd5 : dt ≤ 25) (hty : ∀ j, j < n → ty j < 127) (hd1 : x0 < n) (hd2 : ¬ (0 ≤ plI (ty x0) ∧ plI (ty x0) ≤ nI 9)) (hd3 : ∀ j, j < x0 → (0 ≤ plI (ty j) ∧ plI (ty j) ≤ nI 9)) (hp1 : x2 < n) (hp2 : ¬ (0 ≤ plI (ty x2))) (hp3 : ∀ j, j < x2 → (0 ≤ plI (ty j))) (hno : 8 * dt < 4 + gwd 4 + bfN 4 n) (S : CallFix p m c b_q_TextWriter_fillData 7 s args (cd_q_TextWriter_fillData :: WS) R_TextWriter) (hRf : 7 ≤ R.frames) (hRl : 161 ≤ R.locals) (hRc : cells ≤ R.cells ∧ slots ≤ R.slots) (hK : va_K D classes [(cI, .int), (cC, .char)] s) (hSt : SB sa A s s.heap) (kr : ∀ (pc : Nat) (ls : Array Slot) (H : Heap) (locs : List Loc), decode b_q_TextWriter_fillData pc = .ok (.ireturn, 1) → va_P D classes [(tw, .inr (6, [.int (nI us)])), (ba, .inl (cI, 26, .inl (fun j => nI (bt j)))), (qt, .inl (cC, 45, .inl (fun j => nI (ty j))))] H → va_S A s.heap H locs → W p l e R s m args below meth c H locs cells slots Q (F0 m pc ls [.int (nI 0)])) : ∀ (ls : Array Slot) (H : Heap) (locs : List Loc), lv_has ls 7 [(0, .ref tw), (1, .ref qt), (2, .int (nI n)), (3, .ref ba), (4, .int (nI dt))] → va_P D classes [(tw, .inr (6, [.int (nI us)])), (ba, .inl (cI, 26, .inl (fun j => nI (bt j)))), (qt, .inl (cC, 45, .inl (fun j => nI (ty j))))] H → va_S A s.heap H locs → W p l e R s m args below meth c H locs cells slots Q (F0 m 0 ls []) := by
  obtain ⟨hx, hb, hml, hown, hts⟩ := id S
  intro ls H locs hl hP hS
  have hbfm : 4 + gwd 4 + bfN 4 n ≤ 600 := bf_max (Or.inr (Or.inr rfl)) hn0
  refine lv_aload_n hx hb d_q_TextWriter_fillData_0 rfl (lv_at hl 1 rfl) ?_
  refine lv_iload_n hx hb d_q_TextWriter_fillData_1 rfl (lv_at hl 2 rfl) ?_
  refine q_readSq (n := 2) (As := [.ref qt, .int (nI n)]) (rest := []) (wc := [(qt, .inl (cC, 45, .inl (fun j => nI (ty j))))]) S (c_q_Kind_fitting_2 l D cI cC sa qt ty n _ _ hn0 hty hd1 hd2 hd3 hp1 hp2 hp3) hSt hK hP [2] rfl (q_goodS kw_382 kw_383 kw_16 kw_384) (by decide +kernel) rfl rfl ⟨Nat.le_trans (Nat.le_of_ble_eq_true rfl) hRf, Nat.le_trans (Nat.le_of_ble_eq_true rfl) hRl⟩ rfl hl.1 rfl (Nat.le_of_ble_eq_true rfl) d_q_TextWriter_fillData_2 hRc hS (fun H locs hP hS => ?_)
  refine lv_astore hx hb d_q_TextWriter_fillData_5 hl (Nat.le_of_ble_eq_true rfl) rfl (fun ls hl => ?_)
  have hl : lv_has ls 7 [(5, .ref (sa 9)), (0, .ref tw), (1, .ref qt), (2, .int (nI n)), (3, .ref ba), (4, .int (nI dt))] := hl
  refine lv_aload hx hb d_q_TextWriter_fillData_7 (lv_at hl 0 rfl) ?_
  refine lv_iload_n hx hb d_q_TextWriter_fillData_9 rfl (lv_at hl 3 rfl) ?_
  refine q_readVr (n := 1) (As := [.int (nI n)]) (rest := []) (wc := []) S (c_q_Kind_bitsFor_2 l D cI cC sa n hn0) hSt hK hP (o_recv (ko_2 hSt) hS) [] rfl (q_goodV kw_485 kw_486 kw_487 kw_16 kw_488) (by decide +kernel) rfl rfl rfl ⟨Nat.le_trans (Nat.le_of_ble_eq_true rfl) hRf, Nat.le_trans (Nat.le_of_ble_eq_true rfl) hRl⟩ rfl hl.1 rfl (Nat.le_of_ble_eq_true rfl) d_q_TextWriter_fillData_10 hRc hS (fun H locs hP hS => ?_)
  refine lv_bipush (v := nI 8) hx hb d_q_TextWriter_fillData_13 (by decide) ?_
  refine lv_iload hx hb d_q_TextWriter_fillData_15 (lv_at hl 5 rfl) ?_
  refine n_imul hx hb d_q_TextWriter_fillData_17 ?_
  refine n_icmp_le hx hb d_q_TextWriter_fillData_18 (tgt := 23) rfl (Nat.lt_of_le_of_lt hbfm (by decide)) (by omega) (fun g18 => absurd g18 (by omega)) (fun g18 => ?_)
  refine lv_iconst (v := nI 0) hx hb d_q_TextWriter_fillData_21 (by decide) ?_
  exact kr _ ls H locs d_q_TextWriter_fillData_22 hP hS
set_option maxHeartbeats 1000000 in
set_option maxRecDepth 100000 in
theorem c_q_TextWriter_fillData_2_no (l : Launch) (D : va_G) (cI cC : ClassId) (sa : Nat → Nat) (tw us ba qt n dt x0 x2 : Nat) (bt ty : Nat → Nat) (hn0 : n ≤ 45) (hd5 : dt ≤ 25) (hty : ∀ j, j < n → ty j < 127) (hd1 : x0 < n) (hd2 : ¬ (0 ≤ plI (ty x0) ∧ plI (ty x0) ≤ nI 9)) (hd3 : ∀ j, j < x0 → (0 ≤ plI (ty j) ∧ plI (ty j) ≤ nI 9)) (hp1 : x2 < n) (hp2 : ¬ (0 ≤ plI (ty x2))) (hp3 : ∀ j, j < x2 → (0 ≤ plI (ty j))) (hno : 8 * dt < 4 + gwd 4 + bfN 4 n) : Met l y_q_TextWriter_fillData (cd_q_TextWriter_fillData :: WS) { frames := 7, cells := 0, slots := 0, locals := 161 } (va_Pc [.ref tw, .ref qt, .int (nI n), .ref ba, .int (nI dt)] (srP sa D [(tw, .inr (6, [.int (nI us)])), (ba, .inl (cI, 26, .inl (fun j => nI (bt j)))), (qt, .inl (cC, 45, .inl (fun j => nI (ty j))))] [(cI, .int), (cC, .char)])) (pQ (nI 0)) 0 0 noA := by
  refine Met.ofW (cc := b_q_TextWriter_fillData) (maxL := 7) (ret := (some .boolean)) (by decide) rfl ?_
  intro p e s m args below meth c s₁ B hml hv0
  obtain ⟨rfl, ⟨hP, hK⟩, hSt⟩ := hv0
  have hts := atoms_spec (ws := cd_q_TextWriter_fillData :: WS) B.pre
  have hown : s.vm.findClass R_TextWriter = some m.cls := findClass_of_methodNamed B.named
  have hlocks := B.notSynchronized
  have hl := lv_entry ([.ref tw, .ref qt, .int (nI n), .ref ba, .int (nI dt)]) (n := 7) (Nat.le_of_ble_eq_true rfl)
  rw [lg_entry_eq]
  generalize (lg_sl ([.ref tw, .ref qt, .int (nI n), .ref ba, .int (nI dt)]) ++ List.replicate (7 - (lg_sl ([.ref tw, .ref qt, .int (nI n), .ref ba, .int (nI dt)])).length) Slot.unset).toArray = ls at hl ⊢
  refine bd_q_TextWriter_fillData_2_no cI cC sa tw us ba qt n dt x0 x2 bt ty hn0 hd5 hty hd1 hd2 hd3 hp1 hp2 hp3 hno ⟨B.exec, B.bytes, hml, hown, hts⟩ (Nat.le_refl _) (Nat.le_refl _) ⟨Nat.le_refl _, Nat.le_refl _⟩ hK hSt (fun pc ls H locs hd hP hS => ?_) ls _ _ hl hP (va_S.rf (A := noA))
  exact W.zret B.exec B.bytes B.returns rfl (fun t ht _ => ⟨⟨_, (), rfl, rfl, trivial⟩, hS.F ht⟩) hS.2.2 hd
end
section
variable {p : Program} {l : Launch} {e : Env} {R : Room} {s : State} {m : MethodId} {args : Array Value} {below : List Frame} {meth : Method} {c : Code} {cells slots : Nat} {Q : State → Prop} {A : Nat → Prop} {H0 : Heap} {D : va_G}
set_option maxHeartbeats 1000000 in
set_option maxRecDepth 100000 in
theorem bd_q_TextWriter_fillData_2_ok (cI cC : ClassId) (sa : Nat → Nat) (tw us ba qt n dt x0 x2 : Nat) (bt ty : Nat → Nat) (hn0 : n ≤ 45) (hd5 : dt ≤ 25) (hty : ∀ j, j < n → ty j < 127) (hd1 : x0 < n) (hd2 : ¬ (0 ≤ plI (ty x0) ∧ plI (ty x0) ≤ nI 9)) (hd3 : ∀ j, j < x0 → (0 ≤ plI (ty j) ∧ plI (ty j) ≤ nI 9)) (hp1 : x2 < n) (hp2 : ¬ (0 ≤ plI (ty x2))) (hp3 : ∀ j, j < x2 → (0 ≤ plI (ty j))) (hfit : 4 + gwd 4 + bfN 4 n ≤ 8 * dt) (S : CallFix p m c b_q_TextWriter_fillData 7 s args (cd_q_TextWriter_fillData :: WS) R_TextWriter) (hRf : 7 ≤ R.frames) (hRl : 161 ≤ R.locals) (hRc : cells ≤ R.cells ∧ slots ≤ R.slots) (hK : va_K D classes [(cI, .int), (cC, .char)] s) (hA : ∀ q, s.heap.size ≤ q → A q) (hSt : SB sa A s s.heap) (kr : ∀ (pc : Nat) (ls : Array Slot) (H : Heap) (locs : List Loc), decode b_q_TextWriter_fillData pc = .ok (.ireturn, 1) → va_P D classes [(tw, .inr (6, [.int (nI ((cxR 4 ty n (flL bt 0 26)).1))])), (ba, .inl (cI, 26, .inl (fun j => nI ((frL (cxR 4 ty n (flL bt 0 26)).2 ((min ((cxR 4 ty n (flL bt 0 26)).1 + 4) (8 * dt) + 7) / 8) (dt - ((min ((cxR 4 ty n (flL bt 0 26)).1 + 4) (8 * dt) + 7) / 8))) j)))), (qt, .inl (cC, 45, .inl (fun j => nI (ty j))))] H → va_D A [(tw, .inr (6, [.int (nI ((cxR 4 ty n (flL bt 0 26)).1))])), (ba, .inl (cI, 26, .inl (fun j => nI ((frL (cxR 4 ty n (flL bt 0 26)).2 ((min ((cxR 4 ty n (flL bt 0 26)).1 + 4) (8 * dt) + 7) / 8) (dt - ((min ((cxR 4 ty n (flL bt 0 26)).1 + 4) (8 * dt) + 7) / 8))) j)))), (qt, .inl (cC, 45, .inl (fun j => nI (ty j))))] → va_S A s.heap H locs → W p l e R s m args below meth c H locs cells slots Q (F0 m pc ls [.int (nI 1)])) : ∀ (ls : Array Slot) (H : Heap) (locs : List Loc), lv_has ls 7 [(0, .ref tw), (1, .ref qt), (2, .int (nI n)), (3, .ref ba), (4, .int (nI dt))] → va_P D classes [(tw, .inr (6, [.int (nI us)])), (ba, .inl (cI, 26, .inl (fun j => nI (bt j)))), (qt, .inl (cC, 45, .inl (fun j => nI (ty j))))] H → va_D A [(tw, .inr (6, [.int (nI us)])), (ba, .inl (cI, 26, .inl (fun j => nI (bt j)))), (qt, .inl (cC, 45, .inl (fun j => nI (ty j))))] → va_S A s.heap H locs → W p l e R s m args below meth c H locs cells slots Q (F0 m 0 ls []) := by
  obtain ⟨hx, hb, hml, hown, hts⟩ := id S
  intro ls H locs hl hP hD hS
  have hbfm : 4 + gwd 4 + bfN 4 n ≤ 600 := bf_max (Or.inr (Or.inr rfl)) hn0
  have hcx : (cxR 4 ty n (flL bt 0 26)).1 = 4 + gwd 4 + bfN 4 n := cx_len (y := (flL bt 0 26)) (Or.inr (Or.inr rfl)) (fun j hj => Nat.lt_trans (hty j hj) (by decide))
  refine lv_aload_n hx hb d_q_TextWriter_fillData_0 rfl (lv_at hl 1 rfl) ?_
  refine lv_iload_n hx hb d_q_TextWriter_fillData_1 rfl (lv_at hl 2 rfl) ?_
  refine q_readSq (n := 2) (As := [.ref qt, .int (nI n)]) (rest := []) (wc := [(qt, .inl (cC, 45, .inl (fun j => nI (ty j))))]) S (c_q_Kind_fitting_2 l D cI cC sa qt ty n _ _ hn0 hty hd1 hd2 hd3 hp1 hp2 hp3) hSt hK hP [2] rfl (q_goodS kw_382 kw_383 kw_16 kw_384) (by decide +kernel) rfl rfl ⟨Nat.le_trans (Nat.le_of_ble_eq_true rfl) hRf, Nat.le_trans (Nat.le_of_ble_eq_true rfl) hRl⟩ rfl hl.1 rfl (Nat.le_of_ble_eq_true rfl) d_q_TextWriter_fillData_2 hRc hS (fun H locs hP hS => ?_)
  refine lv_astore hx hb d_q_TextWriter_fillData_5 hl (Nat.le_of_ble_eq_true rfl) rfl (fun ls hl => ?_)
  have hl : lv_has ls 7 [(5, .ref (sa 9)), (0, .ref tw), (1, .ref qt), (2, .int (nI n)), (3, .ref ba), (4, .int (nI dt))] := hl
  refine lv_aload hx hb d_q_TextWriter_fillData_7 (lv_at hl 0 rfl) ?_
  refine lv_iload_n hx hb d_q_TextWriter_fillData_9 rfl (lv_at hl 3 rfl) ?_
  refine q_readVr (n := 1) (As := [.int (nI n)]) (rest := []) (wc := []) S (c_q_Kind_bitsFor_2 l D cI cC sa n hn0) hSt hK hP (o_recv (ko_2 hSt) hS) [] rfl (q_goodV kw_485 kw_486 kw_487 kw_16 kw_488) (by decide +kernel) rfl rfl rfl ⟨Nat.le_trans (Nat.le_of_ble_eq_true rfl) hRf, Nat.le_trans (Nat.le_of_ble_eq_true rfl) hRl⟩ rfl hl.1 rfl (Nat.le_of_ble_eq_true rfl) d_q_TextWriter_fillData_10 hRc hS (fun H locs hP hS => ?_)
  refine lv_bipush (v := nI 8) hx hb d_q_TextWriter_fillData_13 (by decide) ?_
  refine lv_iload hx hb d_q_TextWriter_fillData_15 (lv_at hl 5 rfl) ?_
  refine n_imul hx hb d_q_TextWriter_fillData_17 ?_
  refine n_icmp_le hx hb d_q_TextWriter_fillData_18 (tgt := 23) rfl (Nat.lt_of_le_of_lt hbfm (by decide)) (by omega) (fun g18 => ?_) (fun g18 => absurd g18 (by omega))
  refine lv_aload_n hx hb d_q_TextWriter_fillData_23 rfl (lv_at hl 4 rfl) ?_
  refine lv_iconst (v := nI 0) hx hb d_q_TextWriter_fillData_24 (by decide) ?_
  refine q_writeSv (n := 2) (As := [.ref ba, .int (nI 0)]) (rest := []) (wc := [(ba, .inl (cI, 26, .inl (fun j => nI (bt j))))]) (wr := [(tw, .inr (6, [.int (nI us)])), (qt, .inl (cC, 45, .inl (fun j => nI (ty j))))]) (w1 := [(ba, .inl (cI, 26, .inl (fun j => nI ((flL bt 0 26) j))))]) S (c_j_Arrays_fill l D cI cC ba 26 bt 0 (by decide) H.size) hK hP hD hA [1] [0, 2] rfl rfl rfl rfl (by decide) rfl (q_goodS kw_493 kw_169 kw_9 kw_170) (by decide +kernel) rfl rfl ⟨Nat.le_trans (Nat.le_of_ble_eq_true rfl) hRf, Nat.le_trans (Nat.le_of_ble_eq_true rfl) hRl⟩ rfl hl.1 rfl (Nat.le_of_ble_eq_true rfl) d_q_TextWriter_fillData_25 hRc hS (fun H locs hP hD hS => ?_)
  replace hP : va_P D classes [(tw, .inr (6, [.int (nI us)])), (ba, .inl (cI, 26, .inl (fun j => nI ((flL bt 0 26) j)))), (qt, .inl (cC, 45, .inl (fun j => nI (ty j))))] H := hP.sub [0, 2, 1] rfl
  replace hD : va_D A [(tw, .inr (6, [.int (nI us)])), (ba, .inl (cI, 26, .inl (fun j => nI ((flL bt 0 26) j)))), (qt, .inl (cC, 45, .inl (fun j => nI (ty j))))] := hD.sub [0, 2, 1] rfl rfl
  refine lv_aload_n hx hb d_q_TextWriter_fillData_28 rfl (lv_at hl 1 rfl) ?_
  refine lv_iconst (v := nI 0) hx hb d_q_TextWriter_fillData_29 (by decide) ?_
  refine n_put (C := R_TextWriter) (T := F_TextWriter) (N := 1) (v := .int (nI 0)) hx hb hts u_TextWriter_in t_TextWriter t_TextWriter_ok n_TextWriter hown hK hP hD hS 0 rfl rfl 0 (by decide) kw_139 rfl rfl rfl (Nat.le_of_ble_eq_true rfl) d_q_TextWriter_fillData_30 (fun H locs hP hD hS => ?_)
  have hP : va_P D classes [(tw, .inr (6, [.int (nI 0)])), (ba, .inl (cI, 26, .inl (fun j => nI ((flL bt 0 26) j)))), (qt, .inl (cC, 45, .inl (fun j => nI (ty j))))] H := hP
  have hD : va_D A [(tw, .inr (6, [.int (nI 0)])), (ba, .inl (cI, 26, .inl (fun j => nI ((flL bt 0 26) j)))), (qt, .inl (cC, 45, .inl (fun j => nI (ty j))))] := hD
  refine lv_aload_n hx hb d_q_TextWriter_fillData_33 rfl (lv_at hl 1 rfl) ?_
  refine lv_aload_n hx hb d_q_TextWriter_fillData_34 rfl (lv_at hl 4 rfl) ?_
  refine lv_aload hx hb d_q_TextWriter_fillData_35 (lv_at hl 0 rfl) ?_
  refine n_kgetN hx hb (kf_2_code hSt) hS hown hSt.2.1.2.2.2.1 d_q_TextWriter_fillData_37 ?_
  refine lv_iconst (v := nI 4) hx hb d_q_TextWriter_fillData_40 (by decide) ?_
  refine q_writeVv (n := 3) (As := [.ref ba, .int (nI 4), .int (nI 4)]) (rest := []) (wc := [(tw, .inr (6, [.int (nI 0)])), (ba, .inl (cI, 26, .inl (fun j => nI ((flL bt 0 26) j))))]) (wr := [(qt, .inl (cC, 45, .inl (fun j => nI (ty j))))]) (w1 := [(tw, .inr (6, [.int (nI (0 + 4))])), (ba, .inl (cI, 26, .inl (fun j => nI ((ptC (flL bt 0 26) 0 4 4 4) j))))]) S (c_q_TextWriter_put l D cI cC tw 0 ba 4 4 (flL bt 0 26) (by decide) (by decide) (by decide) H.size) hK hP hD hA (q0 := 0) rfl rfl [0, 1] [2] rfl rfl rfl rfl (by decide) rfl (q_goodV kw_494 kw_496 ks_5 kw_6 kw_497) (by decide +kernel) rfl rfl rfl ⟨Nat.le_trans (Nat.le_of_ble_eq_true rfl) hRf, Nat.le_trans (Nat.le_of_ble_eq_true rfl) hRl⟩ rfl hl.1 rfl (Nat.le_of_ble_eq_true rfl) d_q_TextWriter_fillData_41 hRc hS (fun H locs hP hD hS => ?_)
  replace hP : va_P D classes [(tw, .inr (6, [.int (nI (0 + 4))])), (ba, .inl (cI, 26, .inl (fun j => nI ((ptC (flL bt 0 26) 0 4 4 4) j)))), (qt, .inl (cC, 45, .inl (fun j => nI (ty j))))] H := hP.sub [1, 2, 0] rfl
  replace hD : va_D A [(tw, .inr (6, [.int (nI (0 + 4))])), (ba, .inl (cI, 26, .inl (fun j => nI ((ptC (flL bt 0 26) 0 4 4 4) j)))), (qt, .inl (cC, 45, .inl (fun j => nI (ty j))))] := hD.sub [1, 2, 0] rfl rfl
  refine lv_aload_n hx hb d_q_TextWriter_fillData_44 rfl (lv_at hl 1 rfl) ?_
  refine lv_aload_n hx hb d_q_TextWriter_fillData_45 rfl (lv_at hl 4 rfl) ?_
  refine lv_iload_n hx hb d_q_TextWriter_fillData_46 rfl (lv_at hl 3 rfl) ?_
  refine lv_aload hx hb d_q_TextWriter_fillData_47 (lv_at hl 0 rfl) ?_
  refine n_kgetN hx hb (kf_2_countBits hSt) hS hown hSt.2.1.2.2.2.2.1 d_q_TextWriter_fillData_49 ?_
  refine q_writeVv (n := 3) (As := [.ref ba, .int (nI n), .int (nI 8)]) (rest := []) (wc := [(tw, .inr (6, [.int (nI (0 + 4))])), (ba, .inl (cI, 26, .inl (fun j => nI ((ptC (flL bt 0 26) 0 4 4 4) j))))]) (wr := [(qt, .inl (cC, 45, .inl (fun j => nI (ty j))))]) (w1 := [(tw, .inr (6, [.int (nI ((0 + 4) + 8))])), (ba, .inl (cI, 26, .inl (fun j => nI ((ptC (ptC (flL bt 0 26) 0 4 4 4) (0 + 4) n 8 8) j))))]) S (c_q_TextWriter_put l D cI cC tw (0 + 4) ba n 8 (ptC (flL bt 0 26) 0 4 4 4) (by omega) (by decide) (by decide) H.size) hK hP hD hA (q0 := 0) rfl rfl [0, 1] [2] rfl rfl rfl rfl (by decide) rfl (q_goodV kw_494 kw_496 ks_5 kw_6 kw_497) (by decide +kernel) rfl rfl rfl ⟨Nat.le_trans (Nat.le_of_ble_eq_true rfl) hRf, Nat.le_trans (Nat.le_of_ble_eq_true rfl) hRl⟩ rfl hl.1 rfl (Nat.le_of_ble_eq_true rfl) d_q_TextWriter_fillData_52 hRc hS (fun H locs hP hD hS => ?_)
  replace hP : va_P D classes [(tw, .inr (6, [.int (nI ((0 + 4) + 8))])), (ba, .inl (cI, 26, .inl (fun j => nI ((ptC (ptC (flL bt 0 26) 0 4 4 4) (0 + 4) n 8 8) j)))), (qt, .inl (cC, 45, .inl (fun j => nI (ty j))))] H := hP.sub [1, 2, 0] rfl
  replace hD : va_D A [(tw, .inr (6, [.int (nI ((0 + 4) + 8))])), (ba, .inl (cI, 26, .inl (fun j => nI ((ptC (ptC (flL bt 0 26) 0 4 4 4) (0 + 4) n 8 8) j)))), (qt, .inl (cC, 45, .inl (fun j => nI (ty j))))] := hD.sub [1, 2, 0] rfl rfl
  refine lv_aload_n hx hb d_q_TextWriter_fillData_55 rfl (lv_at hl 1 rfl) ?_
  refine lv_aload_n hx hb d_q_TextWriter_fillData_56 rfl (lv_at hl 4 rfl) ?_
  refine lv_aload hx hb d_q_TextWriter_fillData_57 (lv_at hl 0 rfl) ?_
  refine lv_aload_n hx hb d_q_TextWriter_fillData_59 rfl (lv_at hl 2 rfl) ?_
  refine lv_iload_n hx hb d_q_TextWriter_fillData_60 rfl (lv_at hl 3 rfl) ?_
  refine q_writeVvs (n := 4) (As := [.ref ba, .ref (sa 9), .ref qt, .int (nI n)]) (rest := []) (wc := [(tw, .inr (6, [.int (nI ((0 + 4) + 8))])), (ba, .inl (cI, 26, .inl (fun j => nI ((ptC (ptC (flL bt 0 26) 0 4 4 4) (0 + 4) n 8 8) j)))), (qt, .inl (cC, 45, .inl (fun j => nI (ty j))))]) (wr := []) (w1 := [(tw, .inr (6, [.int (nI ((pcS 4 ty n ((0 + 4) + 8) (ptC (ptC (flL bt 0 26) 0 4 4 4) (0 + 4) n 8 8) n).2.2.1))])), (ba, .inl (cI, 26, .inl (fun j => nI (((pcS 4 ty n ((0 + 4) + 8) (ptC (ptC (flL bt 0 26) 0 4 4 4) (0 + 4) n 8 8) n).2.2.2) j)))), (qt, .inl (cC, 45, .inl (fun j => nI (ty j))))]) S (c_q_TextWriter_putCharacters_2 l D cI cC sa tw ((0 + 4) + 8) ba qt n (ptC (ptC (flL bt 0 26) 0 4 4 4) (0 + 4) n 8 8) ty hn0 hty (fun _ _ => trivial) (by have h7 : gwd 4 = 8 := rfl; omega) H.size) hSt hK hP hD hA (q0 := 0) rfl rfl [0, 1, 2] [] rfl rfl rfl rfl (by decide) rfl (q_goodV kw_498 kw_500 ks_6 kw_6 kw_501) (by decide +kernel) rfl rfl rfl ⟨Nat.le_trans (Nat.le_of_ble_eq_true rfl) hRf, Nat.le_trans (Nat.le_of_ble_eq_true rfl) hRl⟩ rfl hl.1 rfl (Nat.le_of_ble_eq_true rfl) d_q_TextWriter_fillData_61 hRc hS (fun H locs hP hD hS => ?_)
  replace hP : va_P D classes [(tw, .inr (6, [.int (nI ((pcS 4 ty n ((0 + 4) + 8) (ptC (ptC (flL bt 0 26) 0 4 4 4) (0 + 4) n 8 8) n).2.2.1))])), (ba, .inl (cI, 26, .inl (fun j => nI (((pcS 4 ty n ((0 + 4) + 8) (ptC (ptC (flL bt 0 26) 0 4 4 4) (0 + 4) n 8 8) n).2.2.2) j)))), (qt, .inl (cC, 45, .inl (fun j => nI (ty j))))] H := hP.sub [0, 1, 2] rfl
  replace hD : va_D A [(tw, .inr (6, [.int (nI ((pcS 4 ty n ((0 + 4) + 8) (ptC (ptC (flL bt 0 26) 0 4 4 4) (0 + 4) n 8 8) n).2.2.1))])), (ba, .inl (cI, 26, .inl (fun j => nI (((pcS 4 ty n ((0 + 4) + 8) (ptC (ptC (flL bt 0 26) 0 4 4 4) (0 + 4) n 8 8) n).2.2.2) j)))), (qt, .inl (cC, 45, .inl (fun j => nI (ty j))))] := hD.sub [0, 1, 2] rfl rfl
  have hP : va_P D classes [(tw, .inr (6, [.int (nI ((cxR 4 ty n (flL bt 0 26)).1))])), (ba, .inl (cI, 26, .inl (fun j => nI (((cxR 4 ty n (flL bt 0 26)).2) j)))), (qt, .inl (cC, 45, .inl (fun j => nI (ty j))))] H := hP
  have hD : va_D A [(tw, .inr (6, [.int (nI ((cxR 4 ty n (flL bt 0 26)).1))])), (ba, .inl (cI, 26, .inl (fun j => nI (((cxR 4 ty n (flL bt 0 26)).2) j)))), (qt, .inl (cC, 45, .inl (fun j => nI (ty j))))] := hD
  refine lv_aload_n hx hb d_q_TextWriter_fillData_64 rfl (lv_at hl 1 rfl) ?_
  refine n_get (C := R_TextWriter) (T := F_TextWriter) (N := 1) (v := .int (nI ((cxR 4 ty n (flL bt 0 26)).1))) hx hb hts u_TextWriter_in hown hK hP 0 rfl rfl 0 (by decide) kw_139 rfl d_q_TextWriter_fillData_65 ?_
  refine lv_iconst (v := nI 4) hx hb d_q_TextWriter_fillData_68 (by decide) ?_
  refine n_iadd hx hb d_q_TextWriter_fillData_69 ?_
  refine lv_bipush (v := nI 8) hx hb d_q_TextWriter_fillData_70 (by decide) ?_
  refine lv_iload hx hb d_q_TextWriter_fillData_72 (lv_at hl 5 rfl) ?_
  refine n_imul hx hb d_q_TextWriter_fillData_74 ?_
  refine q_pureS (n := 2) (As := [.int (nI (((cxR 4 ty n (flL bt 0 26)).1) + 4)), .int (nI (8 * dt))]) (rest := []) S (c_j_Math_min l (((cxR 4 ty n (flL bt 0 26)).1) + 4) (8 * dt) (by omega) (by omega)) (q_goodS kw_504 kw_431 kw_19 kw_432) (by decide +kernel) rfl rfl ⟨Nat.le_trans (Nat.le_of_ble_eq_true rfl) hRf, Nat.le_trans (Nat.le_of_ble_eq_true rfl) hRl⟩ rfl hl.1 rfl (Nat.le_of_ble_eq_true rfl) d_q_TextWriter_fillData_75 hRc hS (fun H locs hkp hS => ?_)
  replace hP := hP.kept (fun k q hq => hkp q.1 (hP k q hq).lt)
  refine lv_istore hx hb d_q_TextWriter_fillData_78 hl (Nat.le_of_ble_eq_true rfl) rfl (fun ls hl => ?_)
  have hl : lv_has ls 7 [(6, .int (nI (min (((cxR 4 ty n (flL bt 0 26)).1) + 4) (8 * dt)))), (5, .ref (sa 9)), (0, .ref tw), (1, .ref qt), (2, .int (nI n)), (3, .ref ba), (4, .int (nI dt))] := hl
  refine lv_aload_n hx hb d_q_TextWriter_fillData_80 rfl (lv_at hl 5 rfl) ?_
  refine lv_iload hx hb d_q_TextWriter_fillData_81 (lv_at hl 0 rfl) ?_
  refine lv_bipush (v := nI 7) hx hb d_q_TextWriter_fillData_83 (by decide) ?_
  refine n_iadd hx hb d_q_TextWriter_fillData_85 ?_
  refine lv_bipush (v := nI 8) hx hb d_q_TextWriter_fillData_86 (by decide) ?_
  refine n_idiv hx hb d_q_TextWriter_fillData_88 (by omega) (by omega) (by omega) ?_
  refine lv_iload hx hb d_q_TextWriter_fillData_89 (lv_at hl 6 rfl) ?_
  refine q_writeSv (n := 3) (As := [.ref ba, .int (nI (((min (((cxR 4 ty n (flL bt 0 26)).1) + 4) (8 * dt)) + 7) / 8)), .int (nI dt)]) (rest := []) (wc := [(ba, .inl (cI, 26, .inl (fun j => nI (((cxR 4 ty n (flL bt 0 26)).2) j))))]) (wr := [(tw, .inr (6, [.int (nI ((cxR 4 ty n (flL bt 0 26)).1))])), (qt, .inl (cC, 45, .inl (fun j => nI (ty j))))]) (w1 := [(ba, .inl (cI, 26, .inl (fun j => nI ((frL ((cxR 4 ty n (flL bt 0 26)).2) (((min (((cxR 4 ty n (flL bt 0 26)).1) + 4) (8 * dt)) + 7) / 8) (dt - (((min (((cxR 4 ty n (flL bt 0 26)).1) + 4) (8 * dt)) + 7) / 8))) j))))]) S (c_q_TextWriter_fillRest l D cI cC ba (((min (((cxR 4 ty n (flL bt 0 26)).1) + 4) (8 * dt)) + 7) / 8) dt ((cxR 4 ty n (flL bt 0 26)).2) (by omega) (by omega) H.size) hK hP hD hA [1] [0, 2] rfl rfl rfl rfl (by decide) rfl (q_goodS kw_505 kw_506 kw_6 kw_507) (by decide +kernel) rfl rfl ⟨Nat.le_trans (Nat.le_of_ble_eq_true rfl) hRf, Nat.le_trans (Nat.le_of_ble_eq_true rfl) hRl⟩ rfl hl.1 rfl (Nat.le_of_ble_eq_true rfl) d_q_TextWriter_fillData_91 hRc hS (fun H locs hP hD hS => ?_)
  replace hP : va_P D classes [(tw, .inr (6, [.int (nI ((cxR 4 ty n (flL bt 0 26)).1))])), (ba, .inl (cI, 26, .inl (fun j => nI ((frL ((cxR 4 ty n (flL bt 0 26)).2) (((min (((cxR 4 ty n (flL bt 0 26)).1) + 4) (8 * dt)) + 7) / 8) (dt - (((min (((cxR 4 ty n (flL bt 0 26)).1) + 4) (8 * dt)) + 7) / 8))) j)))), (qt, .inl (cC, 45, .inl (fun j => nI (ty j))))] H := hP.sub [0, 2, 1] rfl
  replace hD : va_D A [(tw, .inr (6, [.int (nI ((cxR 4 ty n (flL bt 0 26)).1))])), (ba, .inl (cI, 26, .inl (fun j => nI ((frL ((cxR 4 ty n (flL bt 0 26)).2) (((min (((cxR 4 ty n (flL bt 0 26)).1) + 4) (8 * dt)) + 7) / 8) (dt - (((min (((cxR 4 ty n (flL bt 0 26)).1) + 4) (8 * dt)) + 7) / 8))) j)))), (qt, .inl (cC, 45, .inl (fun j => nI (ty j))))] := hD.sub [0, 2, 1] rfl rfl
  refine lv_iconst (v := nI 1) hx hb d_q_TextWriter_fillData_94 (by decide) ?_
  exact kr _ ls H locs d_q_TextWriter_fillData_95 hP hD hS
set_option maxHeartbeats 1000000 in
set_option maxRecDepth 100000 in
theorem c_q_TextWriter_fillData_2_ok (l : Launch) (D : va_G) (cI cC : ClassId) (sa : Nat → Nat) (tw us ba qt n dt x0 x2 : Nat) (bt ty : Nat → Nat) (hn0 : n ≤ 45) (hd5 : dt ≤ 25) (hty : ∀ j, j < n → ty j < 127) (hd1 : x0 < n) (hd2 : ¬ (0 ≤ plI (ty x0) ∧ plI (ty x0) ≤ nI 9)) (hd3 : ∀ j, j < x0 → (0 ≤ plI (ty j) ∧ plI (ty j) ≤ nI 9)) (hp1 : x2 < n) (hp2 : ¬ (0 ≤ plI (ty x2))) (hp3 : ∀ j, j < x2 → (0 ≤ plI (ty j))) (hfit : 4 + gwd 4 + bfN 4 n ≤ 8 * dt) (sz : Nat) : Met l y_q_TextWriter_fillData (cd_q_TextWriter_fillData :: WS) { frames := 7, cells := 0, slots := 0, locals := 161 } (va_Pc [.ref tw, .ref qt, .int (nI n), .ref ba, .int (nI dt)] (swP sa D [(tw, .inr (6, [.int (nI us)])), (ba, .inl (cI, 26, .inl (fun j => nI (bt j)))), (qt, .inl (cC, 45, .inl (fun j => nI (ty j))))] [(cI, .int), (cC, .char)] sz)) (wQi D (nI 1) [(tw, .inr (6, [.int (nI us)])), (ba, .inl (cI, 26, .inl (fun j => nI (bt j)))), (qt, .inl (cC, 45, .inl (fun j => nI (ty j))))] [(tw, .inr (6, [.int (nI ((cxR 4 ty n (flL bt 0 26)).1))])), (ba, .inl (cI, 26, .inl (fun j => nI ((frL (cxR 4 ty n (flL bt 0 26)).2 ((min ((cxR 4 ty n (flL bt 0 26)).1 + 4) (8 * dt) + 7) / 8) (dt - ((min ((cxR 4 ty n (flL bt 0 26)).1 + 4) (8 * dt) + 7) / 8))) j)))), (qt, .inl (cC, 45, .inl (fun j => nI (ty j))))] sz) 0 0 (va_A [(tw, .inr (6, [.int (nI us)])), (ba, .inl (cI, 26, .inl (fun j => nI (bt j)))), (qt, .inl (cC, 45, .inl (fun j => nI (ty j))))] sz) := by
  refine Met.ofW (cc := b_q_TextWriter_fillData) (maxL := 7) (ret := (some .boolean)) (by decide) rfl ?_
  intro p e s m args below meth c s₁ B hml hv0
  obtain ⟨rfl, ⟨hP, hK, hD0, hsz⟩, hSt⟩ := hv0
  have hts := atoms_spec (ws := cd_q_TextWriter_fillData :: WS) B.pre
  have hown : s.vm.findClass R_TextWriter = some m.cls := findClass_of_methodNamed B.named
  have hlocks := B.notSynchronized
  subst hsz
  have hD := hD0.self (sz := s.heap.size)
  have hl := lv_entry ([.ref tw, .ref qt, .int (nI n), .ref ba, .int (nI dt)]) (n := 7) (Nat.le_of_ble_eq_true rfl)
  rw [lg_entry_eq]
  generalize (lg_sl ([.ref tw, .ref qt, .int (nI n), .ref ba, .int (nI dt)]) ++ List.replicate (7 - (lg_sl ([.ref tw, .ref qt, .int (nI n), .ref ba, .int (nI dt)])).length) Slot.unset).toArray = ls at hl ⊢
  refine bd_q_TextWriter_fillData_2_ok cI cC sa tw us ba qt n dt x0 x2 bt ty hn0 hd5 hty hd1 hd2 hd3 hp1 hp2 hp3 hfit ⟨B.exec, B.bytes, hml, hown, hts⟩ (Nat.le_refl _) (Nat.le_refl _) ⟨Nat.le_refl _, Nat.le_refl _⟩ hK (fun q h => Or.inr h) hSt (fun pc ls H locs hd hP hD hS => ?_) ls _ _ hl hP hD (va_S.rf)
  exact W.zret B.exec B.bytes B.returns rfl (fun t ht _ => ⟨⟨_, (), rfl, rfl, (by have h9 := hP; rw [← ht] at h9; exact h9)⟩, hS.F ht⟩) hS.2.2 hd
end
section
theorem d_q_TextReader_takePart_0 : decode b_q_TextReader_takePart 0 = .ok (.aload_n 0, 1) := by decide +kernel
theorem d_q_TextReader_takePart_1 : decode b_q_TextReader_takePart 1 = .ok (.aload_n 1, 1) := by decide +kernel
theorem d_q_TextReader_takePart_2 : decode b_q_TextReader_takePart 2 = .ok (.aload_n 2, 1) := by decide +kernel
theorem d_q_TextReader_takePart_3 : decode b_q_TextReader_takePart 3 = .ok (.getfield 39, 3) := by decide +kernel
theorem d_q_TextReader_takePart_6 : decode b_q_TextReader_takePart 6 = .ok (.invokevirtual 25, 3) := by decide +kernel
theorem d_q_TextReader_takePart_9 : decode b_q_TextReader_takePart 9 = .ok (.istore_n 3, 1) := by decide +kernel
theorem d_q_TextReader_takePart_10 : decode b_q_TextReader_takePart 10 = .ok (.iload_n 3, 1) := by decide +kernel
theorem d_q_TextReader_takePart_11 : decode b_q_TextReader_takePart 11 = .ok (.iconst (-1), 1) := by decide +kernel
theorem d_q_TextReader_takePart_12 : decode b_q_TextReader_takePart 12 = .ok (.if_icmp .ne 5, 3) := by decide +kernel
theorem d_q_TextReader_takePart_15 : decode b_q_TextReader_takePart 15 = .ok (.iconst 0, 1) := by decide +kernel
theorem d_q_TextReader_takePart_16 : decode b_q_TextReader_takePart 16 = .ok (.ireturn, 1) := by decide +kernel
theorem d_q_TextReader_takePart_17 : decode b_q_TextReader_takePart 17 = .ok (.iconst 0, 1) := by decide +kernel
theorem d_q_TextReader_takePart_18 : decode b_q_TextReader_takePart 18 = .ok (.istore 4, 2) := by decide +kernel
theorem d_q_TextReader_takePart_20 : decode b_q_TextReader_takePart 20 = .ok (.iload 4, 2) := by decide +kernel
theorem d_q_TextReader_takePart_22 : decode b_q_TextReader_takePart 22 = .ok (.iload_n 3, 1) := by decide +kernel
theorem d_q_TextReader_takePart_23 : decode b_q_TextReader_takePart 23 = .ok (.if_icmp .ge 69, 3) := by decide +kernel
theorem d_q_TextReader_takePart_26 : decode b_q_TextReader_takePart 26 = .ok (.aload_n 2, 1) := by decide +kernel
theorem d_q_TextReader_takePart_27 : decode b_q_TextReader_takePart 27 = .ok (.getfield 42, 3) := by decide +kernel
theorem d_q_TextReader_takePart_30 : decode b_q_TextReader_takePart 30 = .ok (.iload_n 3, 1) := by decide +kernel
theorem d_q_TextReader_takePart_31 : decode b_q_TextReader_takePart 31 = .ok (.iload 4, 2) := by decide +kernel
theorem d_q_TextReader_takePart_33 : decode b_q_TextReader_takePart 33 = .ok (.isub, 1) := by decide +kernel
theorem d_q_TextReader_takePart_34 : decode b_q_TextReader_takePart 34 = .ok (.invokestatic 45, 3) := by decide +kernel
theorem d_q_TextReader_takePart_37 : decode b_q_TextReader_takePart 37 = .ok (.istore 5, 2) := by decide +kernel
theorem d_q_TextReader_takePart_39 : decode b_q_TextReader_takePart 39 = .ok (.aload_n 0, 1) := by decide +kernel
theorem d_q_TextReader_takePart_40 : decode b_q_TextReader_takePart 40 = .ok (.aload_n 1, 1) := by decide +kernel
theorem d_q_TextReader_takePart_41 : decode b_q_TextReader_takePart 41 = .ok (.aload_n 2, 1) := by decide +kernel
theorem d_q_TextReader_takePart_42 : decode b_q_TextReader_takePart 42 = .ok (.iload 5, 2) := by decide +kernel
theorem d_q_TextReader_takePart_44 : decode b_q_TextReader_takePart 44 = .ok (.invokevirtual 51, 3) := by decide +kernel
theorem d_q_TextReader_takePart_47 : decode b_q_TextReader_takePart 47 = .ok (.invokevirtual 25, 3) := by decide +kernel
theorem d_q_TextReader_takePart_50 : decode b_q_TextReader_takePart 50 = .ok (.istore 6, 2) := by decide +kernel
theorem d_q_TextReader_takePart_52 : decode b_q_TextReader_takePart 52 = .ok (.iload 6, 2) := by decide +kernel
theorem d_q_TextReader_takePart_54 : decode b_q_TextReader_takePart 54 = .ok (.iconst (-1), 1) := by decide +kernel
theorem d_q_TextReader_takePart_55 : decode b_q_TextReader_takePart 55 = .ok (.if_icmp .eq 14, 3) := by decide +kernel
theorem d_q_TextReader_takePart_58 : decode b_q_TextReader_takePart 58 = .ok (.iload 6, 2) := by decide +kernel
theorem d_q_TextReader_takePart_60 : decode b_q_TextReader_takePart 60 = .ok (.aload_n 2, 1) := by decide +kernel
theorem d_q_TextReader_takePart_61 : decode b_q_TextReader_takePart 61 = .ok (.iload 5, 2) := by decide +kernel
theorem d_q_TextReader_takePart_63 : decode b_q_TextReader_takePart 63 = .ok (.invokevirtual 55, 3) := by decide +kernel
theorem d_q_TextReader_takePart_66 : decode b_q_TextReader_takePart 66 = .ok (.if_icmp .lt 5, 3) := by decide +kernel
theorem d_q_TextReader_takePart_69 : decode b_q_TextReader_takePart 69 = .ok (.iconst 0, 1) := by decide +kernel
theorem d_q_TextReader_takePart_70 : decode b_q_TextReader_takePart 70 = .ok (.ireturn, 1) := by decide +kernel
theorem d_q_TextReader_takePart_71 : decode b_q_TextReader_takePart 71 = .ok (.aload_n 0, 1) := by decide +kernel
theorem d_q_TextReader_takePart_72 : decode b_q_TextReader_takePart 72 = .ok (.aload_n 2, 1) := by decide +kernel
theorem d_q_TextReader_takePart_73 : decode b_q_TextReader_takePart 73 = .ok (.iload 6, 2) := by decide +kernel
theorem d_q_TextReader_takePart_75 : decode b_q_TextReader_takePart 75 = .ok (.iload 5, 2) := by decide +kernel
theorem d_q_TextReader_takePart_77 : decode b_q_TextReader_takePart 77 = .ok (.invokevirtual 58, 3) := by decide +kernel
theorem d_q_TextReader_takePart_80 : decode b_q_TextReader_takePart 80 = .ok (.iload 4, 2) := by decide +kernel
theorem d_q_TextReader_takePart_82 : decode b_q_TextReader_takePart 82 = .ok (.aload_n 2, 1) := by decide +kernel
theorem d_q_TextReader_takePart_83 : decode b_q_TextReader_takePart 83 = .ok (.getfield 42, 3) := by decide +kernel
theorem d_q_TextReader_takePart_86 : decode b_q_TextReader_takePart 86 = .ok (.iadd, 1) := by decide +kernel
theorem d_q_TextReader_takePart_87 : decode b_q_TextReader_takePart 87 = .ok (.istore 4, 2) := by decide +kernel
theorem d_q_TextReader_takePart_89 : decode b_q_TextReader_takePart 89 = .ok (.goto (-69), 3) := by decide +kernel
theorem d_q_TextReader_takePart_92 : decode b_q_TextReader_takePart 92 = .ok (.iconst 1, 1) := by decide +kernel
theorem d_q_TextReader_takePart_93 : decode b_q_TextReader_takePart 93 = .ok (.ireturn, 1) := by decide +kernel
end
section
variable {p : Program} {l : Launch} {e : Env} {R : Room} {s : State} {m : MethodId} {args : Array Value} {below : List Frame} {meth : Method} {c : Code} {cells slots : Nat} {Q : State → Prop} {A : Nat → Prop} {H0 : Heap} {D : va_G}
set_option maxHeartbeats 1000000 in
set_option maxRecDepth 100000 in
theorem bd_q_TextReader_takePart_0_no (cI cC : ClassId) (sa : Nat → Nat) (td tq ct nx ba dt : Nat) (ch bt : Nat → Nat) (hdt : dt ≤ 19) (hnx : nx ≤ 8 * dt) (hno : 8 * dt < nx + 10) (S : CallFix p m c b_q_TextReader_takePart 7 s args (cd_q_TextReader_takePart :: WS) R_TextReader) (hRf : 6 ≤ R.frames) (hRl : 131 ≤ R.locals) (hRc : cells ≤ R.cells ∧ slots ≤ R.slots) (hK : va_K D classes [(cI, .int), (cC, .char)] s) (hSt : SB sa A s s.heap) (kr : ∀ (pc : Nat) (ls : Array Slot) (H : Heap) (locs : List Loc), decode b_q_TextReader_takePart pc = .ok (.ireturn, 1) → va_P D classes [(td, .inr (5, [.ref tq, .int (nI ct), .int (nI nx), .int (nI (8 * dt))])), (tq, .inl (cC, 64, .inl (fun j => nI (ch j)))), (ba, .inl (cI, 26, .inl (fun j => nI (bt j))))] H → va_S A s.heap H locs → W p l e R s m args below meth c H locs cells slots Q (F0 m pc ls [.int (nI 0)])) : ∀ (ls : Array Slot) (H : Heap) (locs : List Loc), lv_has ls 7 [(0, .ref td), (1, .ref ba), (2, .ref (sa 7))] → va_P D classes [(td, .inr (5, [.ref tq, .int (nI ct), .int (nI nx), .int (nI (8 * dt))])), (tq, .inl (cC, 64, .inl (fun j => nI (ch j)))), (ba, .inl (cI, 26, .inl (fun j => nI (bt j))))] H → va_S A s.heap H locs → W p l e R s m args below meth c H locs cells slots Q (F0 m 0 ls []) := by
  obtain ⟨hx, hb, hml, hown, hts⟩ := id S
  intro ls H locs hl hP hS
  refine lv_aload_n hx hb d_q_TextReader_takePart_0 rfl (lv_at hl 0 rfl) ?_
  refine lv_aload_n hx hb d_q_TextReader_takePart_1 rfl (lv_at hl 1 rfl) ?_
  refine lv_aload_n hx hb d_q_TextReader_takePart_2 rfl (lv_at hl 2 rfl) ?_
  refine n_kgetN hx hb (kf_0_countBits hSt) hS hown hSt.2.1.1 d_q_TextReader_takePart_3 ?_
  refine q_readVs (n := 2) (As := [.ref ba, .int (nI 10)]) (rest := []) (wc := [(td, .inr (5, [.ref tq, .int (nI ct), .int (nI nx), .int (nI (8 * dt))])), (ba, .inl (cI, 26, .inl (fun j => nI (bt j))))]) S (c_q_TextReader_take_no l D cI cC sa td tq ct nx (8 * dt) ba 10 bt hnx (by omega) (by decide) hno) hSt hK hP (q0 := 0) rfl rfl [0, 2] rfl (q_goodV kw_676 kw_678 ks_17 kw_7 kw_679) (by decide +kernel) rfl rfl rfl ⟨Nat.le_trans (Nat.le_of_ble_eq_true rfl) hRf, Nat.le_trans (Nat.le_of_ble_eq_true rfl) hRl⟩ rfl hl.1 rfl (Nat.le_of_ble_eq_true rfl) d_q_TextReader_takePart_6 hRc hS (fun H locs hP hS => ?_)
  refine lv_istore_n hx hb d_q_TextReader_takePart_9 rfl hl (Nat.le_of_ble_eq_true rfl) rfl (fun ls hl => ?_)
  have hl : lv_has ls 7 [(3, .int (-1)), (0, .ref td), (1, .ref ba), (2, .ref (sa 7))] := hl
  refine lv_iload_n hx hb d_q_TextReader_takePart_10 rfl (lv_at hl 0 rfl) ?_
  refine lv_iconst (v := (-1)) hx hb d_q_TextReader_takePart_11 (by decide) ?_
  refine lv_icmp_ne hx hb d_q_TextReader_takePart_12 (tgt := 17) rfl (fun g12 => absurd g12 (fun z => z rfl)) (fun g12 => ?_)
  refine lv_iconst (v := nI 0) hx hb d_q_TextReader_takePart_15 (by decide) ?_
  exact kr _ ls H locs d_q_TextReader_takePart_16 hP hS
set_option maxHeartbeats 1000000 in
set_option maxRecDepth 100000 in
theorem c_q_TextReader_takePart_0_no (l : Launch) (D : va_G) (cI cC : ClassId) (sa : Nat → Nat) (td tq ct nx ba dt : Nat) (ch bt : Nat → Nat) (hdt : dt ≤ 19) (hnx : nx ≤ 8 * dt) (hno : 8 * dt < nx + 10) : Met l y_q_TextReader_takePart (cd_q_TextReader_takePart :: WS) { frames := 6, cells := 0, slots := 0, locals := 131 } (va_Pc [.ref td, .ref ba, .ref (sa 7)] (srP sa D [(td, .inr (5, [.ref tq, .int (nI ct), .int (nI nx), .int (nI (8 * dt))])), (tq, .inl (cC, 64, .inl (fun j => nI (ch j)))), (ba, .inl (cI, 26, .inl (fun j => nI (bt j))))] [(cI, .int), (cC, .char)])) (pQ (nI 0)) 0 0 noA := by
  refine Met.ofW (cc := b_q_TextReader_takePart) (maxL := 7) (ret := (some .boolean)) (by decide) rfl ?_
  intro p e s m args below meth c s₁ B hml hv0
  obtain ⟨rfl, ⟨hP, hK⟩, hSt⟩ := hv0
  have hts := atoms_spec (ws := cd_q_TextReader_takePart :: WS) B.pre
  have hown : s.vm.findClass R_TextReader = some m.cls := findClass_of_methodNamed B.named
  have hlocks := B.notSynchronized
  have hl := lv_entry ([.ref td, .ref ba, .ref (sa 7)]) (n := 7) (Nat.le_of_ble_eq_true rfl)
  rw [lg_entry_eq]
  generalize (lg_sl ([.ref td, .ref ba, .ref (sa 7)]) ++ List.replicate (7 - (lg_sl ([.ref td, .ref ba, .ref (sa 7)])).length) Slot.unset).toArray = ls at hl ⊢
  refine bd_q_TextReader_takePart_0_no cI cC sa td tq ct nx ba dt ch bt hdt hnx hno ⟨B.exec, B.bytes, hml, hown, hts⟩ (Nat.le_refl _) (Nat.le_refl _) ⟨Nat.le_refl _, Nat.le_refl _⟩ hK hSt (fun pc ls H locs hd hP hS => ?_) ls _ _ hl hP (va_S.rf (A := noA))
  exact W.zret B.exec B.bytes B.returns rfl (fun t ht _ => ⟨⟨_, (), rfl, rfl, trivial⟩, hS.F ht⟩) hS.2.2 hd
end
section
variable {p : Program} {l : Launch} {e : Env} {R : Room} {s : State} {m : MethodId} {args : Array Value} {below : List Frame} {meth : Method} {c : Code} {cells slots : Nat} {Q : State → Prop} {A : Nat → Prop} {H0 : Heap} {D : va_G}
set_option maxHeartbeats 1000000 in
set_option maxRecDepth 100000 in
theorem lw_q_TextReader_takePart_0_ok_20 (cI cC : ClassId) (sa : Nat → Nat) (td tq ct nx ba dt : Nat) (ch bt : Nat → Nat) (fi : Nat × Nat × Nat × (Nat → Nat)) (hdt : dt ≤ 19) (hbt : lt256 26 bt) (hyes : nx + 10 ≤ 8 * dt) (hinv : 10 * ct ≤ 3 * nx) (hfi : tpW bt 1 dt (nxL bt nx 10) (nxL bt nx 10) (nx + 10) ct ch = fi) (S : CallFix p m c b_q_TextReader_takePart 7 s args (cd_q_TextReader_takePart :: WS) R_TextReader) (hRf : 6 ≤ R.frames) (hRl : 131 ≤ R.locals) (hRc : cells ≤ R.cells ∧ slots ≤ R.slots) (hK : va_K D classes [(cI, .int), (cC, .char)] s) (hA : ∀ q, s.heap.size ≤ q → A q) (hSt : SB sa A s s.heap) (le : Nat) (hle : le < 2048) (kr : ∀ (pc : Nat) (ls : Array Slot) (H : Heap) (locs : List Loc), decode b_q_TextReader_takePart pc = .ok (.ireturn, 1) → va_P D classes [(td, .inr (5, [.ref tq, .int (nI fi.2.2.1), .int (nI fi.2.1), .int (nI (8 * dt))])), (tq, .inl (cC, 64, .inl (fun j => nI (fi.2.2.2 j)))), (ba, .inl (cI, 26, .inl (fun j => nI (bt j))))] H → va_D A [(td, .inr (5, [.ref tq, .int (nI fi.2.2.1), .int (nI fi.2.1), .int (nI (8 * dt))])), (tq, .inl (cC, 64, .inl (fun j => nI (fi.2.2.2 j)))), (ba, .inl (cI, 26, .inl (fun j => nI (bt j))))] → va_S A s.heap H locs → W p l e R s m args below meth c H locs cells slots Q (F0 m pc ls [.int (nI fi.1)])) :
    ∀ (n : Nat) (do9 : Nat) (pl : Nat) (fd : Nat) (rd : Nat → Nat), (le - do9 ≤ n) → (10 * fd ≤ 3 * pl) → (pl ≤ 8 * dt) → (do9 ≤ 4000) → (tpW bt 1 dt n (le - do9) pl fd rd = fi) → ∀ (ls : Array Slot) (H : Heap) (locs : List Loc), lv_has ls 7 [(0, .ref td), (1, .ref ba), (2, .ref (sa 7)), (3, .int (nI le)), (4, .int (nI do9))] → va_P D classes [(td, .inr (5, [.ref tq, .int (nI fd), .int (nI pl), .int (nI (8 * dt))])), (tq, .inl (cC, 64, .inl (fun j => nI (rd j)))), (ba, .inl (cI, 26, .inl (fun j => nI (bt j))))] H → va_D A [(td, .inr (5, [.ref tq, .int (nI fd), .int (nI pl), .int (nI (8 * dt))])), (tq, .inl (cC, 64, .inl (fun j => nI (rd j)))), (ba, .inl (cI, 26, .inl (fun j => nI (bt j))))] → va_S A s.heap H locs → W p l e R s m args below meth c H locs cells slots Q (F0 m 20 ls []) := by
  obtain ⟨hx, hb, hml, hown, hts⟩ := id S
  refine fuel_ind (fun n ih => ?_)
  intro do9 pl fd rd hln hi1 hi2 hi3 hcur ls H locs hl hP hD hS
  rcases Nat.lt_or_ge do9 le with hdl | hdl
  · skip
    refine lv_iload hx hb d_q_TextReader_takePart_20 (lv_at hl 4 rfl) ?_
    refine lv_iload_n hx hb d_q_TextReader_takePart_22 rfl (lv_at hl 3 rfl) ?_
    refine n_icmp_ge hx hb d_q_TextReader_takePart_23 (tgt := 92) rfl (by omega) (by omega) (fun g23 => absurd g23 (by omega)) (fun g23 => ?_)
    refine lv_aload_n hx hb d_q_TextReader_takePart_26 rfl (lv_at hl 2 rfl) ?_
    refine n_kgetN hx hb (kf_0_group hSt) hS hown hSt.2.1.2.1 d_q_TextReader_takePart_27 ?_
    refine lv_iload_n hx hb d_q_TextReader_takePart_30 rfl (lv_at hl 3 rfl) ?_
    refine lv_iload hx hb d_q_TextReader_takePart_31 (lv_at hl 4 rfl) ?_
    refine n_isub hx hb d_q_TextReader_takePart_33 (by omega) ?_
    refine q_pureS (n := 2) (As := [.int (nI 3), .int (nI (le - do9))]) (rest := []) S (c_j_Math_min l 3 (le - do9) (by decide) (by omega)) (q_goodS kw_688 kw_431 kw_19 kw_432) (by decide +kernel) rfl rfl ⟨Nat.le_trans (Nat.le_of_ble_eq_true rfl) hRf, Nat.le_trans (Nat.le_of_ble_eq_true rfl) hRl⟩ rfl hl.1 rfl (Nat.le_of_ble_eq_true rfl) d_q_TextReader_takePart_34 hRc hS (fun H locs hkp hS => ?_)
    replace hP := hP.kept (fun k q hq => hkp q.1 (hP k q hq).lt)
    refine lv_istore hx hb d_q_TextReader_takePart_37 hl (Nat.le_of_ble_eq_true rfl) rfl (fun ls hl => ?_)
    have hl : lv_has ls 7 [(5, .int (nI (min 3 (le - do9)))), (0, .ref td), (1, .ref ba), (2, .ref (sa 7)), (3, .int (nI le)), (4, .int (nI do9))] := hl
    have hx9 : 1 ≤ min 3 (le - do9) ∧ min 3 (le - do9) ≤ 3 := by omega
    have hz9 := gsz_le 1 (min 3 (le - do9))
    rcases Nat.lt_or_ge (8 * dt) (pl + gsz 1 (min 3 (le - do9))) with hrm | hrm
    · skip
      have hq := hcur.symm.trans (by obtain ⟨m9, rfl⟩ : ∃ m9, n = m9 + 1 := ⟨n - 1, by omega⟩; exact tpW_no (by omega) rfl rfl (by rw [show min (le - do9) (gmo 1) = min 3 (le - do9) from Nat.min_comm ..]; exact hrm))
      refine lv_aload_n hx hb d_q_TextReader_takePart_39 rfl (lv_at hl 1 rfl) ?_
      refine lv_aload_n hx hb d_q_TextReader_takePart_40 rfl (lv_at hl 2 rfl) ?_
      refine lv_aload_n hx hb d_q_TextReader_takePart_41 rfl (lv_at hl 3 rfl) ?_
      refine lv_iload hx hb d_q_TextReader_takePart_42 (lv_at hl 0 rfl) ?_
      refine q_readVr (n := 1) (As := [.int (nI (min 3 (le - do9)))]) (rest := [.ref ba, .ref td]) (wc := []) S (c_q_Kind_groupBits_0 l D cI cC sa (min 3 (le - do9)) (by omega) (by omega)) hSt hK hP (o_recv (ko_0 hSt) hS) [] rfl (q_goodV kw_689 kw_490 kw_491 kw_16 kw_492) (by decide +kernel) rfl rfl rfl ⟨Nat.le_trans (Nat.le_of_ble_eq_true rfl) hRf, Nat.le_trans (Nat.le_of_ble_eq_true rfl) hRl⟩ rfl hl.1 rfl (Nat.le_of_ble_eq_true rfl) d_q_TextReader_takePart_44 hRc hS (fun H locs hP hS => ?_)
      refine q_readVs (n := 2) (As := [.ref ba, .int (nI (gsz 1 (min 3 (le - do9))))]) (rest := []) (wc := [(td, .inr (5, [.ref tq, .int (nI fd), .int (nI pl), .int (nI (8 * dt))])), (ba, .inl (cI, 26, .inl (fun j => nI (bt j))))]) S (c_q_TextReader_take_no l D cI cC sa td tq fd pl (8 * dt) ba (gsz 1 (min 3 (le - do9))) bt (by omega) (by omega) (by omega) hrm) hSt hK hP (q0 := 0) rfl rfl [0, 2] rfl (q_goodV kw_676 kw_678 ks_17 kw_7 kw_679) (by decide +kernel) rfl rfl rfl ⟨Nat.le_trans (Nat.le_of_ble_eq_true rfl) hRf, Nat.le_trans (Nat.le_of_ble_eq_true rfl) hRl⟩ rfl hl.1 rfl (Nat.le_of_ble_eq_true rfl) d_q_TextReader_takePart_47 hRc hS (fun H locs hP hS => ?_)
      refine lv_istore hx hb d_q_TextReader_takePart_50 hl (Nat.le_of_ble_eq_true rfl) rfl (fun ls hl => ?_)
      have hl : lv_has ls 7 [(6, .int (-1)), (5, .int (nI (min 3 (le - do9)))), (0, .ref td), (1, .ref ba), (2, .ref (sa 7)), (3, .int (nI le)), (4, .int (nI do9))] := hl
      refine lv_iload hx hb d_q_TextReader_takePart_52 (lv_at hl 0 rfl) ?_
      refine lv_iconst (v := (-1)) hx hb d_q_TextReader_takePart_54 (by decide) ?_
      refine lv_icmp_eq hx hb d_q_TextReader_takePart_55 (tgt := 69) rfl (fun g55 => ?_) (fun g55 => absurd rfl g55)
      refine lv_iconst (v := nI 0) hx hb d_q_TextReader_takePart_69 (by decide) ?_
      rw [hq] at kr
      exact kr _ ls H locs d_q_TextReader_takePart_70 hP hD hS
    · skip
      refine lv_aload_n hx hb d_q_TextReader_takePart_39 rfl (lv_at hl 1 rfl) ?_
      refine lv_aload_n hx hb d_q_TextReader_takePart_40 rfl (lv_at hl 2 rfl) ?_
      refine lv_aload_n hx hb d_q_TextReader_takePart_41 rfl (lv_at hl 3 rfl) ?_
      refine lv_iload hx hb d_q_TextReader_takePart_42 (lv_at hl 0 rfl) ?_
      refine q_readVr (n := 1) (As := [.int (nI (min 3 (le - do9)))]) (rest := [.ref ba, .ref td]) (wc := []) S (c_q_Kind_groupBits_0 l D cI cC sa (min 3 (le - do9)) (by omega) (by omega)) hSt hK hP (o_recv (ko_0 hSt) hS) [] rfl (q_goodV kw_689 kw_490 kw_491 kw_16 kw_492) (by decide +kernel) rfl rfl rfl ⟨Nat.le_trans (Nat.le_of_ble_eq_true rfl) hRf, Nat.le_trans (Nat.le_of_ble_eq_true rfl) hRl⟩ rfl hl.1 rfl (Nat.le_of_ble_eq_true rfl) d_q_TextReader_takePart_44 hRc hS (fun H locs hP hS => ?_)
      refine q_writeVis (n := 2) (As := [.ref ba, .int (nI (gsz 1 (min 3 (le - do9))))]) (rest := []) (wc := [(td, .inr (5, [.ref tq, .int (nI fd), .int (nI pl), .int (nI (8 * dt))])), (ba, .inl (cI, 26, .inl (fun j => nI (bt j))))]) (wr := [(tq, .inl (cC, 64, .inl (fun j => nI (rd j))))]) (w1 := [(td, .inr (5, [.ref tq, .int (nI fd), .int (nI (pl + (gsz 1 (min 3 (le - do9))))), .int (nI (8 * dt))])), (ba, .inl (cI, 26, .inl (fun j => nI (bt j))))]) S (c_q_TextReader_take_ok l D cI cC sa td tq fd pl (8 * dt) ba (gsz 1 (min 3 (le - do9))) bt (by omega) (by omega) hrm hbt H.size) hSt hK hP hD hA (q0 := 0) rfl rfl [0, 2] [1] rfl rfl rfl rfl (by decide) rfl (q_goodV kw_676 kw_678 ks_17 kw_7 kw_679) (by decide +kernel) rfl rfl rfl ⟨Nat.le_trans (Nat.le_of_ble_eq_true rfl) hRf, Nat.le_trans (Nat.le_of_ble_eq_true rfl) hRl⟩ rfl hl.1 rfl (Nat.le_of_ble_eq_true rfl) d_q_TextReader_takePart_47 hRc hS (fun H locs hP hD hS => ?_)
      replace hP : va_P D classes [(td, .inr (5, [.ref tq, .int (nI fd), .int (nI (pl + (gsz 1 (min 3 (le - do9))))), .int (nI (8 * dt))])), (tq, .inl (cC, 64, .inl (fun j => nI (rd j)))), (ba, .inl (cI, 26, .inl (fun j => nI (bt j))))] H := hP.sub [1, 0, 2] rfl
      replace hD : va_D A [(td, .inr (5, [.ref tq, .int (nI fd), .int (nI (pl + (gsz 1 (min 3 (le - do9))))), .int (nI (8 * dt))])), (tq, .inl (cC, 64, .inl (fun j => nI (rd j)))), (ba, .inl (cI, 26, .inl (fun j => nI (bt j))))] := hD.sub [1, 0, 2] rfl rfl
      refine lv_istore hx hb d_q_TextReader_takePart_50 hl (Nat.le_of_ble_eq_true rfl) rfl (fun ls hl => ?_)
      have hl : lv_has ls 7 [(6, .int (nI (nxL bt pl (gsz 1 (min 3 (le - do9)))))), (5, .int (nI (min 3 (le - do9)))), (0, .ref td), (1, .ref ba), (2, .ref (sa 7)), (3, .int (nI le)), (4, .int (nI do9))] := hl
      have hv9 := nxL_lt hbt pl (gsz 1 (min 3 (le - do9)))
      have hp9 : 2 ^ gsz 1 (min 3 (le - do9)) ≤ 2 ^ 11 := Nat.pow_le_pow_right (by decide) hz9
      have hb9 : 10 ^ (min 3 (le - do9)) ≤ 10 ^ 3 := Nat.pow_le_pow_right (by decide) hx9.2
      rcases Nat.lt_or_ge (nxL bt pl (gsz 1 (min 3 (le - do9)))) (10 ^ (min 3 (le - do9))) with hlm | hlm
      · skip
        refine lv_iload hx hb d_q_TextReader_takePart_52 (lv_at hl 0 rfl) ?_
        refine lv_iconst (v := (-1)) hx hb d_q_TextReader_takePart_54 (by decide) ?_
        refine lv_icmp_eq hx hb d_q_TextReader_takePart_55 (tgt := 69) rfl (fun g55 => absurd g55 (nI_ne1 (by omega))) (fun g55 => ?_)
        refine lv_iload hx hb d_q_TextReader_takePart_58 (lv_at hl 0 rfl) ?_
        refine lv_aload_n hx hb d_q_TextReader_takePart_60 rfl (lv_at hl 4 rfl) ?_
        refine lv_iload hx hb d_q_TextReader_takePart_61 (lv_at hl 1 rfl) ?_
        refine q_readVr (n := 1) (As := [.int (nI (min 3 (le - do9)))]) (rest := [.int (nI (nxL bt pl (gsz 1 (min 3 (le - do9)))))]) (wc := []) S (c_q_Kind_groupLimit_0 l D cI cC sa (min 3 (le - do9)) (by omega)) hSt hK hP (o_recv (ko_0 hSt) hS) [] rfl (q_goodV kw_690 kw_691 kw_692 kw_16 kw_693) (by decide +kernel) rfl rfl rfl ⟨Nat.le_trans (Nat.le_of_ble_eq_true rfl) hRf, Nat.le_trans (Nat.le_of_ble_eq_true rfl) hRl⟩ rfl hl.1 rfl (Nat.le_of_ble_eq_true rfl) d_q_TextReader_takePart_63 hRc hS (fun H locs hP hS => ?_)
        refine n_icmp_lt hx hb d_q_TextReader_takePart_66 (tgt := 71) rfl (by omega) (by omega) (fun g66 => ?_) (fun g66 => absurd g66 (by omega))
        refine lv_aload_n hx hb d_q_TextReader_takePart_71 rfl (lv_at hl 2 rfl) ?_
        refine lv_aload_n hx hb d_q_TextReader_takePart_72 rfl (lv_at hl 4 rfl) ?_
        refine lv_iload hx hb d_q_TextReader_takePart_73 (lv_at hl 0 rfl) ?_
        refine lv_iload hx hb d_q_TextReader_takePart_75 (lv_at hl 1 rfl) ?_
        refine q_writeVvs (n := 3) (As := [.ref (sa 7), .int (nI (nxL bt pl (gsz 1 (min 3 (le - do9))))), .int (nI (min 3 (le - do9)))]) (rest := []) (wc := [(td, .inr (5, [.ref tq, .int (nI fd), .int (nI (pl + (gsz 1 (min 3 (le - do9))))), .int (nI (8 * dt))])), (tq, .inl (cC, 64, .inl (fun j => nI (rd j))))]) (wr := [(ba, .inl (cI, 26, .inl (fun j => nI (bt j))))]) (w1 := [(td, .inr (5, [.ref tq, .int (nI (fd + (min 3 (le - do9)))), .int (nI (pl + (gsz 1 (min 3 (le - do9))))), .int (nI (8 * dt))])), (tq, .inl (cC, 64, .inl (fun j => nI ((gpR rd fd (min 3 (le - do9)) 10 (nxL bt pl (gsz 1 (min 3 (le - do9)))) (min 3 (le - do9))) j))))]) S (c_q_TextReader_keep_0 l D cI cC sa td tq fd (pl + (gsz 1 (min 3 (le - do9)))) (8 * dt) (nxL bt pl (gsz 1 (min 3 (le - do9)))) (min 3 (le - do9)) rd (by omega) (by omega) (by omega) (by omega) H.size) hSt hK hP hD hA (q0 := 0) rfl rfl [0, 1] [2] rfl rfl rfl rfl (by decide) rfl (q_goodV kw_694 kw_696 ks_19 kw_7 kw_697) (by decide +kernel) rfl rfl rfl ⟨Nat.le_trans (Nat.le_of_ble_eq_true rfl) hRf, Nat.le_trans (Nat.le_of_ble_eq_true rfl) hRl⟩ rfl hl.1 rfl (Nat.le_of_ble_eq_true rfl) d_q_TextReader_takePart_77 hRc hS (fun H locs hP hD hS => ?_)
        replace hP : va_P D classes [(td, .inr (5, [.ref tq, .int (nI (fd + (min 3 (le - do9)))), .int (nI (pl + (gsz 1 (min 3 (le - do9))))), .int (nI (8 * dt))])), (tq, .inl (cC, 64, .inl (fun j => nI ((gpR rd fd (min 3 (le - do9)) 10 (nxL bt pl (gsz 1 (min 3 (le - do9)))) (min 3 (le - do9))) j)))), (ba, .inl (cI, 26, .inl (fun j => nI (bt j))))] H := hP.sub [1, 2, 0] rfl
        replace hD : va_D A [(td, .inr (5, [.ref tq, .int (nI (fd + (min 3 (le - do9)))), .int (nI (pl + (gsz 1 (min 3 (le - do9))))), .int (nI (8 * dt))])), (tq, .inl (cC, 64, .inl (fun j => nI ((gpR rd fd (min 3 (le - do9)) 10 (nxL bt pl (gsz 1 (min 3 (le - do9)))) (min 3 (le - do9))) j)))), (ba, .inl (cI, 26, .inl (fun j => nI (bt j))))] := hD.sub [1, 2, 0] rfl rfl
        refine lv_iload hx hb d_q_TextReader_takePart_80 (lv_at hl 6 rfl) ?_
        refine lv_aload_n hx hb d_q_TextReader_takePart_82 rfl (lv_at hl 4 rfl) ?_
        refine n_kgetN hx hb (kf_0_group hSt) hS hown hSt.2.1.2.1 d_q_TextReader_takePart_83 ?_
        refine n_iadd hx hb d_q_TextReader_takePart_86 ?_
        refine lv_istore hx hb d_q_TextReader_takePart_87 hl (Nat.le_of_ble_eq_true rfl) rfl (fun ls hl => ?_)
        have hl : lv_has ls 7 [(4, .int (nI (do9 + 3))), (6, .int (nI (nxL bt pl (gsz 1 (min 3 (le - do9)))))), (5, .int (nI (min 3 (le - do9)))), (0, .ref td), (1, .ref ba), (2, .ref (sa 7)), (3, .int (nI le))] := hl
        refine lv_goto hx hb d_q_TextReader_takePart_89 (tgt := 20) rfl ?_
        obtain ⟨m9, rfl⟩ : ∃ m9, n = m9 + 1 := ⟨n - 1, by omega⟩
        have hi9 : 10 * (min 3 (le - do9)) ≤ 3 * gsz 1 (min 3 (le - do9)) := gs_in1 hx9.1 hx9.2
        have hcur2 := (tpW_s (x := min 3 (le - do9)) (by omega) (Nat.min_comm ..) rfl hrm hlm).symm.trans hcur
        exact ih _ rfl (do9 + 3) (pl + (gsz 1 (min 3 (le - do9)))) (fd + (min 3 (le - do9))) (gpR rd fd (min 3 (le - do9)) 10 (nxL bt pl (gsz 1 (min 3 (le - do9)))) (min 3 (le - do9))) (by omega) (by omega) (by omega) (by omega) (by rw [show le - (do9 + 3) = le - do9 - (min 3 (le - do9)) by omega]; exact hcur2) ls H locs (lv_sub hl [3, 4, 5, 6, 0] rfl) hP hD hS
      · skip
        have hq := hcur.symm.trans (by obtain ⟨m9, rfl⟩ : ∃ m9, n = m9 + 1 := ⟨n - 1, by omega⟩; exact tpW_bad (x := min 3 (le - do9)) (by omega) (Nat.min_comm ..) rfl hrm hlm)
        refine lv_iload hx hb d_q_TextReader_takePart_52 (lv_at hl 0 rfl) ?_
        refine lv_iconst (v := (-1)) hx hb d_q_TextReader_takePart_54 (by decide) ?_
        refine lv_icmp_eq hx hb d_q_TextReader_takePart_55 (tgt := 69) rfl (fun g55 => absurd g55 (nI_ne1 (by omega))) (fun g55 => ?_)
        refine lv_iload hx hb d_q_TextReader_takePart_58 (lv_at hl 0 rfl) ?_
        refine lv_aload_n hx hb d_q_TextReader_takePart_60 rfl (lv_at hl 4 rfl) ?_
        refine lv_iload hx hb d_q_TextReader_takePart_61 (lv_at hl 1 rfl) ?_
        refine q_readVr (n := 1) (As := [.int (nI (min 3 (le - do9)))]) (rest := [.int (nI (nxL bt pl (gsz 1 (min 3 (le - do9)))))]) (wc := []) S (c_q_Kind_groupLimit_0 l D cI cC sa (min 3 (le - do9)) (by omega)) hSt hK hP (o_recv (ko_0 hSt) hS) [] rfl (q_goodV kw_690 kw_691 kw_692 kw_16 kw_693) (by decide +kernel) rfl rfl rfl ⟨Nat.le_trans (Nat.le_of_ble_eq_true rfl) hRf, Nat.le_trans (Nat.le_of_ble_eq_true rfl) hRl⟩ rfl hl.1 rfl (Nat.le_of_ble_eq_true rfl) d_q_TextReader_takePart_63 hRc hS (fun H locs hP hS => ?_)
        refine n_icmp_lt hx hb d_q_TextReader_takePart_66 (tgt := 71) rfl (by omega) (by omega) (fun g66 => absurd g66 (by omega)) (fun g66 => ?_)
        refine lv_iconst (v := nI 0) hx hb d_q_TextReader_takePart_69 (by decide) ?_
        rw [hq] at kr
        exact kr _ ls H locs d_q_TextReader_takePart_70 hP hD hS
  · skip
    have hq := hcur.symm.trans (tpW_z (by omega))
    refine lv_iload hx hb d_q_TextReader_takePart_20 (lv_at hl 4 rfl) ?_
    refine lv_iload_n hx hb d_q_TextReader_takePart_22 rfl (lv_at hl 3 rfl) ?_
    refine n_icmp_ge hx hb d_q_TextReader_takePart_23 (tgt := 92) rfl (by omega) (by omega) (fun g23 => ?_) (fun g23 => absurd g23 (by omega))
    refine lv_iconst (v := nI 1) hx hb d_q_TextReader_takePart_92 (by decide) ?_
    rw [hq] at kr
    exact kr _ ls H locs d_q_TextReader_takePart_93 hP hD hS
set_option maxHeartbeats 1000000 in
set_option maxRecDepth 100000 in
theorem bd_q_TextReader_takePart_0_ok (cI cC : ClassId) (sa : Nat → Nat) (td tq ct nx ba dt : Nat) (ch bt : Nat → Nat) (fi : Nat × Nat × Nat × (Nat → Nat)) (hdt : dt ≤ 19) (hbt : lt256 26 bt) (hyes : nx + 10 ≤ 8 * dt) (hinv : 10 * ct ≤ 3 * nx) (hfi : tpW bt 1 dt (nxL bt nx 10) (nxL bt nx 10) (nx + 10) ct ch = fi) (S : CallFix p m c b_q_TextReader_takePart 7 s args (cd_q_TextReader_takePart :: WS) R_TextReader) (hRf : 6 ≤ R.frames) (hRl : 131 ≤ R.locals) (hRc : cells ≤ R.cells ∧ slots ≤ R.slots) (hK : va_K D classes [(cI, .int), (cC, .char)] s) (hA : ∀ q, s.heap.size ≤ q → A q) (hSt : SB sa A s s.heap) (kr : ∀ (pc : Nat) (ls : Array Slot) (H : Heap) (locs : List Loc), decode b_q_TextReader_takePart pc = .ok (.ireturn, 1) → va_P D classes [(td, .inr (5, [.ref tq, .int (nI fi.2.2.1), .int (nI fi.2.1), .int (nI (8 * dt))])), (tq, .inl (cC, 64, .inl (fun j => nI (fi.2.2.2 j)))), (ba, .inl (cI, 26, .inl (fun j => nI (bt j))))] H → va_D A [(td, .inr (5, [.ref tq, .int (nI fi.2.2.1), .int (nI fi.2.1), .int (nI (8 * dt))])), (tq, .inl (cC, 64, .inl (fun j => nI (fi.2.2.2 j)))), (ba, .inl (cI, 26, .inl (fun j => nI (bt j))))] → va_S A s.heap H locs → W p l e R s m args below meth c H locs cells slots Q (F0 m pc ls [.int (nI fi.1)])) : ∀ (ls : Array Slot) (H : Heap) (locs : List Loc), lv_has ls 7 [(0, .ref td), (1, .ref ba), (2, .ref (sa 7))] → va_P D classes [(td, .inr (5, [.ref tq, .int (nI ct), .int (nI nx), .int (nI (8 * dt))])), (tq, .inl (cC, 64, .inl (fun j => nI (ch j)))), (ba, .inl (cI, 26, .inl (fun j => nI (bt j))))] H → va_D A [(td, .inr (5, [.ref tq, .int (nI ct), .int (nI nx), .int (nI (8 * dt))])), (tq, .inl (cC, 64, .inl (fun j => nI (ch j)))), (ba, .inl (cI, 26, .inl (fun j => nI (bt j))))] → va_S A s.heap H locs → W p l e R s m args below meth c H locs cells slots Q (F0 m 0 ls []) := by
  obtain ⟨hx, hb, hml, hown, hts⟩ := id S
  intro ls H locs hl hP hD hS
  have hlf : (nxL bt nx 10) < 2048 := Nat.lt_of_lt_of_le (nxL_lt hbt nx 10) (by decide)
  refine lv_aload_n hx hb d_q_TextReader_takePart_0 rfl (lv_at hl 0 rfl) ?_
  refine lv_aload_n hx hb d_q_TextReader_takePart_1 rfl (lv_at hl 1 rfl) ?_
  refine lv_aload_n hx hb d_q_TextReader_takePart_2 rfl (lv_at hl 2 rfl) ?_
  refine n_kgetN hx hb (kf_0_countBits hSt) hS hown hSt.2.1.1 d_q_TextReader_takePart_3 ?_
  refine q_writeVis (n := 2) (As := [.ref ba, .int (nI 10)]) (rest := []) (wc := [(td, .inr (5, [.ref tq, .int (nI ct), .int (nI nx), .int (nI (8 * dt))])), (ba, .inl (cI, 26, .inl (fun j => nI (bt j))))]) (wr := [(tq, .inl (cC, 64, .inl (fun j => nI (ch j))))]) (w1 := [(td, .inr (5, [.ref tq, .int (nI ct), .int (nI (nx + 10)), .int (nI (8 * dt))])), (ba, .inl (cI, 26, .inl (fun j => nI (bt j))))]) S (c_q_TextReader_take_ok l D cI cC sa td tq ct nx (8 * dt) ba 10 bt (by omega) (by decide) hyes hbt H.size) hSt hK hP hD hA (q0 := 0) rfl rfl [0, 2] [1] rfl rfl rfl rfl (by decide) rfl (q_goodV kw_676 kw_678 ks_17 kw_7 kw_679) (by decide +kernel) rfl rfl rfl ⟨Nat.le_trans (Nat.le_of_ble_eq_true rfl) hRf, Nat.le_trans (Nat.le_of_ble_eq_true rfl) hRl⟩ rfl hl.1 rfl (Nat.le_of_ble_eq_true rfl) d_q_TextReader_takePart_6 hRc hS (fun H locs hP hD hS => ?_)
  replace hP : va_P D classes [(td, .inr (5, [.ref tq, .int (nI ct), .int (nI (nx + 10)), .int (nI (8 * dt))])), (tq, .inl (cC, 64, .inl (fun j => nI (ch j)))), (ba, .inl (cI, 26, .inl (fun j => nI (bt j))))] H := hP.sub [1, 0, 2] rfl
  replace hD : va_D A [(td, .inr (5, [.ref tq, .int (nI ct), .int (nI (nx + 10)), .int (nI (8 * dt))])), (tq, .inl (cC, 64, .inl (fun j => nI (ch j)))), (ba, .inl (cI, 26, .inl (fun j => nI (bt j))))] := hD.sub [1, 0, 2] rfl rfl
  refine lv_istore_n hx hb d_q_TextReader_takePart_9 rfl hl (Nat.le_of_ble_eq_true rfl) rfl (fun ls hl => ?_)
  have hl : lv_has ls 7 [(3, .int (nI (nxL bt nx 10))), (0, .ref td), (1, .ref ba), (2, .ref (sa 7))] := hl
  refine lv_iload_n hx hb d_q_TextReader_takePart_10 rfl (lv_at hl 0 rfl) ?_
  refine lv_iconst (v := (-1)) hx hb d_q_TextReader_takePart_11 (by decide) ?_
  refine lv_icmp_ne hx hb d_q_TextReader_takePart_12 (tgt := 17) rfl (fun g12 => ?_) (fun g12 => absurd g12 (nI_ne1 (by omega)))
  refine lv_iconst (v := nI 0) hx hb d_q_TextReader_takePart_17 (by decide) ?_
  refine lv_istore hx hb d_q_TextReader_takePart_18 hl (Nat.le_of_ble_eq_true rfl) rfl (fun ls hl => ?_)
  have hl : lv_has ls 7 [(4, .int (nI 0)), (3, .int (nI (nxL bt nx 10))), (0, .ref td), (1, .ref ba), (2, .ref (sa 7))] := hl
  exact lw_q_TextReader_takePart_0_ok_20 cI cC sa td tq ct nx ba dt ch bt fi hdt hbt hyes hinv hfi S hRf hRl hRc hK hA hSt (nxL bt nx 10) hlf  kr (nxL bt nx 10) 0 (nx + 10) ct ch (by omega) (by omega) (by omega) (by omega) hfi ls H locs (lv_sub hl [2, 3, 4, 1, 0] rfl) hP hD hS
set_option maxHeartbeats 1000000 in
set_option maxRecDepth 100000 in
theorem c_q_TextReader_takePart_0_ok (l : Launch) (D : va_G) (cI cC : ClassId) (sa : Nat → Nat) (td tq ct nx ba dt : Nat) (ch bt : Nat → Nat) (fi : Nat × Nat × Nat × (Nat → Nat)) (hdt : dt ≤ 19) (hbt : lt256 26 bt) (hyes : nx + 10 ≤ 8 * dt) (hinv : 10 * ct ≤ 3 * nx) (hfi : tpW bt 1 dt (nxL bt nx 10) (nxL bt nx 10) (nx + 10) ct ch = fi) (sz : Nat) : Met l y_q_TextReader_takePart (cd_q_TextReader_takePart :: WS) { frames := 6, cells := 0, slots := 0, locals := 131 } (va_Pc [.ref td, .ref ba, .ref (sa 7)] (swP sa D [(td, .inr (5, [.ref tq, .int (nI ct), .int (nI nx), .int (nI (8 * dt))])), (tq, .inl (cC, 64, .inl (fun j => nI (ch j)))), (ba, .inl (cI, 26, .inl (fun j => nI (bt j))))] [(cI, .int), (cC, .char)] sz)) (wQi D (nI fi.1) [(td, .inr (5, [.ref tq, .int (nI ct), .int (nI nx), .int (nI (8 * dt))])), (tq, .inl (cC, 64, .inl (fun j => nI (ch j)))), (ba, .inl (cI, 26, .inl (fun j => nI (bt j))))] [(td, .inr (5, [.ref tq, .int (nI fi.2.2.1), .int (nI fi.2.1), .int (nI (8 * dt))])), (tq, .inl (cC, 64, .inl (fun j => nI (fi.2.2.2 j)))), (ba, .inl (cI, 26, .inl (fun j => nI (bt j))))] sz) 0 0 (va_A [(td, .inr (5, [.ref tq, .int (nI ct), .int (nI nx), .int (nI (8 * dt))])), (tq, .inl (cC, 64, .inl (fun j => nI (ch j)))), (ba, .inl (cI, 26, .inl (fun j => nI (bt j))))] sz) := by
  refine Met.ofW (cc := b_q_TextReader_takePart) (maxL := 7) (ret := (some .boolean)) (by decide) rfl ?_
  intro p e s m args below meth c s₁ B hml hv0
  obtain ⟨rfl, ⟨hP, hK, hD0, hsz⟩, hSt⟩ := hv0
  have hts := atoms_spec (ws := cd_q_TextReader_takePart :: WS) B.pre
  have hown : s.vm.findClass R_TextReader = some m.cls := findClass_of_methodNamed B.named
  have hlocks := B.notSynchronized
  subst hsz
  have hD := hD0.self (sz := s.heap.size)
  have hl := lv_entry ([.ref td, .ref ba, .ref (sa 7)]) (n := 7) (Nat.le_of_ble_eq_true rfl)
  rw [lg_entry_eq]
  generalize (lg_sl ([.ref td, .ref ba, .ref (sa 7)]) ++ List.replicate (7 - (lg_sl ([.ref td, .ref ba, .ref (sa 7)])).length) Slot.unset).toArray = ls at hl ⊢
  refine bd_q_TextReader_takePart_0_ok cI cC sa td tq ct nx ba dt ch bt fi hdt hbt hyes hinv hfi ⟨B.exec, B.bytes, hml, hown, hts⟩ (Nat.le_refl _) (Nat.le_refl _) ⟨Nat.le_refl _, Nat.le_refl _⟩ hK (fun q h => Or.inr h) hSt (fun pc ls H locs hd hP hD hS => ?_) ls _ _ hl hP hD (va_S.rf)
  exact W.zret B.exec B.bytes B.returns (by rw [← hfi]; exact le1_fit (tpW_le _ _ _ _ _ _ _ _)) (fun t ht _ => ⟨⟨_, (), rfl, rfl, (by have h9 := hP; rw [← ht] at h9; exact h9)⟩, hS.F ht⟩) hS.2.2 hd
end
section
variable {p : Program} {l : Launch} {e : Env} {R : Room} {s : State} {m : MethodId} {args : Array Value} {below : List Frame} {meth : Method} {c : Code} {cells slots : Nat} {Q : State → Prop} {A : Nat → Prop} {H0 : Heap} {D : va_G}
set_option maxHeartbeats 1000000 in
set_option maxRecDepth 100000 in
theorem bd_q_TextReader_takePart_1_no (cI cC : ClassId) (sa : Nat → Nat) (td tq ct nx ba dt : Nat) (ch bt : Nat → Nat) (hdt : dt ≤ 19) (hnx : nx ≤ 8 * dt) (hno : 8 * dt < nx + 9) (S : CallFix p m c b_q_TextReader_takePart 7 s args (cd_q_TextReader_takePart :: WS) R_TextReader) (hRf : 6 ≤ R.frames) (hRl : 131 ≤ R.locals) (hRc : cells ≤ R.cells ∧ slots ≤ R.slots) (hK : va_K D classes [(cI, .int), (cC, .char)] s) (hSt : SB sa A s s.heap) (kr : ∀ (pc : Nat) (ls : Array Slot) (H : Heap) (locs : List Loc), decode b_q_TextReader_takePart pc = .ok (.ireturn, 1) → va_P D classes [(td, .inr (5, [.ref tq, .int (nI ct), .int (nI nx), .int (nI (8 * dt))])), (tq, .inl (cC, 64, .inl (fun j => nI (ch j)))), (ba, .inl (cI, 26, .inl (fun j => nI (bt j))))] H → va_S A s.heap H locs → W p l e R s m args below meth c H locs cells slots Q (F0 m pc ls [.int (nI 0)])) : ∀ (ls : Array Slot) (H : Heap) (locs : List Loc), lv_has ls 7 [(0, .ref td), (1, .ref ba), (2, .ref (sa 8))] → va_P D classes [(td, .inr (5, [.ref tq, .int (nI ct), .int (nI nx), .int (nI (8 * dt))])), (tq, .inl (cC, 64, .inl (fun j => nI (ch j)))), (ba, .inl (cI, 26, .inl (fun j => nI (bt j))))] H → va_S A s.heap H locs → W p l e R s m args below meth c H locs cells slots Q (F0 m 0 ls []) := by
  obtain ⟨hx, hb, hml, hown, hts⟩ := id S
  intro ls H locs hl hP hS
  refine lv_aload_n hx hb d_q_TextReader_takePart_0 rfl (lv_at hl 0 rfl) ?_
  refine lv_aload_n hx hb d_q_TextReader_takePart_1 rfl (lv_at hl 1 rfl) ?_
  refine lv_aload_n hx hb d_q_TextReader_takePart_2 rfl (lv_at hl 2 rfl) ?_
  refine n_kgetN hx hb (kf_1_countBits hSt) hS hown hSt.2.1.1 d_q_TextReader_takePart_3 ?_
  refine q_readVs (n := 2) (As := [.ref ba, .int (nI 9)]) (rest := []) (wc := [(td, .inr (5, [.ref tq, .int (nI ct), .int (nI nx), .int (nI (8 * dt))])), (ba, .inl (cI, 26, .inl (fun j => nI (bt j))))]) S (c_q_TextReader_take_no l D cI cC sa td tq ct nx (8 * dt) ba 9 bt hnx (by omega) (by decide) hno) hSt hK hP (q0 := 0) rfl rfl [0, 2] rfl (q_goodV kw_676 kw_678 ks_17 kw_7 kw_679) (by decide +kernel) rfl rfl rfl ⟨Nat.le_trans (Nat.le_of_ble_eq_true rfl) hRf, Nat.le_trans (Nat.le_of_ble_eq_true rfl) hRl⟩ rfl hl.1 rfl (Nat.le_of_ble_eq_true rfl) d_q_TextReader_takePart_6 hRc hS (fun H locs hP hS => ?_)
  refine lv_istore_n hx hb d_q_TextReader_takePart_9 rfl hl (Nat.le_of_ble_eq_true rfl) rfl (fun ls hl => ?_)
  have hl : lv_has ls 7 [(3, .int (-1)), (0, .ref td), (1, .ref ba), (2, .ref (sa 8))] := hl
  refine lv_iload_n hx hb d_q_TextReader_takePart_10 rfl (lv_at hl 0 rfl) ?_
  refine lv_iconst (v := (-1)) hx hb d_q_TextReader_takePart_11 (by decide) ?_
  refine lv_icmp_ne hx hb d_q_TextReader_takePart_12 (tgt := 17) rfl (fun g12 => absurd g12 (fun z => z rfl)) (fun g12 => ?_)
  refine lv_iconst (v := nI 0) hx hb d_q_TextReader_takePart_15 (by decide) ?_
  exact kr _ ls H locs d_q_TextReader_takePart_16 hP hS
set_option maxHeartbeats 1000000 in
set_option maxRecDepth 100000 in
theorem c_q_TextReader_takePart_1_no (l : Launch) (D : va_G) (cI cC : ClassId) (sa : Nat → Nat) (td tq ct nx ba dt : Nat) (ch bt : Nat → Nat) (hdt : dt ≤ 19) (hnx : nx ≤ 8 * dt) (hno : 8 * dt < nx + 9) : Met l y_q_TextReader_takePart (cd_q_TextReader_takePart :: WS) { frames := 6, cells := 0, slots := 0, locals := 131 } (va_Pc [.ref td, .ref ba, .ref (sa 8)] (srP sa D [(td, .inr (5, [.ref tq, .int (nI ct), .int (nI nx), .int (nI (8 * dt))])), (tq, .inl (cC, 64, .inl (fun j => nI (ch j)))), (ba, .inl (cI, 26, .inl (fun j => nI (bt j))))] [(cI, .int), (cC, .char)])) (pQ (nI 0)) 0 0 noA := by
  refine Met.ofW (cc := b_q_TextReader_takePart) (maxL := 7) (ret := (some .boolean)) (by decide) rfl ?_
  intro p e s m args below meth c s₁ B hml hv0
  obtain ⟨rfl, ⟨hP, hK⟩, hSt⟩ := hv0
  have hts := atoms_spec (ws := cd_q_TextReader_takePart :: WS) B.pre
  have hown : s.vm.findClass R_TextReader = some m.cls := findClass_of_methodNamed B.named
  have hlocks := B.notSynchronized
  have hl := lv_entry ([.ref td, .ref ba, .ref (sa 8)]) (n := 7) (Nat.le_of_ble_eq_true rfl)
  rw [lg_entry_eq]
  generalize (lg_sl ([.ref td, .ref ba, .ref (sa 8)]) ++ List.replicate (7 - (lg_sl ([.ref td, .ref ba, .ref (sa 8)])).length) Slot.unset).toArray = ls at hl ⊢
  refine bd_q_TextReader_takePart_1_no cI cC sa td tq ct nx ba dt ch bt hdt hnx hno ⟨B.exec, B.bytes, hml, hown, hts⟩ (Nat.le_refl _) (Nat.le_refl _) ⟨Nat.le_refl _, Nat.le_refl _⟩ hK hSt (fun pc ls H locs hd hP hS => ?_) ls _ _ hl hP (va_S.rf (A := noA))
  exact W.zret B.exec B.bytes B.returns rfl (fun t ht _ => ⟨⟨_, (), rfl, rfl, trivial⟩, hS.F ht⟩) hS.2.2 hd
end
section
variable {p : Program} {l : Launch} {e : Env} {R : Room} {s : State} {m : MethodId} {args : Array Value} {below : List Frame} {meth : Method} {c : Code} {cells slots : Nat} {Q : State → Prop} {A : Nat → Prop} {H0 : Heap} {D : va_G}
set_option maxHeartbeats 1000000 in
set_option maxRecDepth 100000 in
theorem lw_q_TextReader_takePart_1_ok_20 (cI cC : ClassId) (sa : Nat → Nat) (td tq ct nx ba dt : Nat) (ch bt : Nat → Nat) (fi : Nat × Nat × Nat × (Nat → Nat)) (hdt : dt ≤ 19) (hbt : lt256 26 bt) (hyes : nx + 9 ≤ 8 * dt) (hinv : 10 * ct ≤ 3 * nx) (hfi : tpW bt 2 dt (nxL bt nx 9) (nxL bt nx 9) (nx + 9) ct ch = fi) (S : CallFix p m c b_q_TextReader_takePart 7 s args (cd_q_TextReader_takePart :: WS) R_TextReader) (hRf : 6 ≤ R.frames) (hRl : 131 ≤ R.locals) (hRc : cells ≤ R.cells ∧ slots ≤ R.slots) (hK : va_K D classes [(cI, .int), (cC, .char)] s) (hA : ∀ q, s.heap.size ≤ q → A q) (hSt : SB sa A s s.heap) (le : Nat) (hle : le < 2048) (kr : ∀ (pc : Nat) (ls : Array Slot) (H : Heap) (locs : List Loc), decode b_q_TextReader_takePart pc = .ok (.ireturn, 1) → va_P D classes [(td, .inr (5, [.ref tq, .int (nI fi.2.2.1), .int (nI fi.2.1), .int (nI (8 * dt))])), (tq, .inl (cC, 64, .inl (fun j => nI (fi.2.2.2 j)))), (ba, .inl (cI, 26, .inl (fun j => nI (bt j))))] H → va_D A [(td, .inr (5, [.ref tq, .int (nI fi.2.2.1), .int (nI fi.2.1), .int (nI (8 * dt))])), (tq, .inl (cC, 64, .inl (fun j => nI (fi.2.2.2 j)))), (ba, .inl (cI, 26, .inl (fun j => nI (bt j))))] → va_S A s.heap H locs → W p l e R s m args below meth c H locs cells slots Q (F0 m pc ls [.int (nI fi.1)])) :
    ∀ (n : Nat) (do9 : Nat) (pl : Nat) (fd : Nat) (rd : Nat → Nat), (le - do9 ≤ n) → (10 * fd ≤ 3 * pl) → (pl ≤ 8 * dt) → (do9 ≤ 4000) → (tpW bt 2 dt n (le - do9) pl fd rd = fi) → ∀ (ls : Array Slot) (H : Heap) (locs : List Loc), lv_has ls 7 [(0, .ref td), (1, .ref ba), (2, .ref (sa 8)), (3, .int (nI le)), (4, .int (nI do9))] → va_P D classes [(td, .inr (5, [.ref tq, .int (nI fd), .int (nI pl), .int (nI (8 * dt))])), (tq, .inl (cC, 64, .inl (fun j => nI (rd j)))), (ba, .inl (cI, 26, .inl (fun j => nI (bt j))))] H → va_D A [(td, .inr (5, [.ref tq, .int (nI fd), .int (nI pl), .int (nI (8 * dt))])), (tq, .inl (cC, 64, .inl (fun j => nI (rd j)))), (ba, .inl (cI, 26, .inl (fun j => nI (bt j))))] → va_S A s.heap H locs → W p l e R s m args below meth c H locs cells slots Q (F0 m 20 ls []) := by
  obtain ⟨hx, hb, hml, hown, hts⟩ := id S
  refine fuel_ind (fun n ih => ?_)
  intro do9 pl fd rd hln hi1 hi2 hi3 hcur ls H locs hl hP hD hS
  rcases Nat.lt_or_ge do9 le with hdl | hdl
  · skip
    refine lv_iload hx hb d_q_TextReader_takePart_20 (lv_at hl 4 rfl) ?_
    refine lv_iload_n hx hb d_q_TextReader_takePart_22 rfl (lv_at hl 3 rfl) ?_
    refine n_icmp_ge hx hb d_q_TextReader_takePart_23 (tgt := 92) rfl (by omega) (by omega) (fun g23 => absurd g23 (by omega)) (fun g23 => ?_)
    refine lv_aload_n hx hb d_q_TextReader_takePart_26 rfl (lv_at hl 2 rfl) ?_
    refine n_kgetN hx hb (kf_1_group hSt) hS hown hSt.2.1.2.1 d_q_TextReader_takePart_27 ?_
    refine lv_iload_n hx hb d_q_TextReader_takePart_30 rfl (lv_at hl 3 rfl) ?_
    refine lv_iload hx hb d_q_TextReader_takePart_31 (lv_at hl 4 rfl) ?_
    refine n_isub hx hb d_q_TextReader_takePart_33 (by omega) ?_
    refine q_pureS (n := 2) (As := [.int (nI 2), .int (nI (le - do9))]) (rest := []) S (c_j_Math_min l 2 (le - do9) (by decide) (by omega)) (q_goodS kw_688 kw_431 kw_19 kw_432) (by decide +kernel) rfl rfl ⟨Nat.le_trans (Nat.le_of_ble_eq_true rfl) hRf, Nat.le_trans (Nat.le_of_ble_eq_true rfl) hRl⟩ rfl hl.1 rfl (Nat.le_of_ble_eq_true rfl) d_q_TextReader_takePart_34 hRc hS (fun H locs hkp hS => ?_)
    replace hP := hP.kept (fun k q hq => hkp q.1 (hP k q hq).lt)
    refine lv_istore hx hb d_q_TextReader_takePart_37 hl (Nat.le_of_ble_eq_true rfl) rfl (fun ls hl => ?_)
    have hl : lv_has ls 7 [(5, .int (nI (min 2 (le - do9)))), (0, .ref td), (1, .ref ba), (2, .ref (sa 8)), (3, .int (nI le)), (4, .int (nI do9))] := hl
    have hx9 : 1 ≤ min 2 (le - do9) ∧ min 2 (le - do9) ≤ 2 := by omega
    have hz9 := gsz_le 2 (min 2 (le - do9))
    rcases Nat.lt_or_ge (8 * dt) (pl + gsz 2 (min 2 (le - do9))) with hrm | hrm
    · skip
      have hq := hcur.symm.trans (by obtain ⟨m9, rfl⟩ : ∃ m9, n = m9 + 1 := ⟨n - 1, by omega⟩; exact tpW_no (by omega) rfl rfl (by rw [show min (le - do9) (gmo 2) = min 2 (le - do9) from Nat.min_comm ..]; exact hrm))
      refine lv_aload_n hx hb d_q_TextReader_takePart_39 rfl (lv_at hl 1 rfl) ?_
      refine lv_aload_n hx hb d_q_TextReader_takePart_40 rfl (lv_at hl 2 rfl) ?_
      refine lv_aload_n hx hb d_q_TextReader_takePart_41 rfl (lv_at hl 3 rfl) ?_
      refine lv_iload hx hb d_q_TextReader_takePart_42 (lv_at hl 0 rfl) ?_
      refine q_readVr (n := 1) (As := [.int (nI (min 2 (le - do9)))]) (rest := [.ref ba, .ref td]) (wc := []) S (c_q_Kind_groupBits_1 l D cI cC sa (min 2 (le - do9)) (by omega) (by omega)) hSt hK hP (o_recv (ko_1 hSt) hS) [] rfl (q_goodV kw_689 kw_490 kw_491 kw_16 kw_492) (by decide +kernel) rfl rfl rfl ⟨Nat.le_trans (Nat.le_of_ble_eq_true rfl) hRf, Nat.le_trans (Nat.le_of_ble_eq_true rfl) hRl⟩ rfl hl.1 rfl (Nat.le_of_ble_eq_true rfl) d_q_TextReader_takePart_44 hRc hS (fun H locs hP hS => ?_)
      refine q_readVs (n := 2) (As := [.ref ba, .int (nI (gsz 2 (min 2 (le - do9))))]) (rest := []) (wc := [(td, .inr (5, [.ref tq, .int (nI fd), .int (nI pl), .int (nI (8 * dt))])), (ba, .inl (cI, 26, .inl (fun j => nI (bt j))))]) S (c_q_TextReader_take_no l D cI cC sa td tq fd pl (8 * dt) ba (gsz 2 (min 2 (le - do9))) bt (by omega) (by omega) (by omega) hrm) hSt hK hP (q0 := 0) rfl rfl [0, 2] rfl (q_goodV kw_676 kw_678 ks_17 kw_7 kw_679) (by decide +kernel) rfl rfl rfl ⟨Nat.le_trans (Nat.le_of_ble_eq_true rfl) hRf, Nat.le_trans (Nat.le_of_ble_eq_true rfl) hRl⟩ rfl hl.1 rfl (Nat.le_of_ble_eq_true rfl) d_q_TextReader_takePart_47 hRc hS (fun H locs hP hS => ?_)
      refine lv_istore hx hb d_q_TextReader_takePart_50 hl (Nat.le_of_ble_eq_true rfl) rfl (fun ls hl => ?_)
      have hl : lv_has ls 7 [(6, .int (-1)), (5, .int (nI (min 2 (le - do9)))), (0, .ref td), (1, .ref ba), (2, .ref (sa 8)), (3, .int (nI le)), (4, .int (nI do9))] := hl
      refine lv_iload hx hb d_q_TextReader_takePart_52 (lv_at hl 0 rfl) ?_
      refine lv_iconst (v := (-1)) hx hb d_q_TextReader_takePart_54 (by decide) ?_
      refine lv_icmp_eq hx hb d_q_TextReader_takePart_55 (tgt := 69) rfl (fun g55 => ?_) (fun g55 => absurd rfl g55)
      refine lv_iconst (v := nI 0) hx hb d_q_TextReader_takePart_69 (by decide) ?_
      rw [hq] at kr
      exact kr _ ls H locs d_q_TextReader_takePart_70 hP hD hS
    · skip
      refine lv_aload_n hx hb d_q_TextReader_takePart_39 rfl (lv_at hl 1 rfl) ?_
      refine lv_aload_n hx hb d_q_TextReader_takePart_40 rfl (lv_at hl 2 rfl) ?_
      refine lv_aload_n hx hb d_q_TextReader_takePart_41 rfl (lv_at hl 3 rfl) ?_
      refine lv_iload hx hb d_q_TextReader_takePart_42 (lv_at hl 0 rfl) ?_
      refine q_readVr (n := 1) (As := [.int (nI (min 2 (le - do9)))]) (rest := [.ref ba, .ref td]) (wc := []) S (c_q_Kind_groupBits_1 l D cI cC sa (min 2 (le - do9)) (by omega) (by omega)) hSt hK hP (o_recv (ko_1 hSt) hS) [] rfl (q_goodV kw_689 kw_490 kw_491 kw_16 kw_492) (by decide +kernel) rfl rfl rfl ⟨Nat.le_trans (Nat.le_of_ble_eq_true rfl) hRf, Nat.le_trans (Nat.le_of_ble_eq_true rfl) hRl⟩ rfl hl.1 rfl (Nat.le_of_ble_eq_true rfl) d_q_TextReader_takePart_44 hRc hS (fun H locs hP hS => ?_)
      refine q_writeVis (n := 2) (As := [.ref ba, .int (nI (gsz 2 (min 2 (le - do9))))]) (rest := []) (wc := [(td, .inr (5, [.ref tq, .int (nI fd), .int (nI pl), .int (nI (8 * dt))])), (ba, .inl (cI, 26, .inl (fun j => nI (bt j))))]) (wr := [(tq, .inl (cC, 64, .inl (fun j => nI (rd j))))]) (w1 := [(td, .inr (5, [.ref tq, .int (nI fd), .int (nI (pl + (gsz 2 (min 2 (le - do9))))), .int (nI (8 * dt))])), (ba, .inl (cI, 26, .inl (fun j => nI (bt j))))]) S (c_q_TextReader_take_ok l D cI cC sa td tq fd pl (8 * dt) ba (gsz 2 (min 2 (le - do9))) bt (by omega) (by omega) hrm hbt H.size) hSt hK hP hD hA (q0 := 0) rfl rfl [0, 2] [1] rfl rfl rfl rfl (by decide) rfl (q_goodV kw_676 kw_678 ks_17 kw_7 kw_679) (by decide +kernel) rfl rfl rfl ⟨Nat.le_trans (Nat.le_of_ble_eq_true rfl) hRf, Nat.le_trans (Nat.le_of_ble_eq_true rfl) hRl⟩ rfl hl.1 rfl (Nat.le_of_ble_eq_true rfl) d_q_TextReader_takePart_47 hRc hS (fun H locs hP hD hS => ?_)
      replace hP : va_P D classes [(td, .inr (5, [.ref tq, .int (nI fd), .int (nI (pl + (gsz 2 (min 2 (le - do9))))), .int (nI (8 * dt))])), (tq, .inl (cC, 64, .inl (fun j => nI (rd j)))), (ba, .inl (cI, 26, .inl (fun j => nI (bt j))))] H := hP.sub [1, 0, 2] rfl
      replace hD : va_D A [(td, .inr (5, [.ref tq, .int (nI fd), .int (nI (pl + (gsz 2 (min 2 (le - do9))))), .int (nI (8 * dt))])), (tq, .inl (cC, 64, .inl (fun j => nI (rd j)))), (ba, .inl (cI, 26, .inl (fun j => nI (bt j))))] := hD.sub [1, 0, 2] rfl rfl
      refine lv_istore hx hb d_q_TextReader_takePart_50 hl (Nat.le_of_ble_eq_true rfl) rfl (fun ls hl => ?_)
      have hl : lv_has ls 7 [(6, .int (nI (nxL bt pl (gsz 2 (min 2 (le - do9)))))), (5, .int (nI (min 2 (le - do9)))), (0, .ref td), (1, .ref ba), (2, .ref (sa 8)), (3, .int (nI le)), (4, .int (nI do9))] := hl
      have hv9 := nxL_lt hbt pl (gsz 2 (min 2 (le - do9)))
      have hp9 : 2 ^ gsz 2 (min 2 (le - do9)) ≤ 2 ^ 11 := Nat.pow_le_pow_right (by decide) hz9
      have hb9 : 45 ^ (min 2 (le - do9)) ≤ 45 ^ 2 := Nat.pow_le_pow_right (by decide) hx9.2
      rcases Nat.lt_or_ge (nxL bt pl (gsz 2 (min 2 (le - do9)))) (45 ^ (min 2 (le - do9))) with hlm | hlm
      · skip
        refine lv_iload hx hb d_q_TextReader_takePart_52 (lv_at hl 0 rfl) ?_
        refine lv_iconst (v := (-1)) hx hb d_q_TextReader_takePart_54 (by decide) ?_
        refine lv_icmp_eq hx hb d_q_TextReader_takePart_55 (tgt := 69) rfl (fun g55 => absurd g55 (nI_ne1 (by omega))) (fun g55 => ?_)
        refine lv_iload hx hb d_q_TextReader_takePart_58 (lv_at hl 0 rfl) ?_
        refine lv_aload_n hx hb d_q_TextReader_takePart_60 rfl (lv_at hl 4 rfl) ?_
        refine lv_iload hx hb d_q_TextReader_takePart_61 (lv_at hl 1 rfl) ?_
        refine q_readVr (n := 1) (As := [.int (nI (min 2 (le - do9)))]) (rest := [.int (nI (nxL bt pl (gsz 2 (min 2 (le - do9)))))]) (wc := []) S (c_q_Kind_groupLimit_1 l D cI cC sa (min 2 (le - do9)) (by omega)) hSt hK hP (o_recv (ko_1 hSt) hS) [] rfl (q_goodV kw_690 kw_691 kw_692 kw_16 kw_693) (by decide +kernel) rfl rfl rfl ⟨Nat.le_trans (Nat.le_of_ble_eq_true rfl) hRf, Nat.le_trans (Nat.le_of_ble_eq_true rfl) hRl⟩ rfl hl.1 rfl (Nat.le_of_ble_eq_true rfl) d_q_TextReader_takePart_63 hRc hS (fun H locs hP hS => ?_)
        refine n_icmp_lt hx hb d_q_TextReader_takePart_66 (tgt := 71) rfl (by omega) (by omega) (fun g66 => ?_) (fun g66 => absurd g66 (by omega))
        refine lv_aload_n hx hb d_q_TextReader_takePart_71 rfl (lv_at hl 2 rfl) ?_
        refine lv_aload_n hx hb d_q_TextReader_takePart_72 rfl (lv_at hl 4 rfl) ?_
        refine lv_iload hx hb d_q_TextReader_takePart_73 (lv_at hl 0 rfl) ?_
        refine lv_iload hx hb d_q_TextReader_takePart_75 (lv_at hl 1 rfl) ?_
        refine q_writeVvs (n := 3) (As := [.ref (sa 8), .int (nI (nxL bt pl (gsz 2 (min 2 (le - do9))))), .int (nI (min 2 (le - do9)))]) (rest := []) (wc := [(td, .inr (5, [.ref tq, .int (nI fd), .int (nI (pl + (gsz 2 (min 2 (le - do9))))), .int (nI (8 * dt))])), (tq, .inl (cC, 64, .inl (fun j => nI (rd j))))]) (wr := [(ba, .inl (cI, 26, .inl (fun j => nI (bt j))))]) (w1 := [(td, .inr (5, [.ref tq, .int (nI (fd + (min 2 (le - do9)))), .int (nI (pl + (gsz 2 (min 2 (le - do9))))), .int (nI (8 * dt))])), (tq, .inl (cC, 64, .inl (fun j => nI ((gpR rd fd (min 2 (le - do9)) 45 (nxL bt pl (gsz 2 (min 2 (le - do9)))) (min 2 (le - do9))) j))))]) S (c_q_TextReader_keep_1 l D cI cC sa td tq fd (pl + (gsz 2 (min 2 (le - do9)))) (8 * dt) (nxL bt pl (gsz 2 (min 2 (le - do9)))) (min 2 (le - do9)) rd (by omega) (by omega) (by omega) (by omega) H.size) hSt hK hP hD hA (q0 := 0) rfl rfl [0, 1] [2] rfl rfl rfl rfl (by decide) rfl (q_goodV kw_694 kw_696 ks_19 kw_7 kw_697) (by decide +kernel) rfl rfl rfl ⟨Nat.le_trans (Nat.le_of_ble_eq_true rfl) hRf, Nat.le_trans (Nat.le_of_ble_eq_true rfl) hRl⟩ rfl hl.1 rfl (Nat.le_of_ble_eq_true rfl) d_q_TextReader_takePart_77 hRc hS (fun H locs hP hD hS => ?_)
        replace hP : va_P D classes [(td, .inr (5, [.ref tq, .int (nI (fd + (min 2 (le - do9)))), .int (nI (pl + (gsz 2 (min 2 (le - do9))))), .int (nI (8 * dt))])), (tq, .inl (cC, 64, .inl (fun j => nI ((gpR rd fd (min 2 (le - do9)) 45 (nxL bt pl (gsz 2 (min 2 (le - do9)))) (min 2 (le - do9))) j)))), (ba, .inl (cI, 26, .inl (fun j => nI (bt j))))] H := hP.sub [1, 2, 0] rfl
        replace hD : va_D A [(td, .inr (5, [.ref tq, .int (nI (fd + (min 2 (le - do9)))), .int (nI (pl + (gsz 2 (min 2 (le - do9))))), .int (nI (8 * dt))])), (tq, .inl (cC, 64, .inl (fun j => nI ((gpR rd fd (min 2 (le - do9)) 45 (nxL bt pl (gsz 2 (min 2 (le - do9)))) (min 2 (le - do9))) j)))), (ba, .inl (cI, 26, .inl (fun j => nI (bt j))))] := hD.sub [1, 2, 0] rfl rfl
        refine lv_iload hx hb d_q_TextReader_takePart_80 (lv_at hl 6 rfl) ?_
        refine lv_aload_n hx hb d_q_TextReader_takePart_82 rfl (lv_at hl 4 rfl) ?_
        refine n_kgetN hx hb (kf_1_group hSt) hS hown hSt.2.1.2.1 d_q_TextReader_takePart_83 ?_
        refine n_iadd hx hb d_q_TextReader_takePart_86 ?_
        refine lv_istore hx hb d_q_TextReader_takePart_87 hl (Nat.le_of_ble_eq_true rfl) rfl (fun ls hl => ?_)
        have hl : lv_has ls 7 [(4, .int (nI (do9 + 2))), (6, .int (nI (nxL bt pl (gsz 2 (min 2 (le - do9)))))), (5, .int (nI (min 2 (le - do9)))), (0, .ref td), (1, .ref ba), (2, .ref (sa 8)), (3, .int (nI le))] := hl
        refine lv_goto hx hb d_q_TextReader_takePart_89 (tgt := 20) rfl ?_
        obtain ⟨m9, rfl⟩ : ∃ m9, n = m9 + 1 := ⟨n - 1, by omega⟩
        have hi9 : 10 * (min 2 (le - do9)) ≤ 3 * gsz 2 (min 2 (le - do9)) := gs_in2 hx9.1 hx9.2
        have hcur2 := (tpW_s (x := min 2 (le - do9)) (by omega) (Nat.min_comm ..) rfl hrm hlm).symm.trans hcur
        exact ih _ rfl (do9 + 2) (pl + (gsz 2 (min 2 (le - do9)))) (fd + (min 2 (le - do9))) (gpR rd fd (min 2 (le - do9)) 45 (nxL bt pl (gsz 2 (min 2 (le - do9)))) (min 2 (le - do9))) (by omega) (by omega) (by omega) (by omega) (by rw [show le - (do9 + 2) = le - do9 - (min 2 (le - do9)) by omega]; exact hcur2) ls H locs (lv_sub hl [3, 4, 5, 6, 0] rfl) hP hD hS
      · skip
        have hq := hcur.symm.trans (by obtain ⟨m9, rfl⟩ : ∃ m9, n = m9 + 1 := ⟨n - 1, by omega⟩; exact tpW_bad (x := min 2 (le - do9)) (by omega) (Nat.min_comm ..) rfl hrm hlm)
        refine lv_iload hx hb d_q_TextReader_takePart_52 (lv_at hl 0 rfl) ?_
        refine lv_iconst (v := (-1)) hx hb d_q_TextReader_takePart_54 (by decide) ?_
        refine lv_icmp_eq hx hb d_q_TextReader_takePart_55 (tgt := 69) rfl (fun g55 => absurd g55 (nI_ne1 (by omega))) (fun g55 => ?_)
        refine lv_iload hx hb d_q_TextReader_takePart_58 (lv_at hl 0 rfl) ?_
        refine lv_aload_n hx hb d_q_TextReader_takePart_60 rfl (lv_at hl 4 rfl) ?_
        refine lv_iload hx hb d_q_TextReader_takePart_61 (lv_at hl 1 rfl) ?_
        refine q_readVr (n := 1) (As := [.int (nI (min 2 (le - do9)))]) (rest := [.int (nI (nxL bt pl (gsz 2 (min 2 (le - do9)))))]) (wc := []) S (c_q_Kind_groupLimit_1 l D cI cC sa (min 2 (le - do9)) (by omega)) hSt hK hP (o_recv (ko_1 hSt) hS) [] rfl (q_goodV kw_690 kw_691 kw_692 kw_16 kw_693) (by decide +kernel) rfl rfl rfl ⟨Nat.le_trans (Nat.le_of_ble_eq_true rfl) hRf, Nat.le_trans (Nat.le_of_ble_eq_true rfl) hRl⟩ rfl hl.1 rfl (Nat.le_of_ble_eq_true rfl) d_q_TextReader_takePart_63 hRc hS (fun H locs hP hS => ?_)
        refine n_icmp_lt hx hb d_q_TextReader_takePart_66 (tgt := 71) rfl (by omega) (by omega) (fun g66 => absurd g66 (by omega)) (fun g66 => ?_)
        refine lv_iconst (v := nI 0) hx hb d_q_TextReader_takePart_69 (by decide) ?_
        rw [hq] at kr
        exact kr _ ls H locs d_q_TextReader_takePart_70 hP hD hS
  · skip
    have hq := hcur.symm.trans (tpW_z (by omega))
    refine lv_iload hx hb d_q_TextReader_takePart_20 (lv_at hl 4 rfl) ?_
    refine lv_iload_n hx hb d_q_TextReader_takePart_22 rfl (lv_at hl 3 rfl) ?_
    refine n_icmp_ge hx hb d_q_TextReader_takePart_23 (tgt := 92) rfl (by omega) (by omega) (fun g23 => ?_) (fun g23 => absurd g23 (by omega))
    refine lv_iconst (v := nI 1) hx hb d_q_TextReader_takePart_92 (by decide) ?_
    rw [hq] at kr
    exact kr _ ls H locs d_q_TextReader_takePart_93 hP hD hS
set_option maxHeartbeats 1000000 in
set_option maxRecDepth 100000 in
theorem bd_q_TextReader_takePart_1_ok (cI cC : ClassId) (sa : Nat → Nat) (td tq ct nx ba dt : Nat) (ch bt : Nat → Nat) (fi : Nat × Nat × Nat × (Nat → Nat)) (hdt : dt ≤ 19) (hbt : lt256 26 bt) (hyes : nx + 9 ≤ 8 * dt) (hinv : 10 * ct ≤ 3 * nx) (hfi : tpW bt 2 dt (nxL bt nx 9) (nxL bt nx 9) (nx + 9) ct ch = fi) (S : CallFix p m c b_q_TextReader_takePart 7 s args (cd_q_TextReader_takePart :: WS) R_TextReader) (hRf : 6 ≤ R.frames) (hRl : 131 ≤ R.locals) (hRc : cells ≤ R.cells ∧ slots ≤ R.slots) (hK : va_K D classes [(cI, .int), (cC, .char)] s) (hA : ∀ q, s.heap.size ≤ q → A q) (hSt : SB sa A s s.heap) (kr : ∀ (pc : Nat) (ls : Array Slot) (H : Heap) (locs : List Loc), decode b_q_TextReader_takePart pc = .ok (.ireturn, 1) → va_P D classes [(td, .inr (5, [.ref tq, .int (nI fi.2.2.1), .int (nI fi.2.1), .int (nI (8 * dt))])), (tq, .inl (cC, 64, .inl (fun j => nI (fi.2.2.2 j)))), (ba, .inl (cI, 26, .inl (fun j => nI (bt j))))] H → va_D A [(td, .inr (5, [.ref tq, .int (nI fi.2.2.1), .int (nI fi.2.1), .int (nI (8 * dt))])), (tq, .inl (cC, 64, .inl (fun j => nI (fi.2.2.2 j)))), (ba, .inl (cI, 26, .inl (fun j => nI (bt j))))] → va_S A s.heap H locs → W p l e R s m args below meth c H locs cells slots Q (F0 m pc ls [.int (nI fi.1)])) : ∀ (ls : Array Slot) (H : Heap) (locs : List Loc), lv_has ls 7 [(0, .ref td), (1, .ref ba), (2, .ref (sa 8))] → va_P D classes [(td, .inr (5, [.ref tq, .int (nI ct), .int (nI nx), .int (nI (8 * dt))])), (tq, .inl (cC, 64, .inl (fun j => nI (ch j)))), (ba, .inl (cI, 26, .inl (fun j => nI (bt j))))] H → va_D A [(td, .inr (5, [.ref tq, .int (nI ct), .int (nI nx), .int (nI (8 * dt))])), (tq, .inl (cC, 64, .inl (fun j => nI (ch j)))), (ba, .inl (cI, 26, .inl (fun j => nI (bt j))))] → va_S A s.heap H locs → W p l e R s m args below meth c H locs cells slots Q (F0 m 0 ls []) := by
  obtain ⟨hx, hb, hml, hown, hts⟩ := id S
  intro ls H locs hl hP hD hS
  have hlf : (nxL bt nx 9) < 2048 := Nat.lt_of_lt_of_le (nxL_lt hbt nx 9) (by decide)
  refine lv_aload_n hx hb d_q_TextReader_takePart_0 rfl (lv_at hl 0 rfl) ?_
  refine lv_aload_n hx hb d_q_TextReader_takePart_1 rfl (lv_at hl 1 rfl) ?_
  refine lv_aload_n hx hb d_q_TextReader_takePart_2 rfl (lv_at hl 2 rfl) ?_
  refine n_kgetN hx hb (kf_1_countBits hSt) hS hown hSt.2.1.1 d_q_TextReader_takePart_3 ?_
  refine q_writeVis (n := 2) (As := [.ref ba, .int (nI 9)]) (rest := []) (wc := [(td, .inr (5, [.ref tq, .int (nI ct), .int (nI nx), .int (nI (8 * dt))])), (ba, .inl (cI, 26, .inl (fun j => nI (bt j))))]) (wr := [(tq, .inl (cC, 64, .inl (fun j => nI (ch j))))]) (w1 := [(td, .inr (5, [.ref tq, .int (nI ct), .int (nI (nx + 9)), .int (nI (8 * dt))])), (ba, .inl (cI, 26, .inl (fun j => nI (bt j))))]) S (c_q_TextReader_take_ok l D cI cC sa td tq ct nx (8 * dt) ba 9 bt (by omega) (by decide) hyes hbt H.size) hSt hK hP hD hA (q0 := 0) rfl rfl [0, 2] [1] rfl rfl rfl rfl (by decide) rfl (q_goodV kw_676 kw_678 ks_17 kw_7 kw_679) (by decide +kernel) rfl rfl rfl ⟨Nat.le_trans (Nat.le_of_ble_eq_true rfl) hRf, Nat.le_trans (Nat.le_of_ble_eq_true rfl) hRl⟩ rfl hl.1 rfl (Nat.le_of_ble_eq_true rfl) d_q_TextReader_takePart_6 hRc hS (fun H locs hP hD hS => ?_)
  replace hP : va_P D classes [(td, .inr (5, [.ref tq, .int (nI ct), .int (nI (nx + 9)), .int (nI (8 * dt))])), (tq, .inl (cC, 64, .inl (fun j => nI (ch j)))), (ba, .inl (cI, 26, .inl (fun j => nI (bt j))))] H := hP.sub [1, 0, 2] rfl
  replace hD : va_D A [(td, .inr (5, [.ref tq, .int (nI ct), .int (nI (nx + 9)), .int (nI (8 * dt))])), (tq, .inl (cC, 64, .inl (fun j => nI (ch j)))), (ba, .inl (cI, 26, .inl (fun j => nI (bt j))))] := hD.sub [1, 0, 2] rfl rfl
  refine lv_istore_n hx hb d_q_TextReader_takePart_9 rfl hl (Nat.le_of_ble_eq_true rfl) rfl (fun ls hl => ?_)
  have hl : lv_has ls 7 [(3, .int (nI (nxL bt nx 9))), (0, .ref td), (1, .ref ba), (2, .ref (sa 8))] := hl
  refine lv_iload_n hx hb d_q_TextReader_takePart_10 rfl (lv_at hl 0 rfl) ?_
  refine lv_iconst (v := (-1)) hx hb d_q_TextReader_takePart_11 (by decide) ?_
  refine lv_icmp_ne hx hb d_q_TextReader_takePart_12 (tgt := 17) rfl (fun g12 => ?_) (fun g12 => absurd g12 (nI_ne1 (by omega)))
  refine lv_iconst (v := nI 0) hx hb d_q_TextReader_takePart_17 (by decide) ?_
  refine lv_istore hx hb d_q_TextReader_takePart_18 hl (Nat.le_of_ble_eq_true rfl) rfl (fun ls hl => ?_)
  have hl : lv_has ls 7 [(4, .int (nI 0)), (3, .int (nI (nxL bt nx 9))), (0, .ref td), (1, .ref ba), (2, .ref (sa 8))] := hl
  exact lw_q_TextReader_takePart_1_ok_20 cI cC sa td tq ct nx ba dt ch bt fi hdt hbt hyes hinv hfi S hRf hRl hRc hK hA hSt (nxL bt nx 9) hlf  kr (nxL bt nx 9) 0 (nx + 9) ct ch (by omega) (by omega) (by omega) (by omega) hfi ls H locs (lv_sub hl [2, 3, 4, 1, 0] rfl) hP hD hS
set_option maxHeartbeats 1000000 in
set_option maxRecDepth 100000 in
theorem c_q_TextReader_takePart_1_ok (l : Launch) (D : va_G) (cI cC : ClassId) (sa : Nat → Nat) (td tq ct nx ba dt : Nat) (ch bt : Nat → Nat) (fi : Nat × Nat × Nat × (Nat → Nat)) (hdt : dt ≤ 19) (hbt : lt256 26 bt) (hyes : nx + 9 ≤ 8 * dt) (hinv : 10 * ct ≤ 3 * nx) (hfi : tpW bt 2 dt (nxL bt nx 9) (nxL bt nx 9) (nx + 9) ct ch = fi) (sz : Nat) : Met l y_q_TextReader_takePart (cd_q_TextReader_takePart :: WS) { frames := 6, cells := 0, slots := 0, locals := 131 } (va_Pc [.ref td, .ref ba, .ref (sa 8)] (swP sa D [(td, .inr (5, [.ref tq, .int (nI ct), .int (nI nx), .int (nI (8 * dt))])), (tq, .inl (cC, 64, .inl (fun j => nI (ch j)))), (ba, .inl (cI, 26, .inl (fun j => nI (bt j))))] [(cI, .int), (cC, .char)] sz)) (wQi D (nI fi.1) [(td, .inr (5, [.ref tq, .int (nI ct), .int (nI nx), .int (nI (8 * dt))])), (tq, .inl (cC, 64, .inl (fun j => nI (ch j)))), (ba, .inl (cI, 26, .inl (fun j => nI (bt j))))] [(td, .inr (5, [.ref tq, .int (nI fi.2.2.1), .int (nI fi.2.1), .int (nI (8 * dt))])), (tq, .inl (cC, 64, .inl (fun j => nI (fi.2.2.2 j)))), (ba, .inl (cI, 26, .inl (fun j => nI (bt j))))] sz) 0 0 (va_A [(td, .inr (5, [.ref tq, .int (nI ct), .int (nI nx), .int (nI (8 * dt))])), (tq, .inl (cC, 64, .inl (fun j => nI (ch j)))), (ba, .inl (cI, 26, .inl (fun j => nI (bt j))))] sz) := by
  refine Met.ofW (cc := b_q_TextReader_takePart) (maxL := 7) (ret := (some .boolean)) (by decide) rfl ?_
  intro p e s m args below meth c s₁ B hml hv0
  obtain ⟨rfl, ⟨hP, hK, hD0, hsz⟩, hSt⟩ := hv0
  have hts := atoms_spec (ws := cd_q_TextReader_takePart :: WS) B.pre
  have hown : s.vm.findClass R_TextReader = some m.cls := findClass_of_methodNamed B.named
  have hlocks := B.notSynchronized
  subst hsz
  have hD := hD0.self (sz := s.heap.size)
  have hl := lv_entry ([.ref td, .ref ba, .ref (sa 8)]) (n := 7) (Nat.le_of_ble_eq_true rfl)
  rw [lg_entry_eq]
  generalize (lg_sl ([.ref td, .ref ba, .ref (sa 8)]) ++ List.replicate (7 - (lg_sl ([.ref td, .ref ba, .ref (sa 8)])).length) Slot.unset).toArray = ls at hl ⊢
  refine bd_q_TextReader_takePart_1_ok cI cC sa td tq ct nx ba dt ch bt fi hdt hbt hyes hinv hfi ⟨B.exec, B.bytes, hml, hown, hts⟩ (Nat.le_refl _) (Nat.le_refl _) ⟨Nat.le_refl _, Nat.le_refl _⟩ hK (fun q h => Or.inr h) hSt (fun pc ls H locs hd hP hD hS => ?_) ls _ _ hl hP hD (va_S.rf)
  exact W.zret B.exec B.bytes B.returns (by rw [← hfi]; exact le1_fit (tpW_le _ _ _ _ _ _ _ _)) (fun t ht _ => ⟨⟨_, (), rfl, rfl, (by have h9 := hP; rw [← ht] at h9; exact h9)⟩, hS.F ht⟩) hS.2.2 hd
end
section
variable {p : Program} {l : Launch} {e : Env} {R : Room} {s : State} {m : MethodId} {args : Array Value} {below : List Frame} {meth : Method} {c : Code} {cells slots : Nat} {Q : State → Prop} {A : Nat → Prop} {H0 : Heap} {D : va_G}
set_option maxHeartbeats 1000000 in
set_option maxRecDepth 100000 in
theorem bd_q_TextReader_takePart_2_no (cI cC : ClassId) (sa : Nat → Nat) (td tq ct nx ba dt : Nat) (ch bt : Nat → Nat) (hdt : dt ≤ 19) (hnx : nx ≤ 8 * dt) (hno : 8 * dt < nx + 8) (S : CallFix p m c b_q_TextReader_takePart 7 s args (cd_q_TextReader_takePart :: WS) R_TextReader) (hRf : 6 ≤ R.frames) (hRl : 131 ≤ R.locals) (hRc : cells ≤ R.cells ∧ slots ≤ R.slots) (hK : va_K D classes [(cI, .int), (cC, .char)] s) (hSt : SB sa A s s.heap) (kr : ∀ (pc : Nat) (ls : Array Slot) (H : Heap) (locs : List Loc), decode b_q_TextReader_takePart pc = .ok (.ireturn, 1) → va_P D classes [(td, .inr (5, [.ref tq, .int (nI ct), .int (nI nx), .int (nI (8 * dt))])), (tq, .inl (cC, 64, .inl (fun j => nI (ch j)))), (ba, .inl (cI, 26, .inl (fun j => nI (bt j))))] H → va_S A s.heap H locs → W p l e R s m args below meth c H locs cells slots Q (F0 m pc ls [.int (nI 0)])) : ∀ (ls : Array Slot) (H : Heap) (locs : List Loc), lv_has ls 7 [(0, .ref td), (1, .ref ba), (2, .ref (sa 9))] → va_P D classes [(td, .inr (5, [.ref tq, .int (nI ct), .int (nI nx), .int (nI (8 * dt))])), (tq, .inl (cC, 64, .inl (fun j => nI (ch j)))), (ba, .inl (cI, 26, .inl (fun j => nI (bt j))))] H → va_S A s.heap H locs → W p l e R s m args below meth c H locs cells slots Q (F0 m 0 ls []) := by
  obtain ⟨hx, hb, hml, hown, hts⟩ := id S
  intro ls H locs hl hP hS
  refine lv_aload_n hx hb d_q_TextReader_takePart_0 rfl (lv_at hl 0 rfl) ?_
  refine lv_aload_n hx hb d_q_TextReader_takePart_1 rfl (lv_at hl 1 rfl) ?_
  refine lv_aload_n hx hb d_q_TextReader_takePart_2 rfl (lv_at hl 2 rfl) ?_
  refine n_kgetN hx hb (kf_2_countBits hSt) hS hown hSt.2.1.1 d_q_TextReader_takePart_3 ?_
  refine q_readVs (n := 2) (As := [.ref ba, .int (nI 8)]) (rest := []) (wc := [(td, .inr (5, [.ref tq, .int (nI ct), .int (nI nx), .int (nI (8 * dt))])), (ba, .inl (cI, 26, .inl (fun j => nI (bt j))))]) S (c_q_TextReader_take_no l D cI cC sa td tq ct nx (8 * dt) ba 8 bt hnx (by omega) (by decide) hno) hSt hK hP (q0 := 0) rfl rfl [0, 2] rfl (q_goodV kw_676 kw_678 ks_17 kw_7 kw_679) (by decide +kernel) rfl rfl rfl ⟨Nat.le_trans (Nat.le_of_ble_eq_true rfl) hRf, Nat.le_trans (Nat.le_of_ble_eq_true rfl) hRl⟩ rfl hl.1 rfl (Nat.le_of_ble_eq_true rfl) d_q_TextReader_takePart_6 hRc hS (fun H locs hP hS => ?_)
  refine lv_istore_n hx hb d_q_TextReader_takePart_9 rfl hl (Nat.le_of_ble_eq_true rfl) rfl (fun ls hl => ?_)
  have hl : lv_has ls 7 [(3, .int (-1)), (0, .ref td), (1, .ref ba), (2, .ref (sa 9))] := hl
  refine lv_iload_n hx hb d_q_TextReader_takePart_10 rfl (lv_at hl 0 rfl) ?_
  refine lv_iconst (v := (-1)) hx hb d_q_TextReader_takePart_11 (by decide) ?_
  refine lv_icmp_ne hx hb d_q_TextReader_takePart_12 (tgt := 17) rfl (fun g12 => absurd g12 (fun z => z rfl)) (fun g12 => ?_)
  refine lv_iconst (v := nI 0) hx hb d_q_TextReader_takePart_15 (by decide) ?_
  exact kr _ ls H locs d_q_TextReader_takePart_16 hP hS
set_option maxHeartbeats 1000000 in
set_option maxRecDepth 100000 in
theorem c_q_TextReader_takePart_2_no (l : Launch) (D : va_G) (cI cC : ClassId) (sa : Nat → Nat) (td tq ct nx ba dt : Nat) (ch bt : Nat → Nat) (hdt : dt ≤ 19) (hnx : nx ≤ 8 * dt) (hno : 8 * dt < nx + 8) : Met l y_q_TextReader_takePart (cd_q_TextReader_takePart :: WS) { frames := 6, cells := 0, slots := 0, locals := 131 } (va_Pc [.ref td, .ref ba, .ref (sa 9)] (srP sa D [(td, .inr (5, [.ref tq, .int (nI ct), .int (nI nx), .int (nI (8 * dt))])), (tq, .inl (cC, 64, .inl (fun j => nI (ch j)))), (ba, .inl (cI, 26, .inl (fun j => nI (bt j))))] [(cI, .int), (cC, .char)])) (pQ (nI 0)) 0 0 noA := by
  refine Met.ofW (cc := b_q_TextReader_takePart) (maxL := 7) (ret := (some .boolean)) (by decide) rfl ?_
  intro p e s m args below meth c s₁ B hml hv0
  obtain ⟨rfl, ⟨hP, hK⟩, hSt⟩ := hv0
  have hts := atoms_spec (ws := cd_q_TextReader_takePart :: WS) B.pre
  have hown : s.vm.findClass R_TextReader = some m.cls := findClass_of_methodNamed B.named
  have hlocks := B.notSynchronized
  have hl := lv_entry ([.ref td, .ref ba, .ref (sa 9)]) (n := 7) (Nat.le_of_ble_eq_true rfl)
  rw [lg_entry_eq]
  generalize (lg_sl ([.ref td, .ref ba, .ref (sa 9)]) ++ List.replicate (7 - (lg_sl ([.ref td, .ref ba, .ref (sa 9)])).length) Slot.unset).toArray = ls at hl ⊢
  refine bd_q_TextReader_takePart_2_no cI cC sa td tq ct nx ba dt ch bt hdt hnx hno ⟨B.exec, B.bytes, hml, hown, hts⟩ (Nat.le_refl _) (Nat.le_refl _) ⟨Nat.le_refl _, Nat.le_refl _⟩ hK hSt (fun pc ls H locs hd hP hS => ?_) ls _ _ hl hP (va_S.rf (A := noA))
  exact W.zret B.exec B.bytes B.returns rfl (fun t ht _ => ⟨⟨_, (), rfl, rfl, trivial⟩, hS.F ht⟩) hS.2.2 hd
end
section
variable {p : Program} {l : Launch} {e : Env} {R : Room} {s : State} {m : MethodId} {args : Array Value} {below : List Frame} {meth : Method} {c : Code} {cells slots : Nat} {Q : State → Prop} {A : Nat → Prop} {H0 : Heap} {D : va_G}
set_option maxHeartbeats 1000000 in
set_option maxRecDepth 100000 in
theorem lw_q_TextReader_takePart_2_ok_20 (cI cC : ClassId) (sa : Nat → Nat) (td tq ct nx ba dt : Nat) (ch bt : Nat → Nat) (fi : Nat × Nat × Nat × (Nat → Nat)) (hdt : dt ≤ 19) (hbt : lt256 26 bt) (hyes : nx + 8 ≤ 8 * dt) (hinv : 10 * ct ≤ 3 * nx) (hfi : tpW bt 4 dt (nxL bt nx 8) (nxL bt nx 8) (nx + 8) ct ch = fi) (S : CallFix p m c b_q_TextReader_takePart 7 s args (cd_q_TextReader_takePart :: WS) R_TextReader) (hRf : 6 ≤ R.frames) (hRl : 131 ≤ R.locals) (hRc : cells ≤ R.cells ∧ slots ≤ R.slots) (hK : va_K D classes [(cI, .int), (cC, .char)] s) (hA : ∀ q, s.heap.size ≤ q → A q) (hSt : SB sa A s s.heap) (le : Nat) (hle : le < 2048) (kr : ∀ (pc : Nat) (ls : Array Slot) (H : Heap) (locs : List Loc), decode b_q_TextReader_takePart pc = .ok (.ireturn, 1) → va_P D classes [(td, .inr (5, [.ref tq, .int (nI fi.2.2.1), .int (nI fi.2.1), .int (nI (8 * dt))])), (tq, .inl (cC, 64, .inl (fun j => nI (fi.2.2.2 j)))), (ba, .inl (cI, 26, .inl (fun j => nI (bt j))))] H → va_D A [(td, .inr (5, [.ref tq, .int (nI fi.2.2.1), .int (nI fi.2.1), .int (nI (8 * dt))])), (tq, .inl (cC, 64, .inl (fun j => nI (fi.2.2.2 j)))), (ba, .inl (cI, 26, .inl (fun j => nI (bt j))))] → va_S A s.heap H locs → W p l e R s m args below meth c H locs cells slots Q (F0 m pc ls [.int (nI fi.1)])) :
    ∀ (n : Nat) (do9 : Nat) (pl : Nat) (fd : Nat) (rd : Nat → Nat), (le - do9 ≤ n) → (10 * fd ≤ 3 * pl) → (pl ≤ 8 * dt) → (do9 ≤ 4000) → (tpW bt 4 dt n (le - do9) pl fd rd = fi) → ∀ (ls : Array Slot) (H : Heap) (locs : List Loc), lv_has ls 7 [(0, .ref td), (1, .ref ba), (2, .ref (sa 9)), (3, .int (nI le)), (4, .int (nI do9))] → va_P D classes [(td, .inr (5, [.ref tq, .int (nI fd), .int (nI pl), .int (nI (8 * dt))])), (tq, .inl (cC, 64, .inl (fun j => nI (rd j)))), (ba, .inl (cI, 26, .inl (fun j => nI (bt j))))] H → va_D A [(td, .inr (5, [.ref tq, .int (nI fd), .int (nI pl), .int (nI (8 * dt))])), (tq, .inl (cC, 64, .inl (fun j => nI (rd j)))), (ba, .inl (cI, 26, .inl (fun j => nI (bt j))))] → va_S A s.heap H locs → W p l e R s m args below meth c H locs cells slots Q (F0 m 20 ls []) := by
  obtain ⟨hx, hb, hml, hown, hts⟩ := id S
  refine fuel_ind (fun n ih => ?_)
  intro do9 pl fd rd hln hi1 hi2 hi3 hcur ls H locs hl hP hD hS
  rcases Nat.lt_or_ge do9 le with hdl | hdl
  · skip
    refine lv_iload hx hb d_q_TextReader_takePart_20 (lv_at hl 4 rfl) ?_
    refine lv_iload_n hx hb d_q_TextReader_takePart_22 rfl (lv_at hl 3 rfl) ?_
    refine n_icmp_ge hx hb d_q_TextReader_takePart_23 (tgt := 92) rfl (by omega) (by omega) (fun g23 => absurd g23 (by omega)) (fun g23 => ?_)
    refine lv_aload_n hx hb d_q_TextReader_takePart_26 rfl (lv_at hl 2 rfl) ?_
    refine n_kgetN hx hb (kf_2_group hSt) hS hown hSt.2.1.2.1 d_q_TextReader_takePart_27 ?_
    refine lv_iload_n hx hb d_q_TextReader_takePart_30 rfl (lv_at hl 3 rfl) ?_
    refine lv_iload hx hb d_q_TextReader_takePart_31 (lv_at hl 4 rfl) ?_
    refine n_isub hx hb d_q_TextReader_takePart_33 (by omega) ?_
    refine q_pureS (n := 2) (As := [.int (nI 1), .int (nI (le - do9))]) (rest := []) S (c_j_Math_min l 1 (le - do9) (by decide) (by omega)) (q_goodS kw_688 kw_431 kw_19 kw_432) (by decide +kernel) rfl rfl ⟨Nat.le_trans (Nat.le_of_ble_eq_true rfl) hRf, Nat.le_trans (Nat.le_of_ble_eq_true rfl) hRl⟩ rfl hl.1 rfl (Nat.le_of_ble_eq_true rfl) d_q_TextReader_takePart_34 hRc hS (fun H locs hkp hS => ?_)
    replace hP := hP.kept (fun k q hq => hkp q.1 (hP k q hq).lt)
    refine lv_istore hx hb d_q_TextReader_takePart_37 hl (Nat.le_of_ble_eq_true rfl) rfl (fun ls hl => ?_)
    have hl : lv_has ls 7 [(5, .int (nI (min 1 (le - do9)))), (0, .ref td), (1, .ref ba), (2, .ref (sa 9)), (3, .int (nI le)), (4, .int (nI do9))] := hl
    have hx9 : 1 ≤ min 1 (le - do9) ∧ min 1 (le - do9) ≤ 1 := by omega
    have hz9 := gsz_le 4 (min 1 (le - do9))
    rcases Nat.lt_or_ge (8 * dt) (pl + gsz 4 (min 1 (le - do9))) with hrm | hrm
    · skip
      have hq := hcur.symm.trans (by obtain ⟨m9, rfl⟩ : ∃ m9, n = m9 + 1 := ⟨n - 1, by omega⟩; exact tpW_no (by omega) rfl rfl (by rw [show min (le - do9) (gmo 4) = min 1 (le - do9) from Nat.min_comm ..]; exact hrm))
      refine lv_aload_n hx hb d_q_TextReader_takePart_39 rfl (lv_at hl 1 rfl) ?_
      refine lv_aload_n hx hb d_q_TextReader_takePart_40 rfl (lv_at hl 2 rfl) ?_
      refine lv_aload_n hx hb d_q_TextReader_takePart_41 rfl (lv_at hl 3 rfl) ?_
      refine lv_iload hx hb d_q_TextReader_takePart_42 (lv_at hl 0 rfl) ?_
      refine q_readVr (n := 1) (As := [.int (nI (min 1 (le - do9)))]) (rest := [.ref ba, .ref td]) (wc := []) S (c_q_Kind_groupBits_2 l D cI cC sa (min 1 (le - do9)) (by omega) (by omega)) hSt hK hP (o_recv (ko_2 hSt) hS) [] rfl (q_goodV kw_689 kw_490 kw_491 kw_16 kw_492) (by decide +kernel) rfl rfl rfl ⟨Nat.le_trans (Nat.le_of_ble_eq_true rfl) hRf, Nat.le_trans (Nat.le_of_ble_eq_true rfl) hRl⟩ rfl hl.1 rfl (Nat.le_of_ble_eq_true rfl) d_q_TextReader_takePart_44 hRc hS (fun H locs hP hS => ?_)
      refine q_readVs (n := 2) (As := [.ref ba, .int (nI (gsz 4 (min 1 (le - do9))))]) (rest := []) (wc := [(td, .inr (5, [.ref tq, .int (nI fd), .int (nI pl), .int (nI (8 * dt))])), (ba, .inl (cI, 26, .inl (fun j => nI (bt j))))]) S (c_q_TextReader_take_no l D cI cC sa td tq fd pl (8 * dt) ba (gsz 4 (min 1 (le - do9))) bt (by omega) (by omega) (by omega) hrm) hSt hK hP (q0 := 0) rfl rfl [0, 2] rfl (q_goodV kw_676 kw_678 ks_17 kw_7 kw_679) (by decide +kernel) rfl rfl rfl ⟨Nat.le_trans (Nat.le_of_ble_eq_true rfl) hRf, Nat.le_trans (Nat.le_of_ble_eq_true rfl) hRl⟩ rfl hl.1 rfl (Nat.le_of_ble_eq_true rfl) d_q_TextReader_takePart_47 hRc hS (fun H locs hP hS => ?_)
      refine lv_istore hx hb d_q_TextReader_takePart_50 hl (Nat.le_of_ble_eq_true rfl) rfl (fun ls hl => ?_)
      have hl : lv_has ls 7 [(6, .int (-1)), (5, .int (nI (min 1 (le - do9)))), (0, .ref td), (1, .ref ba), (2, .ref (sa 9)), (3, .int (nI le)), (4, .int (nI do9))] := hl
      refine lv_iload hx hb d_q_TextReader_takePart_52 (lv_at hl 0 rfl) ?_
      refine lv_iconst (v := (-1)) hx hb d_q_TextReader_takePart_54 (by decide) ?_
      refine lv_icmp_eq hx hb d_q_TextReader_takePart_55 (tgt := 69) rfl (fun g55 => ?_) (fun g55 => absurd rfl g55)
      refine lv_iconst (v := nI 0) hx hb d_q_TextReader_takePart_69 (by decide) ?_
      rw [hq] at kr
      exact kr _ ls H locs d_q_TextReader_takePart_70 hP hD hS
    · skip
      refine lv_aload_n hx hb d_q_TextReader_takePart_39 rfl (lv_at hl 1 rfl) ?_
      refine lv_aload_n hx hb d_q_TextReader_takePart_40 rfl (lv_at hl 2 rfl) ?_
      refine lv_aload_n hx hb d_q_TextReader_takePart_41 rfl (lv_at hl 3 rfl) ?_
      refine lv_iload hx hb d_q_TextReader_takePart_42 (lv_at hl 0 rfl) ?_
      refine q_readVr (n := 1) (As := [.int (nI (min 1 (le - do9)))]) (rest := [.ref ba, .ref td]) (wc := []) S (c_q_Kind_groupBits_2 l D cI cC sa (min 1 (le - do9)) (by omega) (by omega)) hSt hK hP (o_recv (ko_2 hSt) hS) [] rfl (q_goodV kw_689 kw_490 kw_491 kw_16 kw_492) (by decide +kernel) rfl rfl rfl ⟨Nat.le_trans (Nat.le_of_ble_eq_true rfl) hRf, Nat.le_trans (Nat.le_of_ble_eq_true rfl) hRl⟩ rfl hl.1 rfl (Nat.le_of_ble_eq_true rfl) d_q_TextReader_takePart_44 hRc hS (fun H locs hP hS => ?_)
      refine q_writeVis (n := 2) (As := [.ref ba, .int (nI (gsz 4 (min 1 (le - do9))))]) (rest := []) (wc := [(td, .inr (5, [.ref tq, .int (nI fd), .int (nI pl), .int (nI (8 * dt))])), (ba, .inl (cI, 26, .inl (fun j => nI (bt j))))]) (wr := [(tq, .inl (cC, 64, .inl (fun j => nI (rd j))))]) (w1 := [(td, .inr (5, [.ref tq, .int (nI fd), .int (nI (pl + (gsz 4 (min 1 (le - do9))))), .int (nI (8 * dt))])), (ba, .inl (cI, 26, .inl (fun j => nI (bt j))))]) S (c_q_TextReader_take_ok l D cI cC sa td tq fd pl (8 * dt) ba (gsz 4 (min 1 (le - do9))) bt (by omega) (by omega) hrm hbt H.size) hSt hK hP hD hA (q0 := 0) rfl rfl [0, 2] [1] rfl rfl rfl rfl (by decide) rfl (q_goodV kw_676 kw_678 ks_17 kw_7 kw_679) (by decide +kernel) rfl rfl rfl ⟨Nat.le_trans (Nat.le_of_ble_eq_true rfl) hRf, Nat.le_trans (Nat.le_of_ble_eq_true rfl) hRl⟩ rfl hl.1 rfl (Nat.le_of_ble_eq_true rfl) d_q_TextReader_takePart_47 hRc hS (fun H locs hP hD hS => ?_)
      replace hP : va_P D classes [(td, .inr (5, [.ref tq, .int (nI fd), .int (nI (pl + (gsz 4 (min 1 (le - do9))))), .int (nI (8 * dt))])), (tq, .inl (cC, 64, .inl (fun j => nI (rd j)))), (ba, .inl (cI, 26, .inl (fun j => nI (bt j))))] H := hP.sub [1, 0, 2] rfl
      replace hD : va_D A [(td, .inr (5, [.ref tq, .int (nI fd), .int (nI (pl + (gsz 4 (min 1 (le - do9))))), .int (nI (8 * dt))])), (tq, .inl (cC, 64, .inl (fun j => nI (rd j)))), (ba, .inl (cI, 26, .inl (fun j => nI (bt j))))] := hD.sub [1, 0, 2] rfl rfl
      refine lv_istore hx hb d_q_TextReader_takePart_50 hl (Nat.le_of_ble_eq_true rfl) rfl (fun ls hl => ?_)
      have hl : lv_has ls 7 [(6, .int (nI (nxL bt pl (gsz 4 (min 1 (le - do9)))))), (5, .int (nI (min 1 (le - do9)))), (0, .ref td), (1, .ref ba), (2, .ref (sa 9)), (3, .int (nI le)), (4, .int (nI do9))] := hl
      have hv9 := nxL_lt hbt pl (gsz 4 (min 1 (le - do9)))
      have hp9 : 2 ^ gsz 4 (min 1 (le - do9)) ≤ 2 ^ 11 := Nat.pow_le_pow_right (by decide) hz9
      have hb9 : 256 ^ (min 1 (le - do9)) ≤ 256 ^ 1 := Nat.pow_le_pow_right (by decide) hx9.2
      rcases Nat.lt_or_ge (nxL bt pl (gsz 4 (min 1 (le - do9)))) (256 ^ (min 1 (le - do9))) with hlm | hlm
      · skip
        refine lv_iload hx hb d_q_TextReader_takePart_52 (lv_at hl 0 rfl) ?_
        refine lv_iconst (v := (-1)) hx hb d_q_TextReader_takePart_54 (by decide) ?_
        refine lv_icmp_eq hx hb d_q_TextReader_takePart_55 (tgt := 69) rfl (fun g55 => absurd g55 (nI_ne1 (by omega))) (fun g55 => ?_)
        refine lv_iload hx hb d_q_TextReader_takePart_58 (lv_at hl 0 rfl) ?_
        refine lv_aload_n hx hb d_q_TextReader_takePart_60 rfl (lv_at hl 4 rfl) ?_
        refine lv_iload hx hb d_q_TextReader_takePart_61 (lv_at hl 1 rfl) ?_
        refine q_readVr (n := 1) (As := [.int (nI (min 1 (le - do9)))]) (rest := [.int (nI (nxL bt pl (gsz 4 (min 1 (le - do9)))))]) (wc := []) S (c_q_Kind_groupLimit_2 l D cI cC sa (min 1 (le - do9)) (by omega)) hSt hK hP (o_recv (ko_2 hSt) hS) [] rfl (q_goodV kw_690 kw_691 kw_692 kw_16 kw_693) (by decide +kernel) rfl rfl rfl ⟨Nat.le_trans (Nat.le_of_ble_eq_true rfl) hRf, Nat.le_trans (Nat.le_of_ble_eq_true rfl) hRl⟩ rfl hl.1 rfl (Nat.le_of_ble_eq_true rfl) d_q_TextReader_takePart_63 hRc hS (fun H locs hP hS => ?_)
        refine n_icmp_lt hx hb d_q_TextReader_takePart_66 (tgt := 71) rfl (by omega) (by omega) (fun g66 => ?_) (fun g66 => absurd g66 (by omega))
        refine lv_aload_n hx hb d_q_TextReader_takePart_71 rfl (lv_at hl 2 rfl) ?_
        refine lv_aload_n hx hb d_q_TextReader_takePart_72 rfl (lv_at hl 4 rfl) ?_
        refine lv_iload hx hb d_q_TextReader_takePart_73 (lv_at hl 0 rfl) ?_
        refine lv_iload hx hb d_q_TextReader_takePart_75 (lv_at hl 1 rfl) ?_
        refine q_writeVvs (n := 3) (As := [.ref (sa 9), .int (nI (nxL bt pl (gsz 4 (min 1 (le - do9))))), .int (nI (min 1 (le - do9)))]) (rest := []) (wc := [(td, .inr (5, [.ref tq, .int (nI fd), .int (nI (pl + (gsz 4 (min 1 (le - do9))))), .int (nI (8 * dt))])), (tq, .inl (cC, 64, .inl (fun j => nI (rd j))))]) (wr := [(ba, .inl (cI, 26, .inl (fun j => nI (bt j))))]) (w1 := [(td, .inr (5, [.ref tq, .int (nI (fd + (min 1 (le - do9)))), .int (nI (pl + (gsz 4 (min 1 (le - do9))))), .int (nI (8 * dt))])), (tq, .inl (cC, 64, .inl (fun j => nI ((gpR rd fd (min 1 (le - do9)) 256 (nxL bt pl (gsz 4 (min 1 (le - do9)))) (min 1 (le - do9))) j))))]) S (c_q_TextReader_keep_2 l D cI cC sa td tq fd (pl + (gsz 4 (min 1 (le - do9)))) (8 * dt) (nxL bt pl (gsz 4 (min 1 (le - do9)))) (min 1 (le - do9)) rd (by omega) (by omega) (by omega) (by omega) H.size) hSt hK hP hD hA (q0 := 0) rfl rfl [0, 1] [2] rfl rfl rfl rfl (by decide) rfl (q_goodV kw_694 kw_696 ks_19 kw_7 kw_697) (by decide +kernel) rfl rfl rfl ⟨Nat.le_trans (Nat.le_of_ble_eq_true rfl) hRf, Nat.le_trans (Nat.le_of_ble_eq_true rfl) hRl⟩ rfl hl.1 rfl (Nat.le_of_ble_eq_true rfl) d_q_TextReader_takePart_77 hRc hS (fun H locs hP hD hS => ?_)
        replace hP : va_P D classes [(td, .inr (5, [.ref tq, .int (nI (fd + (min 1 (le - do9)))), .int (nI (pl + (gsz 4 (min 1 (le - do9))))), .int (nI (8 * dt))])), (tq, .inl (cC, 64, .inl (fun j => nI ((gpR rd fd (min 1 (le - do9)) 256 (nxL bt pl (gsz 4 (min 1 (le - do9)))) (min 1 (le - do9))) j)))), (ba, .inl (cI, 26, .inl (fun j => nI (bt j))))] H := hP.sub [1, 2, 0] rfl
        replace hD : va_D A [(td, .inr (5, [.ref tq, .int (nI (fd + (min 1 (le - do9)))), .int (nI (pl + (gsz 4 (min 1 (le - do9))))), .int (nI (8 * dt))])), (tq, .inl (cC, 64, .inl (fun j => nI ((gpR rd fd (min 1 (le - do9)) 256 (nxL bt pl (gsz 4 (min 1 (le - do9)))) (min 1 (le - do9))) j)))), (ba, .inl (cI, 26, .inl (fun j => nI (bt j))))] := hD.sub [1, 2, 0] rfl rfl
        refine lv_iload hx hb d_q_TextReader_takePart_80 (lv_at hl 6 rfl) ?_
        refine lv_aload_n hx hb d_q_TextReader_takePart_82 rfl (lv_at hl 4 rfl) ?_
        refine n_kgetN hx hb (kf_2_group hSt) hS hown hSt.2.1.2.1 d_q_TextReader_takePart_83 ?_
        refine n_iadd hx hb d_q_TextReader_takePart_86 ?_
        refine lv_istore hx hb d_q_TextReader_takePart_87 hl (Nat.le_of_ble_eq_true rfl) rfl (fun ls hl => ?_)
        have hl : lv_has ls 7 [(4, .int (nI (do9 + 1))), (6, .int (nI (nxL bt pl (gsz 4 (min 1 (le - do9)))))), (5, .int (nI (min 1 (le - do9)))), (0, .ref td), (1, .ref ba), (2, .ref (sa 9)), (3, .int (nI le))] := hl
        refine lv_goto hx hb d_q_TextReader_takePart_89 (tgt := 20) rfl ?_
        obtain ⟨m9, rfl⟩ : ∃ m9, n = m9 + 1 := ⟨n - 1, by omega⟩
        have hi9 : 10 * (min 1 (le - do9)) ≤ 3 * gsz 4 (min 1 (le - do9)) := gs_in4 hx9.1 hx9.2
        have hcur2 := (tpW_s (x := min 1 (le - do9)) (by omega) (Nat.min_comm ..) rfl hrm hlm).symm.trans hcur
        exact ih _ rfl (do9 + 1) (pl + (gsz 4 (min 1 (le - do9)))) (fd + (min 1 (le - do9))) (gpR rd fd (min 1 (le - do9)) 256 (nxL bt pl (gsz 4 (min 1 (le - do9)))) (min 1 (le - do9))) (by omega) (by omega) (by omega) (by omega) (by rw [show le - (do9 + 1) = le - do9 - (min 1 (le - do9)) by omega]; exact hcur2) ls H locs (lv_sub hl [3, 4, 5, 6, 0] rfl) hP hD hS
      · skip
        have hq := hcur.symm.trans (by obtain ⟨m9, rfl⟩ : ∃ m9, n = m9 + 1 := ⟨n - 1, by omega⟩; exact tpW_bad (x := min 1 (le - do9)) (by omega) (Nat.min_comm ..) rfl hrm hlm)
        refine lv_iload hx hb d_q_TextReader_takePart_52 (lv_at hl 0 rfl) ?_
        refine lv_iconst (v := (-1)) hx hb d_q_TextReader_takePart_54 (by decide) ?_
        refine lv_icmp_eq hx hb d_q_TextReader_takePart_55 (tgt := 69) rfl (fun g55 => absurd g55 (nI_ne1 (by omega))) (fun g55 => ?_)
        refine lv_iload hx hb d_q_TextReader_takePart_58 (lv_at hl 0 rfl) ?_
        refine lv_aload_n hx hb d_q_TextReader_takePart_60 rfl (lv_at hl 4 rfl) ?_
        refine lv_iload hx hb d_q_TextReader_takePart_61 (lv_at hl 1 rfl) ?_
        refine q_readVr (n := 1) (As := [.int (nI (min 1 (le - do9)))]) (rest := [.int (nI (nxL bt pl (gsz 4 (min 1 (le - do9)))))]) (wc := []) S (c_q_Kind_groupLimit_2 l D cI cC sa (min 1 (le - do9)) (by omega)) hSt hK hP (o_recv (ko_2 hSt) hS) [] rfl (q_goodV kw_690 kw_691 kw_692 kw_16 kw_693) (by decide +kernel) rfl rfl rfl ⟨Nat.le_trans (Nat.le_of_ble_eq_true rfl) hRf, Nat.le_trans (Nat.le_of_ble_eq_true rfl) hRl⟩ rfl hl.1 rfl (Nat.le_of_ble_eq_true rfl) d_q_TextReader_takePart_63 hRc hS (fun H locs hP hS => ?_)
        refine n_icmp_lt hx hb d_q_TextReader_takePart_66 (tgt := 71) rfl (by omega) (by omega) (fun g66 => absurd g66 (by omega)) (fun g66 => ?_)
        refine lv_iconst (v := nI 0) hx hb d_q_TextReader_takePart_69 (by decide) ?_
        rw [hq] at kr
        exact kr _ ls H locs d_q_TextReader_takePart_70 hP hD hS
  · skip
    have hq := hcur.symm.trans (tpW_z (by omega))
    refine lv_iload hx hb d_q_TextReader_takePart_20 (lv_at hl 4 rfl) ?_
    refine lv_iload_n hx hb d_q_TextReader_takePart_22 rfl (lv_at hl 3 rfl) ?_
    refine n_icmp_ge hx hb d_q_TextReader_takePart_23 (tgt := 92) rfl (by omega) (by omega) (fun g23 => ?_) (fun g23 => absurd g23 (by omega))
    refine lv_iconst (v := nI 1) hx hb d_q_TextReader_takePart_92 (by decide) ?_
    rw [hq] at kr
    exact kr _ ls H locs d_q_TextReader_takePart_93 hP hD hS
set_option maxHeartbeats 1000000 in
set_option maxRecDepth 100000 in
theorem bd_q_TextReader_takePart_2_ok (cI cC : ClassId) (sa : Nat → Nat) (td tq ct nx ba dt : Nat) (ch bt : Nat → Nat) (fi : Nat × Nat × Nat × (Nat → Nat)) (hdt : dt ≤ 19) (hbt : lt256 26 bt) (hyes : nx + 8 ≤ 8 * dt) (hinv : 10 * ct ≤ 3 * nx) (hfi : tpW bt 4 dt (nxL bt nx 8) (nxL bt nx 8) (nx + 8) ct ch = fi) (S : CallFix p m c b_q_TextReader_takePart 7 s args (cd_q_TextReader_takePart :: WS) R_TextReader) (hRf : 6 ≤ R.frames) (hRl : 131 ≤ R.locals) (hRc : cells ≤ R.cells ∧ slots ≤ R.slots) (hK : va_K D classes [(cI, .int), (cC, .char)] s) (hA : ∀ q, s.heap.size ≤ q → A q) (hSt : SB sa A s s.heap) (kr : ∀ (pc : Nat) (ls : Array Slot) (H : Heap) (locs : List Loc), decode b_q_TextReader_takePart pc = .ok (.ireturn, 1) → va_P D classes [(td, .inr (5, [.ref tq, .int (nI fi.2.2.1), .int (nI fi.2.1), .int (nI (8 * dt))])), (tq, .inl (cC, 64, .inl (fun j => nI (fi.2.2.2 j)))), (ba, .inl (cI, 26, .inl (fun j => nI (bt j))))] H → va_D A [(td, .inr (5, [.ref tq, .int (nI fi.2.2.1), .int (nI fi.2.1), .int (nI (8 * dt))])), (tq, .inl (cC, 64, .inl (fun j => nI (fi.2.2.2 j)))), (ba, .inl (cI, 26, .inl (fun j => nI (bt j))))] → va_S A s.heap H locs → W p l e R s m args below meth c H locs cells slots Q (F0 m pc ls [.int (nI fi.1)])) : ∀ (ls : Array Slot) (H : Heap) (locs : List Loc), lv_has ls 7 [(0, .ref td), (1, .ref ba), (2, .ref (sa 9))] → va_P D classes [(td, .inr (5, [.ref tq, .int (nI ct), .int (nI nx), .int (nI (8 * dt))])), (tq, .inl (cC, 64, .inl (fun j => nI (ch j)))), (ba, .inl (cI, 26, .inl (fun j => nI (bt j))))] H → va_D A [(td, .inr (5, [.ref tq, .int (nI ct), .int (nI nx), .int (nI (8 * dt))])), (tq, .inl (cC, 64, .inl (fun j => nI (ch j)))), (ba, .inl (cI, 26, .inl (fun j => nI (bt j))))] → va_S A s.heap H locs → W p l e R s m args below meth c H locs cells slots Q (F0 m 0 ls []) := by
  obtain ⟨hx, hb, hml, hown, hts⟩ := id S
  intro ls H locs hl hP hD hS
  have hlf : (nxL bt nx 8) < 2048 := Nat.lt_of_lt_of_le (nxL_lt hbt nx 8) (by decide)
  refine lv_aload_n hx hb d_q_TextReader_takePart_0 rfl (lv_at hl 0 rfl) ?_
  refine lv_aload_n hx hb d_q_TextReader_takePart_1 rfl (lv_at hl 1 rfl) ?_
  refine lv_aload_n hx hb d_q_TextReader_takePart_2 rfl (lv_at hl 2 rfl) ?_
  refine n_kgetN hx hb (kf_2_countBits hSt) hS hown hSt.2.1.1 d_q_TextReader_takePart_3 ?_
  refine q_writeVis (n := 2) (As := [.ref ba, .int (nI 8)]) (rest := []) (wc := [(td, .inr (5, [.ref tq, .int (nI ct), .int (nI nx), .int (nI (8 * dt))])), (ba, .inl (cI, 26, .inl (fun j => nI (bt j))))]) (wr := [(tq, .inl (cC, 64, .inl (fun j => nI (ch j))))]) (w1 := [(td, .inr (5, [.ref tq, .int (nI ct), .int (nI (nx + 8)), .int (nI (8 * dt))])), (ba, .inl (cI, 26, .inl (fun j => nI (bt j))))]) S (c_q_TextReader_take_ok l D cI cC sa td tq ct nx (8 * dt) ba 8 bt (by omega) (by decide) hyes hbt H.size) hSt hK hP hD hA (q0 := 0) rfl rfl [0, 2] [1] rfl rfl rfl rfl (by decide) rfl (q_goodV kw_676 kw_678 ks_17 kw_7 kw_679) (by decide +kernel) rfl rfl rfl ⟨Nat.le_trans (Nat.le_of_ble_eq_true rfl) hRf, Nat.le_trans (Nat.le_of_ble_eq_true rfl) hRl⟩ rfl hl.1 rfl (Nat.le_of_ble_eq_true rfl) d_q_TextReader_takePart_6 hRc hS (fun H locs hP hD hS => ?_)
  replace hP : va_P D classes [(td, .inr (5, [.ref tq, .int (nI ct), .int (nI (nx + 8)), .int (nI (8 * dt))])), (tq, .inl (cC, 64, .inl (fun j => nI (ch j)))), (ba, .inl (cI, 26, .inl (fun j => nI (bt j))))] H := hP.sub [1, 0, 2] rfl
  replace hD : va_D A [(td, .inr (5, [.ref tq, .int (nI ct), .int (nI (nx + 8)), .int (nI (8 * dt))])), (tq, .inl (cC, 64, .inl (fun j => nI (ch j)))), (ba, .inl (cI, 26, .inl (fun j => nI (bt j))))] := hD.sub [1, 0, 2] rfl rfl
  refine lv_istore_n hx hb d_q_TextReader_takePart_9 rfl hl (Nat.le_of_ble_eq_true rfl) rfl (fun ls hl => ?_)
  have hl : lv_has ls 7 [(3, .int (nI (nxL bt nx 8))), (0, .ref td), (1, .ref ba), (2, .ref (sa 9))] := hl
  refine lv_iload_n hx hb d_q_TextReader_takePart_10 rfl (lv_at hl 0 rfl) ?_
  refine lv_iconst (v := (-1)) hx hb d_q_TextReader_takePart_11 (by decide) ?_
  refine lv_icmp_ne hx hb d_q_TextReader_takePart_12 (tgt := 17) rfl (fun g12 => ?_) (fun g12 => absurd g12 (nI_ne1 (by omega)))
  refine lv_iconst (v := nI 0) hx hb d_q_TextReader_takePart_17 (by decide) ?_
  refine lv_istore hx hb d_q_TextReader_takePart_18 hl (Nat.le_of_ble_eq_true rfl) rfl (fun ls hl => ?_)
  have hl : lv_has ls 7 [(4, .int (nI 0)), (3, .int (nI (nxL bt nx 8))), (0, .ref td), (1, .ref ba), (2, .ref (sa 9))] := hl
  exact lw_q_TextReader_takePart_2_ok_20 cI cC sa td tq ct nx ba dt ch bt fi hdt hbt hyes hinv hfi S hRf hRl hRc hK hA hSt (nxL bt nx 8) hlf  kr (nxL bt nx 8) 0 (nx + 8) ct ch (by omega) (by omega) (by omega) (by omega) hfi ls H locs (lv_sub hl [2, 3, 4, 1, 0] rfl) hP hD hS
set_option maxHeartbeats 1000000 in
set_option maxRecDepth 100000 in
theorem c_q_TextReader_takePart_2_ok (l : Launch) (D : va_G) (cI cC : ClassId) (sa : Nat → Nat) (td tq ct nx ba dt : Nat) (ch bt : Nat → Nat) (fi : Nat × Nat × Nat × (Nat → Nat)) (hdt : dt ≤ 19) (hbt : lt256 26 bt) (hyes : nx + 8 ≤ 8 * dt) (hinv : 10 * ct ≤ 3 * nx) (hfi : tpW bt 4 dt (nxL bt nx 8) (nxL bt nx 8) (nx + 8) ct ch = fi) (sz : Nat) : Met l y_q_TextReader_takePart (cd_q_TextReader_takePart :: WS) { frames := 6, cells := 0, slots := 0, locals := 131 } (va_Pc [.ref td, .ref ba, .ref (sa 9)] (swP sa D [(td, .inr (5, [.ref tq, .int (nI ct), .int (nI nx), .int (nI (8 * dt))])), (tq, .inl (cC, 64, .inl (fun j => nI (ch j)))), (ba, .inl (cI, 26, .inl (fun j => nI (bt j))))] [(cI, .int), (cC, .char)] sz)) (wQi D (nI fi.1) [(td, .inr (5, [.ref tq, .int (nI ct), .int (nI nx), .int (nI (8 * dt))])), (tq, .inl (cC, 64, .inl (fun j => nI (ch j)))), (ba, .inl (cI, 26, .inl (fun j => nI (bt j))))] [(td, .inr (5, [.ref tq, .int (nI fi.2.2.1), .int (nI fi.2.1), .int (nI (8 * dt))])), (tq, .inl (cC, 64, .inl (fun j => nI (fi.2.2.2 j)))), (ba, .inl (cI, 26, .inl (fun j => nI (bt j))))] sz) 0 0 (va_A [(td, .inr (5, [.ref tq, .int (nI ct), .int (nI nx), .int (nI (8 * dt))])), (tq, .inl (cC, 64, .inl (fun j => nI (ch j)))), (ba, .inl (cI, 26, .inl (fun j => nI (bt j))))] sz) := by
  refine Met.ofW (cc := b_q_TextReader_takePart) (maxL := 7) (ret := (some .boolean)) (by decide) rfl ?_
  intro p e s m args below meth c s₁ B hml hv0
  obtain ⟨rfl, ⟨hP, hK, hD0, hsz⟩, hSt⟩ := hv0
  have hts := atoms_spec (ws := cd_q_TextReader_takePart :: WS) B.pre
  have hown : s.vm.findClass R_TextReader = some m.cls := findClass_of_methodNamed B.named
  have hlocks := B.notSynchronized
  subst hsz
  have hD := hD0.self (sz := s.heap.size)
  have hl := lv_entry ([.ref td, .ref ba, .ref (sa 9)]) (n := 7) (Nat.le_of_ble_eq_true rfl)
  rw [lg_entry_eq]
  generalize (lg_sl ([.ref td, .ref ba, .ref (sa 9)]) ++ List.replicate (7 - (lg_sl ([.ref td, .ref ba, .ref (sa 9)])).length) Slot.unset).toArray = ls at hl ⊢
  refine bd_q_TextReader_takePart_2_ok cI cC sa td tq ct nx ba dt ch bt fi hdt hbt hyes hinv hfi ⟨B.exec, B.bytes, hml, hown, hts⟩ (Nat.le_refl _) (Nat.le_refl _) ⟨Nat.le_refl _, Nat.le_refl _⟩ hK (fun q h => Or.inr h) hSt (fun pc ls H locs hd hP hD hS => ?_) ls _ _ hl hP hD (va_S.rf)
  exact W.zret B.exec B.bytes B.returns (by rw [← hfi]; exact le1_fit (tpW_le _ _ _ _ _ _ _ _)) (fun t ht _ => ⟨⟨_, (), rfl, rfl, (by have h9 := hP; rw [← ht] at h9; exact h9)⟩, hS.F ht⟩) hS.2.2 hd
end
