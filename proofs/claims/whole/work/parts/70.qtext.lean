theorem kw_139 : (Jvm.Cond.fieldLink "SquareCodes$TextWriter" (25 : Nat) "SquareCodes$TextWriter" "used" "I") ∈ WS := WS_tbl 139 (by decide +kernel) rfl
theorem kw_150 : (Jvm.Cond.fieldLink "SquareCodes$TextReader" (15 : Nat) "SquareCodes$TextReader" "count" "I") ∈ WS := WS_tbl 150 (by decide +kernel) rfl
theorem kw_152 : (Jvm.Cond.fieldLink "SquareCodes$TextReader" (22 : Nat) "SquareCodes$TextReader" "end" "I") ∈ WS := WS_tbl 152 (by decide +kernel) rfl
theorem kw_151 : (Jvm.Cond.fieldLink "SquareCodes$TextReader" (19 : Nat) "SquareCodes$TextReader" "next" "I") ∈ WS := WS_tbl 151 (by decide +kernel) rfl
theorem kw_149 : (Jvm.Cond.fieldLink "SquareCodes$TextReader" (9 : Nat) "SquareCodes$TextReader" "characters" "[C") ∈ WS := WS_tbl 149 (by decide +kernel) rfl
theorem kw_698 : (Jvm.Cond.methodLink "SquareCodes$TextReader" (68 : Nat) ({ cls := "SquareCodes$Kind", name := "characterOf", desc := "(I)C" } : Jvm.MethodName)) ∈ WS := WS_tbl 698 (by decide +kernel) rfl
theorem kw_699 : (Jvm.Cond.instanceMethod ({ cls := "SquareCodes$Kind", name := "characterOf", desc := "(I)C" } : Jvm.MethodName)) ∈ WS := WS_tbl 699 (by decide +kernel) rfl
theorem kw_700 : (Jvm.Cond.selects "SquareCodes$Kind" ({ cls := "SquareCodes$Kind", name := "characterOf", desc := "(I)C" } : Jvm.MethodName) ({ cls := "SquareCodes$Kind", name := "characterOf", desc := "(I)C" } : Jvm.MethodName)) ∈ WS := WS_tbl 700 (by decide +kernel) rfl
set_option maxRecDepth 1000000 in
theorem kw_701 : cd_q_Kind_characterOf ∈ WS := WS_tbl 701 rfl rfl
theorem kw_688 : (Jvm.Cond.methodLink "SquareCodes$TextReader" (45 : Nat) ({ cls := "java/lang/Math", name := "min", desc := "(II)I" } : Jvm.MethodName)) ∈ WS := WS_tbl 688 (by decide +kernel) rfl
section
theorem d_q_TextWriter_put_0 : decode b_q_TextWriter_put 0 = .ok (.iload_n 3, 1) := by decide +kernel
theorem d_q_TextWriter_put_1 : decode b_q_TextWriter_put 1 = .ok (.iconst 1, 1) := by decide +kernel
theorem d_q_TextWriter_put_2 : decode b_q_TextWriter_put 2 = .ok (.isub, 1) := by decide +kernel
theorem d_q_TextWriter_put_3 : decode b_q_TextWriter_put 3 = .ok (.istore 4, 2) := by decide +kernel
theorem d_q_TextWriter_put_5 : decode b_q_TextWriter_put 5 = .ok (.iload 4, 2) := by decide +kernel
theorem d_q_TextWriter_put_7 : decode b_q_TextWriter_put 7 = .ok (.ifCond .lt 47, 3) := by decide +kernel
theorem d_q_TextWriter_put_10 : decode b_q_TextWriter_put 10 = .ok (.aload_n 1, 1) := by decide +kernel
theorem d_q_TextWriter_put_11 : decode b_q_TextWriter_put 11 = .ok (.aload_n 0, 1) := by decide +kernel
theorem d_q_TextWriter_put_12 : decode b_q_TextWriter_put 12 = .ok (.getfield 25, 3) := by decide +kernel
theorem d_q_TextWriter_put_15 : decode b_q_TextWriter_put 15 = .ok (.iconst 3, 1) := by decide +kernel
theorem d_q_TextWriter_put_16 : decode b_q_TextWriter_put 16 = .ok (.ishr, 1) := by decide +kernel
theorem d_q_TextWriter_put_17 : decode b_q_TextWriter_put 17 = .ok (.dup2, 1) := by decide +kernel
theorem d_q_TextWriter_put_18 : decode b_q_TextWriter_put 18 = .ok (.iaload, 1) := by decide +kernel
theorem d_q_TextWriter_put_19 : decode b_q_TextWriter_put 19 = .ok (.iload_n 2, 1) := by decide +kernel
theorem d_q_TextWriter_put_20 : decode b_q_TextWriter_put 20 = .ok (.iload 4, 2) := by decide +kernel
theorem d_q_TextWriter_put_22 : decode b_q_TextWriter_put 22 = .ok (.ishr, 1) := by decide +kernel
theorem d_q_TextWriter_put_23 : decode b_q_TextWriter_put 23 = .ok (.iconst 1, 1) := by decide +kernel
theorem d_q_TextWriter_put_24 : decode b_q_TextWriter_put 24 = .ok (.iand, 1) := by decide +kernel
theorem d_q_TextWriter_put_25 : decode b_q_TextWriter_put 25 = .ok (.bipush 7, 2) := by decide +kernel
theorem d_q_TextWriter_put_27 : decode b_q_TextWriter_put 27 = .ok (.aload_n 0, 1) := by decide +kernel
theorem d_q_TextWriter_put_28 : decode b_q_TextWriter_put 28 = .ok (.getfield 25, 3) := by decide +kernel
theorem d_q_TextWriter_put_31 : decode b_q_TextWriter_put 31 = .ok (.bipush 7, 2) := by decide +kernel
theorem d_q_TextWriter_put_33 : decode b_q_TextWriter_put 33 = .ok (.iand, 1) := by decide +kernel
theorem d_q_TextWriter_put_34 : decode b_q_TextWriter_put 34 = .ok (.isub, 1) := by decide +kernel
theorem d_q_TextWriter_put_35 : decode b_q_TextWriter_put 35 = .ok (.ishl, 1) := by decide +kernel
theorem d_q_TextWriter_put_36 : decode b_q_TextWriter_put 36 = .ok (.ior, 1) := by decide +kernel
theorem d_q_TextWriter_put_37 : decode b_q_TextWriter_put 37 = .ok (.iastore, 1) := by decide +kernel
theorem d_q_TextWriter_put_38 : decode b_q_TextWriter_put 38 = .ok (.aload_n 0, 1) := by decide +kernel
theorem d_q_TextWriter_put_39 : decode b_q_TextWriter_put 39 = .ok (.dup, 1) := by decide +kernel
theorem d_q_TextWriter_put_40 : decode b_q_TextWriter_put 40 = .ok (.getfield 25, 3) := by decide +kernel
theorem d_q_TextWriter_put_43 : decode b_q_TextWriter_put 43 = .ok (.iconst 1, 1) := by decide +kernel
theorem d_q_TextWriter_put_44 : decode b_q_TextWriter_put 44 = .ok (.iadd, 1) := by decide +kernel
theorem d_q_TextWriter_put_45 : decode b_q_TextWriter_put 45 = .ok (.putfield 25, 3) := by decide +kernel
theorem d_q_TextWriter_put_48 : decode b_q_TextWriter_put 48 = .ok (.iinc 4 (-1), 3) := by decide +kernel
theorem d_q_TextWriter_put_51 : decode b_q_TextWriter_put 51 = .ok (.goto (-46), 3) := by decide +kernel
theorem d_q_TextWriter_put_54 : decode b_q_TextWriter_put 54 = .ok (.return_, 1) := by decide +kernel
end
section
variable {p : Program} {l : Launch} {e : Env} {R : Room} {s : State} {m : MethodId} {args : Array Value} {below : List Frame} {meth : Method} {c : Code} {cells slots : Nat} {Q : State → Prop} {A : Nat → Prop} {H0 : Heap} {D : va_G}
set_option maxHeartbeats 1000000 in
set_option maxRecDepth 100000 in
theorem lp_q_TextWriter_put_5 (cI cC : ClassId) (tw us ba v n : Nat) (bt : Nat → Nat) (hv : v < 65536) (hn0 : n ≤ 16) (hm : us + n ≤ 208) (S : CallFix p m c b_q_TextWriter_put 5 s args (cd_q_TextWriter_put :: WS) R_TextWriter) (hRf : 0 ≤ R.frames) (hRl : 0 ≤ R.locals) (hRc : cells ≤ R.cells ∧ slots ≤ R.slots) (hK : va_K D classes [(cI, .int), (cC, .char)] s) (hA : ∀ q, H0.size ≤ q → A q) (kx : ∀ (ls : Array Slot) (H : Heap) (locs : List Loc), lv_has ls 5 [(0, .ref tw), (1, .ref ba), (2, .int (nI v)), (3, .int (nI n)), (4, .int (-1))] → va_P D classes [(tw, .inr (6, [.int (nI (us + n))])), (ba, .inl (cI, 26, .inl (fun j => nI ((ptC bt us v n n) j))))] H → va_D A [(tw, .inr (6, [.int (nI (us + n))])), (ba, .inl (cI, 26, .inl (fun j => nI ((ptC bt us v n n) j))))] → va_S A H0 H locs → W p l e R s m args below meth c H locs cells slots Q (F0 m 54 ls [])) :
    ∀ i, i ≤ n → ∀ (ls : Array Slot) (H : Heap) (locs : List Loc), lv_has ls 5 [(0, .ref tw), (1, .ref ba), (2, .int (nI v)), (3, .int (nI n)), (4, .int (nI (n - i) - 1))] → va_P D classes [(tw, .inr (6, [.int (nI (us + i))])), (ba, .inl (cI, 26, .inl (fun j => nI ((ptC bt us v n i) j))))] H → va_D A [(tw, .inr (6, [.int (nI (us + i))])), (ba, .inl (cI, 26, .inl (fun j => nI ((ptC bt us v n i) j))))] → va_S A H0 H locs → W p l e R s m args below meth c H locs cells slots Q (F0 m 5 ls []) := by
  obtain ⟨hx, hb, hml, hown, hts⟩ := id S
  refine up_loop (fun i hki ih => ?_)
  intro ls H locs hl hP hD hS
  rcases Nat.lt_or_ge i n with hdn | hdn
  · skip
    have hl : lv_has ls 5 [(0, .ref tw), (1, .ref ba), (2, .int (nI v)), (3, .int (nI n)), (4, .int (nI (n - (i + 1))))] := lv_re hl (by rw [nx_dn hdn])
    refine lv_iload hx hb d_q_TextWriter_put_5 (lv_at hl 4 rfl) ?_
    refine n_if_lt hx hb d_q_TextWriter_put_7 (tgt := 54) rfl (by omega) ?_
    refine lv_aload_n hx hb d_q_TextWriter_put_10 rfl (lv_at hl 1 rfl) ?_
    refine lv_aload_n hx hb d_q_TextWriter_put_11 rfl (lv_at hl 0 rfl) ?_
    refine n_get (C := R_TextWriter) (T := F_TextWriter) (N := 1) (v := .int (nI (us + i))) hx hb hts u_TextWriter_in hown hK hP 0 rfl rfl 0 (by decide) kw_139 rfl d_q_TextWriter_put_12 ?_
    refine lv_iconst (v := nI 3) hx hb d_q_TextWriter_put_15 (by decide) ?_
    refine n_ishr hx hb d_q_TextWriter_put_16 (by omega) (by omega) ?_
    refine lv_dup2_11 hx hb d_q_TextWriter_put_17 rfl rfl ?_
    refine n_iald hx hb hK hP 1 0 rfl rfl (by omega) (by decide) d_q_TextWriter_put_18 ?_
    refine lv_iload_n hx hb d_q_TextWriter_put_19 rfl (lv_at hl 2 rfl) ?_
    refine lv_iload hx hb d_q_TextWriter_put_20 (lv_at hl 4 rfl) ?_
    refine n_ishr hx hb d_q_TextWriter_put_22 (by omega) (by omega) ?_
    refine lv_iconst (v := nI 1) hx hb d_q_TextWriter_put_23 (by decide) ?_
    refine n_and1 hx hb d_q_TextWriter_put_24 ?_
    refine lv_bipush (v := nI 7) hx hb d_q_TextWriter_put_25 (by decide) ?_
    refine lv_aload_n hx hb d_q_TextWriter_put_27 rfl (lv_at hl 0 rfl) ?_
    refine n_get (C := R_TextWriter) (T := F_TextWriter) (N := 1) (v := .int (nI (us + i))) hx hb hts u_TextWriter_in hown hK hP 0 rfl rfl 0 (by decide) kw_139 rfl d_q_TextWriter_put_28 ?_
    refine lv_bipush (v := nI 7) hx hb d_q_TextWriter_put_31 (by decide) ?_
    refine n_iand hx hb d_q_TextWriter_put_33 ?_
    refine n_topn (show (us + i) &&& 7 = (us + i) % 8 from (Nat.and_two_pow_sub_one_eq_mod _ 3)) ?_
    refine n_isub hx hb d_q_TextWriter_put_34 (by omega) ?_
    refine n_ishl hx hb d_q_TextWriter_put_35 (by omega) ?_
    refine n_ior hx hb d_q_TextWriter_put_36 ?_
    refine n_iast hx hb hK hP hD hS 1 0 rfl rfl (by omega) (by decide) d_q_TextWriter_put_37 (fun H locs hP hD hS => ?_)
    have hP : va_P D classes [(tw, .inr (6, [.int (nI (us + i))])), (ba, .inl (cI, 26, .inl (fun j => nI ((va_up (ptC bt us v n i) ((us + i) / 2 ^ 3) (((ptC bt us v n i) ((us + i) / 2 ^ 3)) ||| (((v / 2 ^ (n - (i + 1))) % 2) * 2 ^ (7 - ((us + i) % 8))))) j))))] H := hP
    have hD : va_D A [(tw, .inr (6, [.int (nI (us + i))])), (ba, .inl (cI, 26, .inl (fun j => nI ((va_up (ptC bt us v n i) ((us + i) / 2 ^ 3) (((ptC bt us v n i) ((us + i) / 2 ^ 3)) ||| (((v / 2 ^ (n - (i + 1))) % 2) * 2 ^ (7 - ((us + i) % 8))))) j))))] := hD
    rw [show va_up (ptC bt us v n i) ((us + i) / 2 ^ 3) (((ptC bt us v n i) ((us + i) / 2 ^ 3)) ||| (((v / 2 ^ (n - (i + 1))) % 2) * 2 ^ (7 - ((us + i) % 8)))) = ptC bt us v n (i + 1) from rfl] at hP hD
    refine lv_aload_n hx hb d_q_TextWriter_put_38 rfl (lv_at hl 0 rfl) ?_
    refine lv_dup hx hb d_q_TextWriter_put_39 rfl ?_
    refine n_get (C := R_TextWriter) (T := F_TextWriter) (N := 1) (v := .int (nI (us + i))) hx hb hts u_TextWriter_in hown hK hP 0 rfl rfl 0 (by decide) kw_139 rfl d_q_TextWriter_put_40 ?_
    refine lv_iconst (v := nI 1) hx hb d_q_TextWriter_put_43 (by decide) ?_
    refine n_iadd hx hb d_q_TextWriter_put_44 ?_
    refine n_put (C := R_TextWriter) (T := F_TextWriter) (N := 1) (v := .int (nI ((us + i) + 1))) hx hb hts u_TextWriter_in t_TextWriter t_TextWriter_ok n_TextWriter hown hK hP hD hS 0 rfl rfl 0 (by decide) kw_139 rfl rfl rfl (Nat.le_of_ble_eq_true rfl) d_q_TextWriter_put_45 (fun H locs hP hD hS => ?_)
    have hP : va_P D classes [(tw, .inr (6, [.int (nI ((us + i) + 1))])), (ba, .inl (cI, 26, .inl (fun j => nI ((ptC bt us v n (i + 1)) j))))] H := hP
    have hD : va_D A [(tw, .inr (6, [.int (nI ((us + i) + 1))])), (ba, .inl (cI, 26, .inl (fun j => nI ((ptC bt us v n (i + 1)) j))))] := hD
    refine lv_iinc (k := 4) (v := nI (n - (i + 1)) - 1) hx hb d_q_TextWriter_put_48 hl rfl (nx_dec (n - (i + 1))) (Nat.le_of_ble_eq_true rfl) rfl (fun ls hl => ?_)
    have hl : lv_has ls 5 [(4, .int (nI (n - (i + 1)) - 1)), (0, .ref tw), (1, .ref ba), (2, .int (nI v)), (3, .int (nI n))] := hl
    refine lv_goto hx hb d_q_TextWriter_put_51 (tgt := 5) rfl ?_
    exact ih (by omega) ls H locs (lv_sub hl [1, 2, 3, 4, 0] rfl) hP hD hS
  · skip
    have e9 : i = n := by omega
    have hl : lv_has ls 5 [(0, .ref tw), (1, .ref ba), (2, .int (nI v)), (3, .int (nI n)), (4, .int (-1))] := lv_re hl (by rw [e9, nx_dn0])
    rw [e9] at hP hD
    refine lv_iload hx hb d_q_TextWriter_put_5 (lv_at hl 4 rfl) ?_
    refine n_dn_lt hx hb d_q_TextWriter_put_7 (tgt := 54) rfl ?_
    exact kx ls H locs (lv_sub hl [0, 1, 2, 3, 4] rfl) hP hD hS
set_option maxHeartbeats 1000000 in
set_option maxRecDepth 100000 in
theorem bd_q_TextWriter_put (cI cC : ClassId) (tw us ba v n : Nat) (bt : Nat → Nat) (hv : v < 65536) (hn0 : n ≤ 16) (hm : us + n ≤ 208) (S : CallFix p m c b_q_TextWriter_put 5 s args (cd_q_TextWriter_put :: WS) R_TextWriter) (hRf : 0 ≤ R.frames) (hRl : 0 ≤ R.locals) (hRc : cells ≤ R.cells ∧ slots ≤ R.slots) (hK : va_K D classes [(cI, .int), (cC, .char)] s) (hA : ∀ q, H0.size ≤ q → A q) (kr : ∀ (pc : Nat) (ls : Array Slot) (H : Heap) (locs : List Loc), decode b_q_TextWriter_put pc = .ok (.return_, 1) → va_P D classes [(tw, .inr (6, [.int (nI (us + n))])), (ba, .inl (cI, 26, .inl (fun j => nI ((ptC bt us v n n) j))))] H → va_D A [(tw, .inr (6, [.int (nI (us + n))])), (ba, .inl (cI, 26, .inl (fun j => nI ((ptC bt us v n n) j))))] → va_S A H0 H locs → W p l e R s m args below meth c H locs cells slots Q (F0 m pc ls [])) : ∀ (ls : Array Slot) (H : Heap) (locs : List Loc), lv_has ls 5 [(0, .ref tw), (1, .ref ba), (2, .int (nI v)), (3, .int (nI n))] → va_P D classes [(tw, .inr (6, [.int (nI us)])), (ba, .inl (cI, 26, .inl (fun j => nI (bt j))))] H → va_D A [(tw, .inr (6, [.int (nI us)])), (ba, .inl (cI, 26, .inl (fun j => nI (bt j))))] → va_S A H0 H locs → W p l e R s m args below meth c H locs cells slots Q (F0 m 0 ls []) := by
  obtain ⟨hx, hb, hml, hown, hts⟩ := id S
  intro ls H locs hl hP hD hS
  refine lv_iload_n hx hb d_q_TextWriter_put_0 rfl (lv_at hl 3 rfl) ?_
  refine lv_iconst (v := nI 1) hx hb d_q_TextWriter_put_1 (by decide) ?_
  refine lv_isub hx hb d_q_TextWriter_put_2 ?_
  refine n_top (show nI n - nI 1 = nI (n - 0) - 1 from nx_sub1 _) ?_
  refine lv_istore hx hb d_q_TextWriter_put_3 hl (Nat.le_of_ble_eq_true rfl) rfl (fun ls hl => ?_)
  have hl : lv_has ls 5 [(4, .int (nI (n - 0) - 1)), (0, .ref tw), (1, .ref ba), (2, .int (nI v)), (3, .int (nI n))] := hl
  refine lp_q_TextWriter_put_5 cI cC tw us ba v n bt hv hn0 hm S hRf hRl hRc hK hA  (fun ls H locs hl hP hD hS => ?_) 0 (by omega) ls H locs (lv_sub hl [1, 2, 3, 4, 0] rfl) hP hD hS
  exact kr _ ls H locs d_q_TextWriter_put_54 hP hD hS
set_option maxHeartbeats 1000000 in
set_option maxRecDepth 100000 in
theorem c_q_TextWriter_put (l : Launch) (D : va_G) (cI cC : ClassId) (tw us ba v n : Nat) (bt : Nat → Nat) (hv : v < 65536) (hn0 : n ≤ 16) (hm : us + n ≤ 208) (sz : Nat) : Met l y_q_TextWriter_put (cd_q_TextWriter_put :: WS) { frames := 0, cells := 0, slots := 0, locals := 0 } (va_Pc [.ref tw, .ref ba, .int (nI v), .int (nI n)] (wP D [(tw, .inr (6, [.int (nI us)])), (ba, .inl (cI, 26, .inl (fun j => nI (bt j))))] [(cI, .int), (cC, .char)] sz)) (wQv D [(tw, .inr (6, [.int (nI us)])), (ba, .inl (cI, 26, .inl (fun j => nI (bt j))))] [(tw, .inr (6, [.int (nI (us + n))])), (ba, .inl (cI, 26, .inl (fun j => nI ((ptC bt us v n n) j))))] sz) 0 0 (va_A [(tw, .inr (6, [.int (nI us)])), (ba, .inl (cI, 26, .inl (fun j => nI (bt j))))] sz) := by
  refine Met.ofW (cc := b_q_TextWriter_put) (maxL := 5) (ret := none) (by decide) rfl ?_
  intro p e s m args below meth c s₁ B hml hv0
  obtain ⟨rfl, hP, hK, hD0, hsz⟩ := hv0
  have hts := atoms_spec (ws := cd_q_TextWriter_put :: WS) B.pre
  have hown : s.vm.findClass R_TextWriter = some m.cls := findClass_of_methodNamed B.named
  have hlocks := B.notSynchronized
  subst hsz
  have hD := hD0.self (sz := s.heap.size)
  have hl := lv_entry ([.ref tw, .ref ba, .int (nI v), .int (nI n)]) (n := 5) (Nat.le_of_ble_eq_true rfl)
  rw [lg_entry_eq]
  generalize (lg_sl ([.ref tw, .ref ba, .int (nI v), .int (nI n)]) ++ List.replicate (5 - (lg_sl ([.ref tw, .ref ba, .int (nI v), .int (nI n)])).length) Slot.unset).toArray = ls at hl ⊢
  refine bd_q_TextWriter_put cI cC tw us ba v n bt hv hn0 hm ⟨B.exec, B.bytes, hml, hown, hts⟩ (Nat.le_refl _) (Nat.le_refl _) ⟨Nat.le_refl _, Nat.le_refl _⟩ hK (fun q h => Or.inr h) (fun pc ls H locs hd hP hD hS => ?_) ls _ _ hl hP hD (va_S.rf)
  exact W.vret B.exec B.bytes B.returns (fun t ht _ => ⟨⟨(), rfl, trivial, (by have h9 := hP; rw [← ht] at h9; exact h9)⟩, hS.F ht⟩) hS.2.2 hd
end
section
theorem d_q_TextWriter_fillRest_0 : decode b_q_TextWriter_fillRest 0 = .ok (.iload_n 1, 1) := by decide +kernel
theorem d_q_TextWriter_fillRest_1 : decode b_q_TextWriter_fillRest 1 = .ok (.istore_n 3, 1) := by decide +kernel
theorem d_q_TextWriter_fillRest_2 : decode b_q_TextWriter_fillRest 2 = .ok (.iload_n 3, 1) := by decide +kernel
theorem d_q_TextWriter_fillRest_3 : decode b_q_TextWriter_fillRest 3 = .ok (.iload_n 2, 1) := by decide +kernel
theorem d_q_TextWriter_fillRest_4 : decode b_q_TextWriter_fillRest 4 = .ok (.if_icmp .ge 28, 3) := by decide +kernel
theorem d_q_TextWriter_fillRest_7 : decode b_q_TextWriter_fillRest 7 = .ok (.aload_n 0, 1) := by decide +kernel
theorem d_q_TextWriter_fillRest_8 : decode b_q_TextWriter_fillRest 8 = .ok (.iload_n 3, 1) := by decide +kernel
theorem d_q_TextWriter_fillRest_9 : decode b_q_TextWriter_fillRest 9 = .ok (.iload_n 3, 1) := by decide +kernel
theorem d_q_TextWriter_fillRest_10 : decode b_q_TextWriter_fillRest 10 = .ok (.iload_n 1, 1) := by decide +kernel
theorem d_q_TextWriter_fillRest_11 : decode b_q_TextWriter_fillRest 11 = .ok (.isub, 1) := by decide +kernel
theorem d_q_TextWriter_fillRest_12 : decode b_q_TextWriter_fillRest 12 = .ok (.iconst 2, 1) := by decide +kernel
theorem d_q_TextWriter_fillRest_13 : decode b_q_TextWriter_fillRest 13 = .ok (.irem, 1) := by decide +kernel
theorem d_q_TextWriter_fillRest_14 : decode b_q_TextWriter_fillRest 14 = .ok (.ifCond .ne 9, 3) := by decide +kernel
theorem d_q_TextWriter_fillRest_17 : decode b_q_TextWriter_fillRest 17 = .ok (.sipush 236, 3) := by decide +kernel
theorem d_q_TextWriter_fillRest_20 : decode b_q_TextWriter_fillRest 20 = .ok (.goto 5, 3) := by decide +kernel
theorem d_q_TextWriter_fillRest_23 : decode b_q_TextWriter_fillRest 23 = .ok (.bipush 17, 2) := by decide +kernel
theorem d_q_TextWriter_fillRest_25 : decode b_q_TextWriter_fillRest 25 = .ok (.iastore, 1) := by decide +kernel
theorem d_q_TextWriter_fillRest_26 : decode b_q_TextWriter_fillRest 26 = .ok (.iinc 3 1, 3) := by decide +kernel
theorem d_q_TextWriter_fillRest_29 : decode b_q_TextWriter_fillRest 29 = .ok (.goto (-27), 3) := by decide +kernel
theorem d_q_TextWriter_fillRest_32 : decode b_q_TextWriter_fillRest 32 = .ok (.return_, 1) := by decide +kernel
end
section
variable {p : Program} {l : Launch} {e : Env} {R : Room} {s : State} {m : MethodId} {args : Array Value} {below : List Frame} {meth : Method} {c : Code} {cells slots : Nat} {Q : State → Prop} {A : Nat → Prop} {H0 : Heap} {D : va_G}
set_option maxHeartbeats 1000000 in
set_option maxRecDepth 100000 in
theorem lp_q_TextWriter_fillRest_2 (cI cC : ClassId) (ba x dt : Nat) (bt : Nat → Nat) (hx0 : x ≤ dt) (hd0 : dt ≤ 26) (S : CallFix p m c b_q_TextWriter_fillRest 4 s args (cd_q_TextWriter_fillRest :: WS) R_TextWriter) (hRf : 0 ≤ R.frames) (hRl : 0 ≤ R.locals) (hRc : cells ≤ R.cells ∧ slots ≤ R.slots) (hK : va_K D classes [(cI, .int), (cC, .char)] s) (hA : ∀ q, H0.size ≤ q → A q) (kx : ∀ (ls : Array Slot) (H : Heap) (locs : List Loc), lv_has ls 4 [(0, .ref ba), (1, .int (nI x)), (2, .int (nI dt)), (3, .int (nI (x + (dt - x))))] → va_P D classes [(ba, .inl (cI, 26, .inl (fun j => nI ((frL bt x (dt - x)) j))))] H → va_D A [(ba, .inl (cI, 26, .inl (fun j => nI ((frL bt x (dt - x)) j))))] → va_S A H0 H locs → W p l e R s m args below meth c H locs cells slots Q (F0 m 32 ls [])) :
    ∀ i, i ≤ dt - x → ∀ (ls : Array Slot) (H : Heap) (locs : List Loc), lv_has ls 4 [(0, .ref ba), (1, .int (nI x)), (2, .int (nI dt)), (3, .int (nI (x + i)))] → va_P D classes [(ba, .inl (cI, 26, .inl (fun j => nI ((frL bt x i) j))))] H → va_D A [(ba, .inl (cI, 26, .inl (fun j => nI ((frL bt x i) j))))] → va_S A H0 H locs → W p l e R s m args below meth c H locs cells slots Q (F0 m 2 ls []) := by
  obtain ⟨hx, hb, hml, hown, hts⟩ := id S
  refine up_loop (fun i hki ih => ?_)
  intro ls H locs hl hP hD hS
  refine lv_iload_n hx hb d_q_TextWriter_fillRest_2 rfl (lv_at hl 3 rfl) ?_
  refine lv_iload_n hx hb d_q_TextWriter_fillRest_3 rfl (lv_at hl 2 rfl) ?_
  refine n_icmp_ge hx hb d_q_TextWriter_fillRest_4 (tgt := 32) rfl (by omega) (by omega) (fun g4 => ?_) (fun g4 => ?_)
  · skip
    obtain rfl : i = dt - x := by omega
    exact kx ls H locs (lv_sub hl [0, 1, 2, 3] rfl) hP hD hS
  · skip
    refine lv_aload_n hx hb d_q_TextWriter_fillRest_7 rfl (lv_at hl 0 rfl) ?_
    refine lv_iload_n hx hb d_q_TextWriter_fillRest_8 rfl (lv_at hl 3 rfl) ?_
    refine lv_iload_n hx hb d_q_TextWriter_fillRest_9 rfl (lv_at hl 3 rfl) ?_
    refine lv_iload_n hx hb d_q_TextWriter_fillRest_10 rfl (lv_at hl 1 rfl) ?_
    refine n_isub hx hb d_q_TextWriter_fillRest_11 (by omega) ?_
    refine lv_iconst (v := nI 2) hx hb d_q_TextWriter_fillRest_12 (by decide) ?_
    refine n_irem hx hb d_q_TextWriter_fillRest_13 (by omega) (by omega) (by omega) ?_
    refine n_if_ne hx hb d_q_TextWriter_fillRest_14 (tgt := 23) rfl (by omega) (fun g14 => ?_) (fun g14 => ?_)
    · skip
      refine lv_bipush (v := nI 17) hx hb d_q_TextWriter_fillRest_23 (by decide) ?_
      refine n_iast hx hb hK hP hD hS 0 0 rfl rfl (by omega) (by decide) d_q_TextWriter_fillRest_25 (fun H locs hP hD hS => ?_)
      have hP : va_P D classes [(ba, .inl (cI, 26, .inl (fun j => nI ((va_up (frL bt x i) (x + i) 17) j))))] H := hP
      have hD : va_D A [(ba, .inl (cI, 26, .inl (fun j => nI ((va_up (frL bt x i) (x + i) 17) j))))] := hD
      refine lv_iinc (k := 3) (v := nI (x + (i + 1))) hx hb d_q_TextWriter_fillRest_26 hl rfl ((nx_inc (x + i) 1).trans (congrArg nI rfl)) (Nat.le_of_ble_eq_true rfl) rfl (fun ls hl => ?_)
      have hl : lv_has ls 4 [(3, .int (nI (x + (i + 1)))), (0, .ref ba), (1, .int (nI x)), (2, .int (nI dt))] := hl
      refine lv_goto hx hb d_q_TextWriter_fillRest_29 (tgt := 2) rfl ?_
      rw [show va_up (frL bt x i) (x + i) 17 = frL bt x (i + 1) from (by show va_up _ _ _ = va_up _ _ _; first | rw [if_pos (by omega)] | rw [if_neg (by omega)])] at hP hD
      exact ih (by omega) ls H locs (lv_sub hl [1, 2, 3, 0] rfl) hP hD hS
    · skip
      refine lv_sipush (v := nI 236) hx hb d_q_TextWriter_fillRest_17 (by decide) ?_
      refine lv_goto hx hb d_q_TextWriter_fillRest_20 (tgt := 25) rfl ?_
      refine n_iast hx hb hK hP hD hS 0 0 rfl rfl (by omega) (by decide) d_q_TextWriter_fillRest_25 (fun H locs hP hD hS => ?_)
      have hP : va_P D classes [(ba, .inl (cI, 26, .inl (fun j => nI ((va_up (frL bt x i) (x + i) 236) j))))] H := hP
      have hD : va_D A [(ba, .inl (cI, 26, .inl (fun j => nI ((va_up (frL bt x i) (x + i) 236) j))))] := hD
      refine lv_iinc (k := 3) (v := nI (x + (i + 1))) hx hb d_q_TextWriter_fillRest_26 hl rfl ((nx_inc (x + i) 1).trans (congrArg nI rfl)) (Nat.le_of_ble_eq_true rfl) rfl (fun ls hl => ?_)
      have hl : lv_has ls 4 [(3, .int (nI (x + (i + 1)))), (0, .ref ba), (1, .int (nI x)), (2, .int (nI dt))] := hl
      refine lv_goto hx hb d_q_TextWriter_fillRest_29 (tgt := 2) rfl ?_
      rw [show va_up (frL bt x i) (x + i) 236 = frL bt x (i + 1) from (by show va_up _ _ _ = va_up _ _ _; first | rw [if_pos (by omega)] | rw [if_neg (by omega)])] at hP hD
      exact ih (by omega) ls H locs (lv_sub hl [1, 2, 3, 0] rfl) hP hD hS
set_option maxHeartbeats 1000000 in
set_option maxRecDepth 100000 in
theorem bd_q_TextWriter_fillRest (cI cC : ClassId) (ba x dt : Nat) (bt : Nat → Nat) (hx0 : x ≤ dt) (hd0 : dt ≤ 26) (S : CallFix p m c b_q_TextWriter_fillRest 4 s args (cd_q_TextWriter_fillRest :: WS) R_TextWriter) (hRf : 0 ≤ R.frames) (hRl : 0 ≤ R.locals) (hRc : cells ≤ R.cells ∧ slots ≤ R.slots) (hK : va_K D classes [(cI, .int), (cC, .char)] s) (hA : ∀ q, H0.size ≤ q → A q) (kr : ∀ (pc : Nat) (ls : Array Slot) (H : Heap) (locs : List Loc), decode b_q_TextWriter_fillRest pc = .ok (.return_, 1) → va_P D classes [(ba, .inl (cI, 26, .inl (fun j => nI ((frL bt x (dt - x)) j))))] H → va_D A [(ba, .inl (cI, 26, .inl (fun j => nI ((frL bt x (dt - x)) j))))] → va_S A H0 H locs → W p l e R s m args below meth c H locs cells slots Q (F0 m pc ls [])) : ∀ (ls : Array Slot) (H : Heap) (locs : List Loc), lv_has ls 4 [(0, .ref ba), (1, .int (nI x)), (2, .int (nI dt))] → va_P D classes [(ba, .inl (cI, 26, .inl (fun j => nI (bt j))))] H → va_D A [(ba, .inl (cI, 26, .inl (fun j => nI (bt j))))] → va_S A H0 H locs → W p l e R s m args below meth c H locs cells slots Q (F0 m 0 ls []) := by
  obtain ⟨hx, hb, hml, hown, hts⟩ := id S
  intro ls H locs hl hP hD hS
  refine lv_iload_n hx hb d_q_TextWriter_fillRest_0 rfl (lv_at hl 1 rfl) ?_
  refine lv_istore_n hx hb d_q_TextWriter_fillRest_1 rfl hl (Nat.le_of_ble_eq_true rfl) rfl (fun ls hl => ?_)
  have hl : lv_has ls 4 [(3, .int (nI x)), (0, .ref ba), (1, .int (nI x)), (2, .int (nI dt))] := hl
  refine lp_q_TextWriter_fillRest_2 cI cC ba x dt bt hx0 hd0 S hRf hRl hRc hK hA  (fun ls H locs hl hP hD hS => ?_) 0 (by omega) ls H locs (lv_sub hl [1, 2, 3, 0] rfl) hP hD hS
  exact kr _ ls H locs d_q_TextWriter_fillRest_32 hP hD hS
set_option maxHeartbeats 1000000 in
set_option maxRecDepth 100000 in
theorem c_q_TextWriter_fillRest (l : Launch) (D : va_G) (cI cC : ClassId) (ba x dt : Nat) (bt : Nat → Nat) (hx0 : x ≤ dt) (hd0 : dt ≤ 26) (sz : Nat) : Met l y_q_TextWriter_fillRest (cd_q_TextWriter_fillRest :: WS) { frames := 0, cells := 0, slots := 0, locals := 0 } (va_Pc [.ref ba, .int (nI x), .int (nI dt)] (wP D [(ba, .inl (cI, 26, .inl (fun j => nI (bt j))))] [(cI, .int), (cC, .char)] sz)) (wQv D [(ba, .inl (cI, 26, .inl (fun j => nI (bt j))))] [(ba, .inl (cI, 26, .inl (fun j => nI ((frL bt x (dt - x)) j))))] sz) 0 0 (va_A [(ba, .inl (cI, 26, .inl (fun j => nI (bt j))))] sz) := by
  refine Met.ofW (cc := b_q_TextWriter_fillRest) (maxL := 4) (ret := none) (by decide) rfl ?_
  intro p e s m args below meth c s₁ B hml hv0
  obtain ⟨rfl, hP, hK, hD0, hsz⟩ := hv0
  have hts := atoms_spec (ws := cd_q_TextWriter_fillRest :: WS) B.pre
  have hown : s.vm.findClass R_TextWriter = some m.cls := findClass_of_methodNamed B.named
  have hlocks := B.notSynchronized
  subst hsz
  have hD := hD0.self (sz := s.heap.size)
  have hl := lv_entry ([.ref ba, .int (nI x), .int (nI dt)]) (n := 4) (Nat.le_of_ble_eq_true rfl)
  rw [lg_entry_eq]
  generalize (lg_sl ([.ref ba, .int (nI x), .int (nI dt)]) ++ List.replicate (4 - (lg_sl ([.ref ba, .int (nI x), .int (nI dt)])).length) Slot.unset).toArray = ls at hl ⊢
  refine bd_q_TextWriter_fillRest cI cC ba x dt bt hx0 hd0 ⟨B.exec, B.bytes, hml, hown, hts⟩ (Nat.le_refl _) (Nat.le_refl _) ⟨Nat.le_refl _, Nat.le_refl _⟩ hK (fun q h => Or.inr h) (fun pc ls H locs hd hP hD hS => ?_) ls _ _ hl hP hD (va_S.rf)
  exact W.vret B.exec B.bytes B.returns (fun t ht _ => ⟨⟨(), rfl, trivial, (by have h9 := hP; rw [← ht] at h9; exact h9)⟩, hS.F ht⟩) hS.2.2 hd
end
section
theorem d_q_TextReader_length_0 : decode b_q_TextReader_length 0 = .ok (.aload_n 0, 1) := by decide +kernel
theorem d_q_TextReader_length_1 : decode b_q_TextReader_length 1 = .ok (.getfield 15, 3) := by decide +kernel
theorem d_q_TextReader_length_4 : decode b_q_TextReader_length 4 = .ok (.ireturn, 1) := by decide +kernel
end
section
variable {p : Program} {l : Launch} {e : Env} {R : Room} {s : State} {m : MethodId} {args : Array Value} {below : List Frame} {meth : Method} {c : Code} {cells slots : Nat} {Q : State → Prop} {A : Nat → Prop} {H0 : Heap} {D : va_G}
set_option maxHeartbeats 1000000 in
set_option maxRecDepth 100000 in
theorem bd_q_TextReader_length (cI cC : ClassId) (td tq ct nx en : Nat) (S : CallFix p m c b_q_TextReader_length 1 s args (cd_q_TextReader_length :: WS) R_TextReader) (hRf : 0 ≤ R.frames) (hRl : 0 ≤ R.locals) (hRc : cells ≤ R.cells ∧ slots ≤ R.slots) (hK : va_K D classes [(cI, .int), (cC, .char)] s) (kr : ∀ (pc : Nat) (ls : Array Slot) (H : Heap) (locs : List Loc), decode b_q_TextReader_length pc = .ok (.ireturn, 1) → va_P D classes [(td, .inr (5, [.ref tq, .int (nI ct), .int (nI nx), .int (nI en)]))] H → va_S A H0 H locs → W p l e R s m args below meth c H locs cells slots Q (F0 m pc ls [.int (nI ct)])) : ∀ (ls : Array Slot) (H : Heap) (locs : List Loc), lv_has ls 1 [(0, .ref td)] → va_P D classes [(td, .inr (5, [.ref tq, .int (nI ct), .int (nI nx), .int (nI en)]))] H → va_S A H0 H locs → W p l e R s m args below meth c H locs cells slots Q (F0 m 0 ls []) := by
  obtain ⟨hx, hb, hml, hown, hts⟩ := id S
  intro ls H locs hl hP hS
  refine lv_aload_n hx hb d_q_TextReader_length_0 rfl (lv_at hl 0 rfl) ?_
  refine n_get (C := R_TextReader) (T := F_TextReader) (N := 4) (v := .int (nI ct)) hx hb hts u_TextReader_in hown hK hP 0 rfl rfl 1 (by decide) kw_150 rfl d_q_TextReader_length_1 ?_
  exact kr _ ls H locs d_q_TextReader_length_4 hP hS
set_option maxHeartbeats 1000000 in
set_option maxRecDepth 100000 in
theorem c_q_TextReader_length (l : Launch) (D : va_G) (cI cC : ClassId) (td tq ct nx en : Nat) : Met l y_q_TextReader_length (cd_q_TextReader_length :: WS) { frames := 0, cells := 0, slots := 0, locals := 0 } (va_Pc [.ref td] (rP D [(td, .inr (5, [.ref tq, .int (nI ct), .int (nI nx), .int (nI en)]))] [(cI, .int), (cC, .char)])) (pQ (nI ct)) 0 0 noA := by
  refine Met.ofW (cc := b_q_TextReader_length) (maxL := 1) (ret := (some .int)) (by decide) rfl ?_
  intro p e s m args below meth c s₁ B hml hv0
  obtain ⟨rfl, hP, hK⟩ := hv0
  have hts := atoms_spec (ws := cd_q_TextReader_length :: WS) B.pre
  have hown : s.vm.findClass R_TextReader = some m.cls := findClass_of_methodNamed B.named
  have hlocks := B.notSynchronized
  have hl := lv_entry ([.ref td]) (n := 1) (Nat.le_of_ble_eq_true rfl)
  rw [lg_entry_eq]
  generalize (lg_sl ([.ref td]) ++ List.replicate (1 - (lg_sl ([.ref td])).length) Slot.unset).toArray = ls at hl ⊢
  refine bd_q_TextReader_length cI cC td tq ct nx en  ⟨B.exec, B.bytes, hml, hown, hts⟩ (Nat.le_refl _) (Nat.le_refl _) ⟨Nat.le_refl _, Nat.le_refl _⟩ hK (fun pc ls H locs hd hP hS => ?_) ls _ _ hl hP (va_S.rf (A := noA))
  exact W.iret B.exec B.bytes B.returns (fun t ht _ => ⟨⟨_, (), rfl, rfl, trivial⟩, hS.F ht⟩) hS.2.2 hd
end
section
theorem d_q_TextReader_take_0 : decode b_q_TextReader_take 0 = .ok (.aload_n 0, 1) := by decide +kernel
theorem d_q_TextReader_take_1 : decode b_q_TextReader_take 1 = .ok (.getfield 22, 3) := by decide +kernel
theorem d_q_TextReader_take_4 : decode b_q_TextReader_take 4 = .ok (.aload_n 0, 1) := by decide +kernel
theorem d_q_TextReader_take_5 : decode b_q_TextReader_take 5 = .ok (.getfield 19, 3) := by decide +kernel
theorem d_q_TextReader_take_8 : decode b_q_TextReader_take 8 = .ok (.isub, 1) := by decide +kernel
theorem d_q_TextReader_take_9 : decode b_q_TextReader_take 9 = .ok (.iload_n 2, 1) := by decide +kernel
theorem d_q_TextReader_take_10 : decode b_q_TextReader_take 10 = .ok (.if_icmp .ge 5, 3) := by decide +kernel
theorem d_q_TextReader_take_13 : decode b_q_TextReader_take 13 = .ok (.iconst (-1), 1) := by decide +kernel
theorem d_q_TextReader_take_14 : decode b_q_TextReader_take 14 = .ok (.ireturn, 1) := by decide +kernel
theorem d_q_TextReader_take_15 : decode b_q_TextReader_take 15 = .ok (.iconst 0, 1) := by decide +kernel
theorem d_q_TextReader_take_16 : decode b_q_TextReader_take 16 = .ok (.istore_n 3, 1) := by decide +kernel
theorem d_q_TextReader_take_17 : decode b_q_TextReader_take 17 = .ok (.iconst 0, 1) := by decide +kernel
theorem d_q_TextReader_take_18 : decode b_q_TextReader_take 18 = .ok (.istore 4, 2) := by decide +kernel
theorem d_q_TextReader_take_20 : decode b_q_TextReader_take 20 = .ok (.iload 4, 2) := by decide +kernel
theorem d_q_TextReader_take_22 : decode b_q_TextReader_take 22 = .ok (.iload_n 2, 1) := by decide +kernel
theorem d_q_TextReader_take_23 : decode b_q_TextReader_take 23 = .ok (.if_icmp .ge 32, 3) := by decide +kernel
theorem d_q_TextReader_take_26 : decode b_q_TextReader_take 26 = .ok (.iload_n 3, 1) := by decide +kernel
theorem d_q_TextReader_take_27 : decode b_q_TextReader_take 27 = .ok (.iconst 1, 1) := by decide +kernel
theorem d_q_TextReader_take_28 : decode b_q_TextReader_take 28 = .ok (.ishl, 1) := by decide +kernel
theorem d_q_TextReader_take_29 : decode b_q_TextReader_take 29 = .ok (.aload_n 1, 1) := by decide +kernel
theorem d_q_TextReader_take_30 : decode b_q_TextReader_take 30 = .ok (.aload_n 0, 1) := by decide +kernel
theorem d_q_TextReader_take_31 : decode b_q_TextReader_take 31 = .ok (.getfield 19, 3) := by decide +kernel
theorem d_q_TextReader_take_34 : decode b_q_TextReader_take 34 = .ok (.invokestatic 62, 3) := by decide +kernel
theorem d_q_TextReader_take_37 : decode b_q_TextReader_take 37 = .ok (.ior, 1) := by decide +kernel
theorem d_q_TextReader_take_38 : decode b_q_TextReader_take 38 = .ok (.istore_n 3, 1) := by decide +kernel
theorem d_q_TextReader_take_39 : decode b_q_TextReader_take 39 = .ok (.aload_n 0, 1) := by decide +kernel
theorem d_q_TextReader_take_40 : decode b_q_TextReader_take 40 = .ok (.dup, 1) := by decide +kernel
theorem d_q_TextReader_take_41 : decode b_q_TextReader_take 41 = .ok (.getfield 19, 3) := by decide +kernel
theorem d_q_TextReader_take_44 : decode b_q_TextReader_take 44 = .ok (.iconst 1, 1) := by decide +kernel
theorem d_q_TextReader_take_45 : decode b_q_TextReader_take 45 = .ok (.iadd, 1) := by decide +kernel
theorem d_q_TextReader_take_46 : decode b_q_TextReader_take 46 = .ok (.putfield 19, 3) := by decide +kernel
theorem d_q_TextReader_take_49 : decode b_q_TextReader_take 49 = .ok (.iinc 4 1, 3) := by decide +kernel
theorem d_q_TextReader_take_52 : decode b_q_TextReader_take 52 = .ok (.goto (-32), 3) := by decide +kernel
theorem d_q_TextReader_take_55 : decode b_q_TextReader_take 55 = .ok (.iload_n 3, 1) := by decide +kernel
theorem d_q_TextReader_take_56 : decode b_q_TextReader_take 56 = .ok (.ireturn, 1) := by decide +kernel
end
section
variable {p : Program} {l : Launch} {e : Env} {R : Room} {s : State} {m : MethodId} {args : Array Value} {below : List Frame} {meth : Method} {c : Code} {cells slots : Nat} {Q : State → Prop} {A : Nat → Prop} {H0 : Heap} {D : va_G}
set_option maxHeartbeats 1000000 in
set_option maxRecDepth 100000 in
theorem bd_q_TextReader_take_no (cI cC : ClassId) (sa : Nat → Nat) (td tq ct nx en : Nat) (ba n : Nat) (bt : Nat → Nat) (hnx : nx ≤ en) (hen : en ≤ 208) (hn0 : n ≤ 16) (hno : en < nx + n) (S : CallFix p m c b_q_TextReader_take 5 s args (cd_q_TextReader_take :: WS) R_TextReader) (hRf : 1 ≤ R.frames) (hRl : 21 ≤ R.locals) (hRc : cells ≤ R.cells ∧ slots ≤ R.slots) (hK : va_K D classes [(cI, .int), (cC, .char)] s) (hSt : SB sa A s s.heap) (kr : ∀ (pc : Nat) (ls : Array Slot) (H : Heap) (locs : List Loc), decode b_q_TextReader_take pc = .ok (.ireturn, 1) → va_P D classes [(td, .inr (5, [.ref tq, .int (nI ct), .int (nI nx), .int (nI en)])), (ba, .inl (cI, 26, .inl (fun j => nI (bt j))))] H → va_S A s.heap H locs → W p l e R s m args below meth c H locs cells slots Q (F0 m pc ls [.int (-1)])) : ∀ (ls : Array Slot) (H : Heap) (locs : List Loc), lv_has ls 5 [(0, .ref td), (1, .ref ba), (2, .int (nI n))] → va_P D classes [(td, .inr (5, [.ref tq, .int (nI ct), .int (nI nx), .int (nI en)])), (ba, .inl (cI, 26, .inl (fun j => nI (bt j))))] H → va_S A s.heap H locs → W p l e R s m args below meth c H locs cells slots Q (F0 m 0 ls []) := by
  obtain ⟨hx, hb, hml, hown, hts⟩ := id S
  intro ls H locs hl hP hS
  refine lv_aload_n hx hb d_q_TextReader_take_0 rfl (lv_at hl 0 rfl) ?_
  refine n_get (C := R_TextReader) (T := F_TextReader) (N := 4) (v := .int (nI en)) hx hb hts u_TextReader_in hown hK hP 0 rfl rfl 3 (by decide) kw_152 rfl d_q_TextReader_take_1 ?_
  refine lv_aload_n hx hb d_q_TextReader_take_4 rfl (lv_at hl 0 rfl) ?_
  refine n_get (C := R_TextReader) (T := F_TextReader) (N := 4) (v := .int (nI nx)) hx hb hts u_TextReader_in hown hK hP 0 rfl rfl 2 (by decide) kw_151 rfl d_q_TextReader_take_5 ?_
  refine n_isub hx hb d_q_TextReader_take_8 (by omega) ?_
  refine lv_iload_n hx hb d_q_TextReader_take_9 rfl (lv_at hl 2 rfl) ?_
  refine n_icmp_ge hx hb d_q_TextReader_take_10 (tgt := 15) rfl (by omega) (by omega) (fun g10 => absurd g10 (by omega)) (fun g10 => ?_)
  refine lv_iconst (v := (-1)) hx hb d_q_TextReader_take_13 (by decide) ?_
  exact kr _ ls H locs d_q_TextReader_take_14 hP hS
set_option maxHeartbeats 1000000 in
set_option maxRecDepth 100000 in
theorem c_q_TextReader_take_no (l : Launch) (D : va_G) (cI cC : ClassId) (sa : Nat → Nat) (td tq ct nx en : Nat) (ba n : Nat) (bt : Nat → Nat) (hnx : nx ≤ en) (hen : en ≤ 208) (hn0 : n ≤ 16) (hno : en < nx + n) : Met l y_q_TextReader_take (cd_q_TextReader_take :: WS) { frames := 1, cells := 0, slots := 0, locals := 21 } (va_Pc [.ref td, .ref ba, .int (nI n)] (srP sa D [(td, .inr (5, [.ref tq, .int (nI ct), .int (nI nx), .int (nI en)])), (ba, .inl (cI, 26, .inl (fun j => nI (bt j))))] [(cI, .int), (cC, .char)])) (pQ (-1)) 0 0 noA := by
  refine Met.ofW (cc := b_q_TextReader_take) (maxL := 5) (ret := (some .int)) (by decide) rfl ?_
  intro p e s m args below meth c s₁ B hml hv0
  obtain ⟨rfl, ⟨hP, hK⟩, hSt⟩ := hv0
  have hts := atoms_spec (ws := cd_q_TextReader_take :: WS) B.pre
  have hown : s.vm.findClass R_TextReader = some m.cls := findClass_of_methodNamed B.named
  have hlocks := B.notSynchronized
  have hl := lv_entry ([.ref td, .ref ba, .int (nI n)]) (n := 5) (Nat.le_of_ble_eq_true rfl)
  rw [lg_entry_eq]
  generalize (lg_sl ([.ref td, .ref ba, .int (nI n)]) ++ List.replicate (5 - (lg_sl ([.ref td, .ref ba, .int (nI n)])).length) Slot.unset).toArray = ls at hl ⊢
  refine bd_q_TextReader_take_no cI cC sa td tq ct nx en ba n bt hnx hen hn0 hno ⟨B.exec, B.bytes, hml, hown, hts⟩ (Nat.le_refl _) (Nat.le_refl _) ⟨Nat.le_refl _, Nat.le_refl _⟩ hK hSt (fun pc ls H locs hd hP hS => ?_) ls _ _ hl hP (va_S.rf (A := noA))
  exact W.iret B.exec B.bytes B.returns (fun t ht _ => ⟨⟨_, (), rfl, rfl, trivial⟩, hS.F ht⟩) hS.2.2 hd
end
section
variable {p : Program} {l : Launch} {e : Env} {R : Room} {s : State} {m : MethodId} {args : Array Value} {below : List Frame} {meth : Method} {c : Code} {cells slots : Nat} {Q : State → Prop} {A : Nat → Prop} {H0 : Heap} {D : va_G}
set_option maxHeartbeats 1000000 in
set_option maxRecDepth 100000 in
theorem lp_q_TextReader_take_ok_20 (cI cC : ClassId) (sa : Nat → Nat) (td tq ct nx en : Nat) (ba n : Nat) (bt : Nat → Nat) (hen : en ≤ 208) (hn0 : n ≤ 16) (hyes : nx + n ≤ en) (hbt : lt256 26 bt) (S : CallFix p m c b_q_TextReader_take 5 s args (cd_q_TextReader_take :: WS) R_TextReader) (hRf : 1 ≤ R.frames) (hRl : 21 ≤ R.locals) (hRc : cells ≤ R.cells ∧ slots ≤ R.slots) (hK : va_K D classes [(cI, .int), (cC, .char)] s) (hA : ∀ q, s.heap.size ≤ q → A q) (hSt : SB sa A s s.heap) (kx : ∀ (ls : Array Slot) (H : Heap) (locs : List Loc), lv_has ls 5 [(0, .ref td), (1, .ref ba), (2, .int (nI n)), (3, .int (nI (nxL bt nx n))), (4, .int (nI n))] → va_P D classes [(td, .inr (5, [.ref tq, .int (nI ct), .int (nI (nx + n)), .int (nI en)])), (ba, .inl (cI, 26, .inl (fun j => nI (bt j))))] H → va_D A [(td, .inr (5, [.ref tq, .int (nI ct), .int (nI (nx + n)), .int (nI en)])), (ba, .inl (cI, 26, .inl (fun j => nI (bt j))))] → va_S A s.heap H locs → W p l e R s m args below meth c H locs cells slots Q (F0 m 55 ls [])) :
    ∀ k, k ≤ n → ∀ (ls : Array Slot) (H : Heap) (locs : List Loc), lv_has ls 5 [(0, .ref td), (1, .ref ba), (2, .int (nI n)), (3, .int (nI (nxL bt nx k))), (4, .int (nI k))] → va_P D classes [(td, .inr (5, [.ref tq, .int (nI ct), .int (nI (nx + k)), .int (nI en)])), (ba, .inl (cI, 26, .inl (fun j => nI (bt j))))] H → va_D A [(td, .inr (5, [.ref tq, .int (nI ct), .int (nI (nx + k)), .int (nI en)])), (ba, .inl (cI, 26, .inl (fun j => nI (bt j))))] → va_S A s.heap H locs → W p l e R s m args below meth c H locs cells slots Q (F0 m 20 ls []) := by
  obtain ⟨hx, hb, hml, hown, hts⟩ := id S
  refine up_loop (fun k hkk ih => ?_)
  intro ls H locs hl hP hD hS
  refine lv_iload hx hb d_q_TextReader_take_20 (lv_at hl 4 rfl) ?_
  refine lv_iload_n hx hb d_q_TextReader_take_22 rfl (lv_at hl 2 rfl) ?_
  refine n_icmp_ge hx hb d_q_TextReader_take_23 (tgt := 55) rfl (by omega) (by omega) (fun g23 => ?_) (fun g23 => ?_)
  · skip
    obtain rfl : k = n := by omega
    exact kx ls H locs (lv_sub hl [0, 1, 2, 3, 4] rfl) hP hD hS
  · skip
    refine lv_iload_n hx hb d_q_TextReader_take_26 rfl (lv_at hl 3 rfl) ?_
    refine lv_iconst (v := nI 1) hx hb d_q_TextReader_take_27 (by decide) ?_
    refine n_ishl hx hb d_q_TextReader_take_28 (by omega) ?_
    refine lv_aload_n hx hb d_q_TextReader_take_29 rfl (lv_at hl 1 rfl) ?_
    refine lv_aload_n hx hb d_q_TextReader_take_30 rfl (lv_at hl 0 rfl) ?_
    refine n_get (C := R_TextReader) (T := F_TextReader) (N := 4) (v := .int (nI (nx + k))) hx hb hts u_TextReader_in hown hK hP 0 rfl rfl 2 (by decide) kw_151 rfl d_q_TextReader_take_31 ?_
    refine q_readSN (host := "SquareCodes") (n := 2) (As := [.ref ba, .int (nI (nx + k))]) (rest := [.int (nI ((nxL bt nx k) * 2 ^ 1))]) (wc := [(ba, .inl (cI, 26, .inl (fun j => nI (bt j))))]) S (c_q_bitOf l D cI cC ba bt (nx + k) (by omega) hbt) hSt.2.2.1.2.2 hK hP [1] rfl kw_584 kw_1 kw_583 (by decide +kernel) rfl rfl ⟨Nat.le_trans (Nat.le_of_ble_eq_true rfl) hRf, Nat.le_trans (Nat.le_of_ble_eq_true rfl) hRl⟩ rfl hl.1 rfl (Nat.le_of_ble_eq_true rfl) d_q_TextReader_take_34 hRc hS (fun H locs hP hS => ?_)
    refine n_ior hx hb d_q_TextReader_take_37 ?_
    refine n_topn (show ((nxL bt nx k) * 2 ^ 1) ||| (bt ((nx + k) / 8) / 2 ^ (7 - (nx + k) % 8) % 2) = nxL bt nx (k + 1) from (or_bit (by omega))) ?_
    refine lv_istore_n hx hb d_q_TextReader_take_38 rfl hl (Nat.le_of_ble_eq_true rfl) rfl (fun ls hl => ?_)
    have hl : lv_has ls 5 [(3, .int (nI (nxL bt nx (k + 1)))), (0, .ref td), (1, .ref ba), (2, .int (nI n)), (4, .int (nI k))] := hl
    refine lv_aload_n hx hb d_q_TextReader_take_39 rfl (lv_at hl 1 rfl) ?_
    refine lv_dup hx hb d_q_TextReader_take_40 rfl ?_
    refine n_get (C := R_TextReader) (T := F_TextReader) (N := 4) (v := .int (nI (nx + k))) hx hb hts u_TextReader_in hown hK hP 0 rfl rfl 2 (by decide) kw_151 rfl d_q_TextReader_take_41 ?_
    refine lv_iconst (v := nI 1) hx hb d_q_TextReader_take_44 (by decide) ?_
    refine n_iadd hx hb d_q_TextReader_take_45 ?_
    refine n_put (C := R_TextReader) (T := F_TextReader) (N := 4) (v := .int (nI ((nx + k) + 1))) hx hb hts u_TextReader_in t_TextReader t_TextReader_ok n_TextReader hown hK hP hD hS 0 rfl rfl 2 (by decide) kw_151 rfl rfl rfl (Nat.le_of_ble_eq_true rfl) d_q_TextReader_take_46 (fun H locs hP hD hS => ?_)
    have hP : va_P D classes [(td, .inr (5, [.ref tq, .int (nI ct), .int (nI ((nx + k) + 1)), .int (nI en)])), (ba, .inl (cI, 26, .inl (fun j => nI (bt j))))] H := hP
    have hD : va_D A [(td, .inr (5, [.ref tq, .int (nI ct), .int (nI ((nx + k) + 1)), .int (nI en)])), (ba, .inl (cI, 26, .inl (fun j => nI (bt j))))] := hD
    refine lv_iinc (k := 4) (v := nI (k + 1)) hx hb d_q_TextReader_take_49 hl rfl (nx_inc k 1) (Nat.le_of_ble_eq_true rfl) rfl (fun ls hl => ?_)
    have hl : lv_has ls 5 [(4, .int (nI (k + 1))), (3, .int (nI (nxL bt nx (k + 1)))), (0, .ref td), (1, .ref ba), (2, .int (nI n))] := hl
    refine lv_goto hx hb d_q_TextReader_take_52 (tgt := 20) rfl ?_
    exact ih (by omega) ls H locs (lv_sub hl [2, 3, 4, 1, 0] rfl) hP hD hS
set_option maxHeartbeats 1000000 in
set_option maxRecDepth 100000 in
theorem bd_q_TextReader_take_ok (cI cC : ClassId) (sa : Nat → Nat) (td tq ct nx en : Nat) (ba n : Nat) (bt : Nat → Nat) (hen : en ≤ 208) (hn0 : n ≤ 16) (hyes : nx + n ≤ en) (hbt : lt256 26 bt) (S : CallFix p m c b_q_TextReader_take 5 s args (cd_q_TextReader_take :: WS) R_TextReader) (hRf : 1 ≤ R.frames) (hRl : 21 ≤ R.locals) (hRc : cells ≤ R.cells ∧ slots ≤ R.slots) (hK : va_K D classes [(cI, .int), (cC, .char)] s) (hA : ∀ q, s.heap.size ≤ q → A q) (hSt : SB sa A s s.heap) (kr : ∀ (pc : Nat) (ls : Array Slot) (H : Heap) (locs : List Loc), decode b_q_TextReader_take pc = .ok (.ireturn, 1) → va_P D classes [(td, .inr (5, [.ref tq, .int (nI ct), .int (nI (nx + n)), .int (nI en)])), (ba, .inl (cI, 26, .inl (fun j => nI (bt j))))] H → va_D A [(td, .inr (5, [.ref tq, .int (nI ct), .int (nI (nx + n)), .int (nI en)])), (ba, .inl (cI, 26, .inl (fun j => nI (bt j))))] → va_S A s.heap H locs → W p l e R s m args below meth c H locs cells slots Q (F0 m pc ls [.int (nI (nxL bt nx n))])) : ∀ (ls : Array Slot) (H : Heap) (locs : List Loc), lv_has ls 5 [(0, .ref td), (1, .ref ba), (2, .int (nI n))] → va_P D classes [(td, .inr (5, [.ref tq, .int (nI ct), .int (nI nx), .int (nI en)])), (ba, .inl (cI, 26, .inl (fun j => nI (bt j))))] H → va_D A [(td, .inr (5, [.ref tq, .int (nI ct), .int (nI nx), .int (nI en)])), (ba, .inl (cI, 26, .inl (fun j => nI (bt j))))] → va_S A s.heap H locs → W p l e R s m args below meth c H locs cells slots Q (F0 m 0 ls []) := by
  obtain ⟨hx, hb, hml, hown, hts⟩ := id S
  intro ls H locs hl hP hD hS
  refine lv_aload_n hx hb d_q_TextReader_take_0 rfl (lv_at hl 0 rfl) ?_
  refine n_get (C := R_TextReader) (T := F_TextReader) (N := 4) (v := .int (nI en)) hx hb hts u_TextReader_in hown hK hP 0 rfl rfl 3 (by decide) kw_152 rfl d_q_TextReader_take_1 ?_
  refine lv_aload_n hx hb d_q_TextReader_take_4 rfl (lv_at hl 0 rfl) ?_
  refine n_get (C := R_TextReader) (T := F_TextReader) (N := 4) (v := .int (nI nx)) hx hb hts u_TextReader_in hown hK hP 0 rfl rfl 2 (by decide) kw_151 rfl d_q_TextReader_take_5 ?_
  refine n_isub hx hb d_q_TextReader_take_8 (by omega) ?_
  refine lv_iload_n hx hb d_q_TextReader_take_9 rfl (lv_at hl 2 rfl) ?_
  refine n_icmp_ge hx hb d_q_TextReader_take_10 (tgt := 15) rfl (by omega) (by omega) (fun g10 => ?_) (fun g10 => absurd g10 (by omega))
  refine lv_iconst (v := nI 0) hx hb d_q_TextReader_take_15 (by decide) ?_
  refine lv_istore_n hx hb d_q_TextReader_take_16 rfl hl (Nat.le_of_ble_eq_true rfl) rfl (fun ls hl => ?_)
  have hl : lv_has ls 5 [(3, .int (nI 0)), (0, .ref td), (1, .ref ba), (2, .int (nI n))] := hl
  refine lv_iconst (v := nI 0) hx hb d_q_TextReader_take_17 (by decide) ?_
  refine lv_istore hx hb d_q_TextReader_take_18 hl (Nat.le_of_ble_eq_true rfl) rfl (fun ls hl => ?_)
  have hl : lv_has ls 5 [(4, .int (nI 0)), (3, .int (nI 0)), (0, .ref td), (1, .ref ba), (2, .int (nI n))] := hl
  refine lp_q_TextReader_take_ok_20 cI cC sa td tq ct nx en ba n bt hen hn0 hyes hbt S hRf hRl hRc hK hA hSt  (fun ls H locs hl hP hD hS => ?_) 0 (by omega) ls H locs (lv_sub hl [2, 3, 4, 1, 0] rfl) hP hD hS
  refine lv_iload_n hx hb d_q_TextReader_take_55 rfl (lv_at hl 3 rfl) ?_
  exact kr _ ls H locs d_q_TextReader_take_56 hP hD hS
set_option maxHeartbeats 1000000 in
set_option maxRecDepth 100000 in
theorem c_q_TextReader_take_ok (l : Launch) (D : va_G) (cI cC : ClassId) (sa : Nat → Nat) (td tq ct nx en : Nat) (ba n : Nat) (bt : Nat → Nat) (hen : en ≤ 208) (hn0 : n ≤ 16) (hyes : nx + n ≤ en) (hbt : lt256 26 bt) (sz : Nat) : Met l y_q_TextReader_take (cd_q_TextReader_take :: WS) { frames := 1, cells := 0, slots := 0, locals := 21 } (va_Pc [.ref td, .ref ba, .int (nI n)] (swP sa D [(td, .inr (5, [.ref tq, .int (nI ct), .int (nI nx), .int (nI en)])), (ba, .inl (cI, 26, .inl (fun j => nI (bt j))))] [(cI, .int), (cC, .char)] sz)) (wQi D (nI (nxL bt nx n)) [(td, .inr (5, [.ref tq, .int (nI ct), .int (nI nx), .int (nI en)])), (ba, .inl (cI, 26, .inl (fun j => nI (bt j))))] [(td, .inr (5, [.ref tq, .int (nI ct), .int (nI (nx + n)), .int (nI en)])), (ba, .inl (cI, 26, .inl (fun j => nI (bt j))))] sz) 0 0 (va_A [(td, .inr (5, [.ref tq, .int (nI ct), .int (nI nx), .int (nI en)])), (ba, .inl (cI, 26, .inl (fun j => nI (bt j))))] sz) := by
  refine Met.ofW (cc := b_q_TextReader_take) (maxL := 5) (ret := (some .int)) (by decide) rfl ?_
  intro p e s m args below meth c s₁ B hml hv0
  obtain ⟨rfl, ⟨hP, hK, hD0, hsz⟩, hSt⟩ := hv0
  have hts := atoms_spec (ws := cd_q_TextReader_take :: WS) B.pre
  have hown : s.vm.findClass R_TextReader = some m.cls := findClass_of_methodNamed B.named
  have hlocks := B.notSynchronized
  subst hsz
  have hD := hD0.self (sz := s.heap.size)
  have hl := lv_entry ([.ref td, .ref ba, .int (nI n)]) (n := 5) (Nat.le_of_ble_eq_true rfl)
  rw [lg_entry_eq]
  generalize (lg_sl ([.ref td, .ref ba, .int (nI n)]) ++ List.replicate (5 - (lg_sl ([.ref td, .ref ba, .int (nI n)])).length) Slot.unset).toArray = ls at hl ⊢
  refine bd_q_TextReader_take_ok cI cC sa td tq ct nx en ba n bt hen hn0 hyes hbt ⟨B.exec, B.bytes, hml, hown, hts⟩ (Nat.le_refl _) (Nat.le_refl _) ⟨Nat.le_refl _, Nat.le_refl _⟩ hK (fun q h => Or.inr h) hSt (fun pc ls H locs hd hP hD hS => ?_) ls _ _ hl hP hD (va_S.rf)
  exact W.iret B.exec B.bytes B.returns (fun t ht _ => ⟨⟨_, (), rfl, rfl, (by have h9 := hP; rw [← ht] at h9; exact h9)⟩, hS.F ht⟩) hS.2.2 hd
end
section
theorem d_q_TextReader_keep_0 : decode b_q_TextReader_keep 0 = .ok (.iload_n 2, 1) := by decide +kernel
theorem d_q_TextReader_keep_1 : decode b_q_TextReader_keep 1 = .ok (.istore 4, 2) := by decide +kernel
theorem d_q_TextReader_keep_3 : decode b_q_TextReader_keep 3 = .ok (.aload_n 0, 1) := by decide +kernel
theorem d_q_TextReader_keep_4 : decode b_q_TextReader_keep 4 = .ok (.getfield 15, 3) := by decide +kernel
theorem d_q_TextReader_keep_7 : decode b_q_TextReader_keep 7 = .ok (.iload_n 3, 1) := by decide +kernel
theorem d_q_TextReader_keep_8 : decode b_q_TextReader_keep 8 = .ok (.iadd, 1) := by decide +kernel
theorem d_q_TextReader_keep_9 : decode b_q_TextReader_keep 9 = .ok (.iconst 1, 1) := by decide +kernel
theorem d_q_TextReader_keep_10 : decode b_q_TextReader_keep 10 = .ok (.isub, 1) := by decide +kernel
theorem d_q_TextReader_keep_11 : decode b_q_TextReader_keep 11 = .ok (.istore 5, 2) := by decide +kernel
theorem d_q_TextReader_keep_13 : decode b_q_TextReader_keep 13 = .ok (.iload 5, 2) := by decide +kernel
theorem d_q_TextReader_keep_15 : decode b_q_TextReader_keep 15 = .ok (.aload_n 0, 1) := by decide +kernel
theorem d_q_TextReader_keep_16 : decode b_q_TextReader_keep 16 = .ok (.getfield 15, 3) := by decide +kernel
theorem d_q_TextReader_keep_19 : decode b_q_TextReader_keep 19 = .ok (.if_icmp .lt 43, 3) := by decide +kernel
theorem d_q_TextReader_keep_22 : decode b_q_TextReader_keep 22 = .ok (.iload 5, 2) := by decide +kernel
theorem d_q_TextReader_keep_24 : decode b_q_TextReader_keep 24 = .ok (.bipush 64, 2) := by decide +kernel
theorem d_q_TextReader_keep_26 : decode b_q_TextReader_keep 26 = .ok (.if_icmp .ge 21, 3) := by decide +kernel
theorem d_q_TextReader_keep_29 : decode b_q_TextReader_keep 29 = .ok (.aload_n 0, 1) := by decide +kernel
theorem d_q_TextReader_keep_30 : decode b_q_TextReader_keep 30 = .ok (.getfield 9, 3) := by decide +kernel
theorem d_q_TextReader_keep_33 : decode b_q_TextReader_keep 33 = .ok (.iload 5, 2) := by decide +kernel
theorem d_q_TextReader_keep_35 : decode b_q_TextReader_keep 35 = .ok (.aload_n 1, 1) := by decide +kernel
theorem d_q_TextReader_keep_36 : decode b_q_TextReader_keep 36 = .ok (.iload 4, 2) := by decide +kernel
theorem d_q_TextReader_keep_38 : decode b_q_TextReader_keep 38 = .ok (.aload_n 1, 1) := by decide +kernel
theorem d_q_TextReader_keep_39 : decode b_q_TextReader_keep 39 = .ok (.getfield 65, 3) := by decide +kernel
theorem d_q_TextReader_keep_42 : decode b_q_TextReader_keep 42 = .ok (.irem, 1) := by decide +kernel
theorem d_q_TextReader_keep_43 : decode b_q_TextReader_keep 43 = .ok (.invokevirtual 68, 3) := by decide +kernel
theorem d_q_TextReader_keep_46 : decode b_q_TextReader_keep 46 = .ok (.castore, 1) := by decide +kernel
theorem d_q_TextReader_keep_47 : decode b_q_TextReader_keep 47 = .ok (.iload 4, 2) := by decide +kernel
theorem d_q_TextReader_keep_49 : decode b_q_TextReader_keep 49 = .ok (.aload_n 1, 1) := by decide +kernel
theorem d_q_TextReader_keep_50 : decode b_q_TextReader_keep 50 = .ok (.getfield 65, 3) := by decide +kernel
theorem d_q_TextReader_keep_53 : decode b_q_TextReader_keep 53 = .ok (.idiv, 1) := by decide +kernel
theorem d_q_TextReader_keep_54 : decode b_q_TextReader_keep 54 = .ok (.istore 4, 2) := by decide +kernel
theorem d_q_TextReader_keep_56 : decode b_q_TextReader_keep 56 = .ok (.iinc 5 (-1), 3) := by decide +kernel
theorem d_q_TextReader_keep_59 : decode b_q_TextReader_keep 59 = .ok (.goto (-46), 3) := by decide +kernel
theorem d_q_TextReader_keep_62 : decode b_q_TextReader_keep 62 = .ok (.aload_n 0, 1) := by decide +kernel
theorem d_q_TextReader_keep_63 : decode b_q_TextReader_keep 63 = .ok (.aload_n 0, 1) := by decide +kernel
theorem d_q_TextReader_keep_64 : decode b_q_TextReader_keep 64 = .ok (.getfield 15, 3) := by decide +kernel
theorem d_q_TextReader_keep_67 : decode b_q_TextReader_keep 67 = .ok (.iload_n 3, 1) := by decide +kernel
theorem d_q_TextReader_keep_68 : decode b_q_TextReader_keep 68 = .ok (.iadd, 1) := by decide +kernel
theorem d_q_TextReader_keep_69 : decode b_q_TextReader_keep 69 = .ok (.bipush 64, 2) := by decide +kernel
theorem d_q_TextReader_keep_71 : decode b_q_TextReader_keep 71 = .ok (.invokestatic 45, 3) := by decide +kernel
theorem d_q_TextReader_keep_74 : decode b_q_TextReader_keep 74 = .ok (.putfield 15, 3) := by decide +kernel
theorem d_q_TextReader_keep_77 : decode b_q_TextReader_keep 77 = .ok (.return_, 1) := by decide +kernel
end
section
variable {p : Program} {l : Launch} {e : Env} {R : Room} {s : State} {m : MethodId} {args : Array Value} {below : List Frame} {meth : Method} {c : Code} {cells slots : Nat} {Q : State → Prop} {A : Nat → Prop} {H0 : Heap} {D : va_G}
set_option maxHeartbeats 1000000 in
set_option maxRecDepth 100000 in
theorem lp_q_TextReader_keep_0_13 (cI cC : ClassId) (sa : Nat → Nat) (td tq ct nx en : Nat) (v x : Nat) (ch : Nat → Nat) (hx0 : 1 ≤ x) (hx1 : x ≤ 3) (hfd : ct + x ≤ 64) (hv : v < 65536) (S : CallFix p m c b_q_TextReader_keep 6 s args (cd_q_TextReader_keep :: WS) R_TextReader) (hRf : 5 ≤ R.frames) (hRl : 106 ≤ R.locals) (hRc : cells ≤ R.cells ∧ slots ≤ R.slots) (hK : va_K D classes [(cI, .int), (cC, .char)] s) (hA : ∀ q, s.heap.size ≤ q → A q) (hSt : SB sa A s s.heap) (kx : ∀ (ls : Array Slot) (H : Heap) (locs : List Loc), lv_has ls 6 [(0, .ref td), (1, .ref (sa 7)), (2, .int (nI v)), (3, .int (nI x))] → va_P D classes [(td, .inr (5, [.ref tq, .int (nI ct), .int (nI nx), .int (nI en)])), (tq, .inl (cC, 64, .inl (fun j => nI ((gpR ch ct x 10 v x) j))))] H → va_D A [(td, .inr (5, [.ref tq, .int (nI ct), .int (nI nx), .int (nI en)])), (tq, .inl (cC, 64, .inl (fun j => nI ((gpR ch ct x 10 v x) j))))] → va_S A s.heap H locs → W p l e R s m args below meth c H locs cells slots Q (F0 m 62 ls [])) :
    ∀ i, i ≤ x → ∀ (ls : Array Slot) (H : Heap) (locs : List Loc), lv_has ls 6 [(0, .ref td), (1, .ref (sa 7)), (2, .int (nI v)), (3, .int (nI x)), (4, .int (nI (gpV v 10 i))), (5, .int (nI (ct + x - i) - 1))] → va_P D classes [(td, .inr (5, [.ref tq, .int (nI ct), .int (nI nx), .int (nI en)])), (tq, .inl (cC, 64, .inl (fun j => nI ((gpR ch ct x 10 v i) j))))] H → va_D A [(td, .inr (5, [.ref tq, .int (nI ct), .int (nI nx), .int (nI en)])), (tq, .inl (cC, 64, .inl (fun j => nI ((gpR ch ct x 10 v i) j))))] → va_S A s.heap H locs → W p l e R s m args below meth c H locs cells slots Q (F0 m 13 ls []) := by
  obtain ⟨hx, hb, hml, hown, hts⟩ := id S
  refine up_loop (fun i hki ih => ?_)
  intro ls H locs hl hP hD hS
  have hgl := gpV_le v 10 i
  rcases Nat.lt_or_ge i x with hdn | hdn
  · skip
    have hl : lv_has ls 6 [(0, .ref td), (1, .ref (sa 7)), (2, .int (nI v)), (3, .int (nI x)), (4, .int (nI (gpV v 10 i))), (5, .int (nI (ct + x - (i + 1))))] := lv_re hl (by rw [nx_dn (show i < ct + x by omega)])
    refine lv_iload hx hb d_q_TextReader_keep_13 (lv_at hl 5 rfl) ?_
    refine lv_aload_n hx hb d_q_TextReader_keep_15 rfl (lv_at hl 0 rfl) ?_
    refine n_get (C := R_TextReader) (T := F_TextReader) (N := 4) (v := .int (nI ct)) hx hb hts u_TextReader_in hown hK hP 0 rfl rfl 1 (by decide) kw_150 rfl d_q_TextReader_keep_16 ?_
    refine n_icmp_lt hx hb d_q_TextReader_keep_19 (tgt := 62) rfl (by omega) (by omega) (fun g19 => absurd g19 (by omega)) (fun g19 => ?_)
    refine lv_iload hx hb d_q_TextReader_keep_22 (lv_at hl 5 rfl) ?_
    refine lv_bipush (v := nI 64) hx hb d_q_TextReader_keep_24 (by decide) ?_
    refine n_icmp_ge hx hb d_q_TextReader_keep_26 (tgt := 47) rfl (by omega) (by omega) (fun g26 => absurd g26 (by omega)) (fun g26 => ?_)
    refine lv_aload_n hx hb d_q_TextReader_keep_29 rfl (lv_at hl 0 rfl) ?_
    refine n_get (C := R_TextReader) (T := F_TextReader) (N := 4) (v := .ref tq) hx hb hts u_TextReader_in hown hK hP 0 rfl rfl 0 (by decide) kw_149 rfl d_q_TextReader_keep_30 ?_
    refine lv_iload hx hb d_q_TextReader_keep_33 (lv_at hl 5 rfl) ?_
    refine lv_aload_n hx hb d_q_TextReader_keep_35 rfl (lv_at hl 1 rfl) ?_
    refine lv_iload hx hb d_q_TextReader_keep_36 (lv_at hl 4 rfl) ?_
    refine lv_aload_n hx hb d_q_TextReader_keep_38 rfl (lv_at hl 1 rfl) ?_
    refine n_kgetN hx hb (kf_0_base hSt) hS hown hSt.2.1.2.2.1 d_q_TextReader_keep_39 ?_
    refine n_irem hx hb d_q_TextReader_keep_42 (by omega) (by decide) (by decide) ?_
    refine q_readVr (n := 1) (As := [.int (nI ((gpV v 10 i) % 10))]) (rest := [.int (nI (ct + x - (i + 1))), .ref tq]) (wc := []) S (c_q_Kind_characterOf_0 l D cI cC sa ((gpV v 10 i) % 10) (Nat.mod_lt _ (by decide))) hSt hK hP (o_recv (ko_0 hSt) hS) [] rfl (q_goodV kw_698 kw_699 kw_700 kw_16 kw_701) (by decide +kernel) rfl rfl rfl ⟨Nat.le_trans (Nat.le_of_ble_eq_true rfl) hRf, Nat.le_trans (Nat.le_of_ble_eq_true rfl) hRl⟩ rfl hl.1 rfl (Nat.le_of_ble_eq_true rfl) d_q_TextReader_keep_43 hRc hS (fun H locs hP hS => ?_)
    refine n_cast hx hb hK hP hD hS 1 1 rfl rfl (by omega) (by decide) (by have h9 : gpV v 10 i % 10 < 10 := Nat.mod_lt _ (by decide); rw [← (pb_chk _ (show gpV v 10 i % 10 < 45 by omega)).2.2]; exact Nat.lt_trans (pb_chk _ (by omega)).2.1 (by decide)) d_q_TextReader_keep_46 (fun H locs hP hD hS => ?_)
    have hP : va_P D classes [(td, .inr (5, [.ref tq, .int (nI ct), .int (nI nx), .int (nI en)])), (tq, .inl (cC, 64, .inl (fun j => nI ((va_up (gpR ch ct x 10 v i) (ct + x - (i + 1)) (chN ((gpV v 10 i) % 10))) j))))] H := hP
    have hD : va_D A [(td, .inr (5, [.ref tq, .int (nI ct), .int (nI nx), .int (nI en)])), (tq, .inl (cC, 64, .inl (fun j => nI ((va_up (gpR ch ct x 10 v i) (ct + x - (i + 1)) (chN ((gpV v 10 i) % 10))) j))))] := hD
    rw [show va_up (gpR ch ct x 10 v i) (ct + x - (i + 1)) (chN ((gpV v 10 i) % 10)) = gpR ch ct x 10 v (i + 1) from (by rw [show ct + x - (i + 1) = ct + (x - (i + 1)) by omega]; exact (gpR_f (by decide)).symm)] at hP hD
    refine lv_iload hx hb d_q_TextReader_keep_47 (lv_at hl 4 rfl) ?_
    refine lv_aload_n hx hb d_q_TextReader_keep_49 rfl (lv_at hl 1 rfl) ?_
    refine n_kgetN hx hb (kf_0_base hSt) hS hown hSt.2.1.2.2.1 d_q_TextReader_keep_50 ?_
    refine n_idiv hx hb d_q_TextReader_keep_53 (by omega) (by decide) (by decide) ?_
    refine n_topn (show (gpV v 10 i) / 10 = gpV v 10 (i + 1) from rfl) ?_
    refine lv_istore hx hb d_q_TextReader_keep_54 hl (Nat.le_of_ble_eq_true rfl) rfl (fun ls hl => ?_)
    have hl : lv_has ls 6 [(4, .int (nI (gpV v 10 (i + 1)))), (0, .ref td), (1, .ref (sa 7)), (2, .int (nI v)), (3, .int (nI x)), (5, .int (nI (ct + x - (i + 1))))] := hl
    refine lv_iinc (k := 5) (v := nI (ct + x - (i + 1)) - 1) hx hb d_q_TextReader_keep_56 hl rfl (nx_dec (ct + x - (i + 1))) (Nat.le_of_ble_eq_true rfl) rfl (fun ls hl => ?_)
    have hl : lv_has ls 6 [(5, .int (nI (ct + x - (i + 1)) - 1)), (4, .int (nI (gpV v 10 (i + 1)))), (0, .ref td), (1, .ref (sa 7)), (2, .int (nI v)), (3, .int (nI x))] := hl
    refine lv_goto hx hb d_q_TextReader_keep_59 (tgt := 13) rfl ?_
    exact ih (by omega) ls H locs (lv_sub hl [2, 3, 4, 5, 1, 0] rfl) hP hD hS
  · skip
    have e9 : i = x := by omega
    have hl : lv_has ls 6 [(0, .ref td), (1, .ref (sa 7)), (2, .int (nI v)), (3, .int (nI x)), (4, .int (nI (gpV v 10 x))), (5, .int (nI ct - 1))] := lv_re hl (by rw [e9, show ct + x - x = ct by omega])
    rw [e9] at hP hD
    refine lv_iload hx hb d_q_TextReader_keep_13 (lv_at hl 5 rfl) ?_
    refine lv_aload_n hx hb d_q_TextReader_keep_15 rfl (lv_at hl 0 rfl) ?_
    refine n_get (C := R_TextReader) (T := F_TextReader) (N := 4) (v := .int (nI ct)) hx hb hts u_TextReader_in hown hK hP 0 rfl rfl 1 (by decide) kw_150 rfl d_q_TextReader_keep_16 ?_
    refine lv_icmp_lt hx hb d_q_TextReader_keep_19 (tgt := 62) rfl (fun g19 => ?_) (fun g19 => absurd (nx_ltp ct (by omega)) g19)
    exact kx ls H locs (lv_sub hl [0, 1, 2, 3] rfl) hP hD hS
set_option maxHeartbeats 1000000 in
set_option maxRecDepth 100000 in
theorem bd_q_TextReader_keep_0 (cI cC : ClassId) (sa : Nat → Nat) (td tq ct nx en : Nat) (v x : Nat) (ch : Nat → Nat) (hx0 : 1 ≤ x) (hx1 : x ≤ 3) (hfd : ct + x ≤ 64) (hv : v < 65536) (S : CallFix p m c b_q_TextReader_keep 6 s args (cd_q_TextReader_keep :: WS) R_TextReader) (hRf : 5 ≤ R.frames) (hRl : 106 ≤ R.locals) (hRc : cells ≤ R.cells ∧ slots ≤ R.slots) (hK : va_K D classes [(cI, .int), (cC, .char)] s) (hA : ∀ q, s.heap.size ≤ q → A q) (hSt : SB sa A s s.heap) (kr : ∀ (pc : Nat) (ls : Array Slot) (H : Heap) (locs : List Loc), decode b_q_TextReader_keep pc = .ok (.return_, 1) → va_P D classes [(td, .inr (5, [.ref tq, .int (nI (ct + x)), .int (nI nx), .int (nI en)])), (tq, .inl (cC, 64, .inl (fun j => nI ((gpR ch ct x 10 v x) j))))] H → va_D A [(td, .inr (5, [.ref tq, .int (nI (ct + x)), .int (nI nx), .int (nI en)])), (tq, .inl (cC, 64, .inl (fun j => nI ((gpR ch ct x 10 v x) j))))] → va_S A s.heap H locs → W p l e R s m args below meth c H locs cells slots Q (F0 m pc ls [])) : ∀ (ls : Array Slot) (H : Heap) (locs : List Loc), lv_has ls 6 [(0, .ref td), (1, .ref (sa 7)), (2, .int (nI v)), (3, .int (nI x))] → va_P D classes [(td, .inr (5, [.ref tq, .int (nI ct), .int (nI nx), .int (nI en)])), (tq, .inl (cC, 64, .inl (fun j => nI (ch j))))] H → va_D A [(td, .inr (5, [.ref tq, .int (nI ct), .int (nI nx), .int (nI en)])), (tq, .inl (cC, 64, .inl (fun j => nI (ch j))))] → va_S A s.heap H locs → W p l e R s m args below meth c H locs cells slots Q (F0 m 0 ls []) := by
  obtain ⟨hx, hb, hml, hown, hts⟩ := id S
  intro ls H locs hl hP hD hS
  refine lv_iload_n hx hb d_q_TextReader_keep_0 rfl (lv_at hl 2 rfl) ?_
  refine lv_istore hx hb d_q_TextReader_keep_1 hl (Nat.le_of_ble_eq_true rfl) rfl (fun ls hl => ?_)
  have hl : lv_has ls 6 [(4, .int (nI v)), (0, .ref td), (1, .ref (sa 7)), (2, .int (nI v)), (3, .int (nI x))] := hl
  refine lv_aload_n hx hb d_q_TextReader_keep_3 rfl (lv_at hl 1 rfl) ?_
  refine n_get (C := R_TextReader) (T := F_TextReader) (N := 4) (v := .int (nI ct)) hx hb hts u_TextReader_in hown hK hP 0 rfl rfl 1 (by decide) kw_150 rfl d_q_TextReader_keep_4 ?_
  refine lv_iload_n hx hb d_q_TextReader_keep_7 rfl (lv_at hl 4 rfl) ?_
  refine n_iadd hx hb d_q_TextReader_keep_8 ?_
  refine lv_iconst (v := nI 1) hx hb d_q_TextReader_keep_9 (by decide) ?_
  refine lv_isub hx hb d_q_TextReader_keep_10 ?_
  refine n_top (show nI (ct + x) - nI 1 = nI (ct + x - 0) - 1 from nx_sub1 _) ?_
  refine lv_istore hx hb d_q_TextReader_keep_11 hl (Nat.le_of_ble_eq_true rfl) rfl (fun ls hl => ?_)
  have hl : lv_has ls 6 [(5, .int (nI (ct + x - 0) - 1)), (4, .int (nI v)), (0, .ref td), (1, .ref (sa 7)), (2, .int (nI v)), (3, .int (nI x))] := hl
  refine lp_q_TextReader_keep_0_13 cI cC sa td tq ct nx en v x ch hx0 hx1 hfd hv S hRf hRl hRc hK hA hSt  (fun ls H locs hl hP hD hS => ?_) 0 (by omega) ls H locs (lv_sub hl [2, 3, 4, 5, 1, 0] rfl) hP hD hS
  refine lv_aload_n hx hb d_q_TextReader_keep_62 rfl (lv_at hl 0 rfl) ?_
  refine lv_aload_n hx hb d_q_TextReader_keep_63 rfl (lv_at hl 0 rfl) ?_
  refine n_get (C := R_TextReader) (T := F_TextReader) (N := 4) (v := .int (nI ct)) hx hb hts u_TextReader_in hown hK hP 0 rfl rfl 1 (by decide) kw_150 rfl d_q_TextReader_keep_64 ?_
  refine lv_iload_n hx hb d_q_TextReader_keep_67 rfl (lv_at hl 3 rfl) ?_
  refine n_iadd hx hb d_q_TextReader_keep_68 ?_
  refine lv_bipush (v := nI 64) hx hb d_q_TextReader_keep_69 (by decide) ?_
  refine q_pureS (n := 2) (As := [.int (nI (ct + x)), .int (nI 64)]) (rest := [.ref td]) S (c_j_Math_min l (ct + x) 64 (by omega) (by decide)) (q_goodS kw_688 kw_431 kw_19 kw_432) (by decide +kernel) rfl rfl ⟨Nat.le_trans (Nat.le_of_ble_eq_true rfl) hRf, Nat.le_trans (Nat.le_of_ble_eq_true rfl) hRl⟩ rfl hl.1 rfl (Nat.le_of_ble_eq_true rfl) d_q_TextReader_keep_71 hRc hS (fun H locs hkp hS => ?_)
  replace hP := hP.kept (fun k q hq => hkp q.1 (hP k q hq).lt)
  refine n_topn (show min (ct + x) 64 = ct + x from (by omega)) ?_
  refine n_put (C := R_TextReader) (T := F_TextReader) (N := 4) (v := .int (nI (ct + x))) hx hb hts u_TextReader_in t_TextReader t_TextReader_ok n_TextReader hown hK hP hD hS 0 rfl rfl 1 (by decide) kw_150 rfl rfl rfl (Nat.le_of_ble_eq_true rfl) d_q_TextReader_keep_74 (fun H locs hP hD hS => ?_)
  have hP : va_P D classes [(td, .inr (5, [.ref tq, .int (nI (ct + x)), .int (nI nx), .int (nI en)])), (tq, .inl (cC, 64, .inl (fun j => nI ((gpR ch ct x 10 v x) j))))] H := hP
  have hD : va_D A [(td, .inr (5, [.ref tq, .int (nI (ct + x)), .int (nI nx), .int (nI en)])), (tq, .inl (cC, 64, .inl (fun j => nI ((gpR ch ct x 10 v x) j))))] := hD
  exact kr _ ls H locs d_q_TextReader_keep_77 hP hD hS
set_option maxHeartbeats 1000000 in
set_option maxRecDepth 100000 in
theorem c_q_TextReader_keep_0 (l : Launch) (D : va_G) (cI cC : ClassId) (sa : Nat → Nat) (td tq ct nx en : Nat) (v x : Nat) (ch : Nat → Nat) (hx0 : 1 ≤ x) (hx1 : x ≤ 3) (hfd : ct + x ≤ 64) (hv : v < 65536) (sz : Nat) : Met l y_q_TextReader_keep (cd_q_TextReader_keep :: WS) { frames := 5, cells := 0, slots := 0, locals := 106 } (va_Pc [.ref td, .ref (sa 7), .int (nI v), .int (nI x)] (swP sa D [(td, .inr (5, [.ref tq, .int (nI ct), .int (nI nx), .int (nI en)])), (tq, .inl (cC, 64, .inl (fun j => nI (ch j))))] [(cI, .int), (cC, .char)] sz)) (wQv D [(td, .inr (5, [.ref tq, .int (nI ct), .int (nI nx), .int (nI en)])), (tq, .inl (cC, 64, .inl (fun j => nI (ch j))))] [(td, .inr (5, [.ref tq, .int (nI (ct + x)), .int (nI nx), .int (nI en)])), (tq, .inl (cC, 64, .inl (fun j => nI ((gpR ch ct x 10 v x) j))))] sz) 0 0 (va_A [(td, .inr (5, [.ref tq, .int (nI ct), .int (nI nx), .int (nI en)])), (tq, .inl (cC, 64, .inl (fun j => nI (ch j))))] sz) := by
  refine Met.ofW (cc := b_q_TextReader_keep) (maxL := 6) (ret := none) (by decide) rfl ?_
  intro p e s m args below meth c s₁ B hml hv0
  obtain ⟨rfl, ⟨hP, hK, hD0, hsz⟩, hSt⟩ := hv0
  have hts := atoms_spec (ws := cd_q_TextReader_keep :: WS) B.pre
  have hown : s.vm.findClass R_TextReader = some m.cls := findClass_of_methodNamed B.named
  have hlocks := B.notSynchronized
  subst hsz
  have hD := hD0.self (sz := s.heap.size)
  have hl := lv_entry ([.ref td, .ref (sa 7), .int (nI v), .int (nI x)]) (n := 6) (Nat.le_of_ble_eq_true rfl)
  rw [lg_entry_eq]
  generalize (lg_sl ([.ref td, .ref (sa 7), .int (nI v), .int (nI x)]) ++ List.replicate (6 - (lg_sl ([.ref td, .ref (sa 7), .int (nI v), .int (nI x)])).length) Slot.unset).toArray = ls at hl ⊢
  refine bd_q_TextReader_keep_0 cI cC sa td tq ct nx en v x ch hx0 hx1 hfd hv ⟨B.exec, B.bytes, hml, hown, hts⟩ (Nat.le_refl _) (Nat.le_refl _) ⟨Nat.le_refl _, Nat.le_refl _⟩ hK (fun q h => Or.inr h) hSt (fun pc ls H locs hd hP hD hS => ?_) ls _ _ hl hP hD (va_S.rf)
  exact W.vret B.exec B.bytes B.returns (fun t ht _ => ⟨⟨(), rfl, trivial, (by have h9 := hP; rw [← ht] at h9; exact h9)⟩, hS.F ht⟩) hS.2.2 hd
end
section
variable {p : Program} {l : Launch} {e : Env} {R : Room} {s : State} {m : MethodId} {args : Array Value} {below : List Frame} {meth : Method} {c : Code} {cells slots : Nat} {Q : State → Prop} {A : Nat → Prop} {H0 : Heap} {D : va_G}
set_option maxHeartbeats 1000000 in
set_option maxRecDepth 100000 in
theorem lp_q_TextReader_keep_1_13 (cI cC : ClassId) (sa : Nat → Nat) (td tq ct nx en : Nat) (v x : Nat) (ch : Nat → Nat) (hx0 : 1 ≤ x) (hx1 : x ≤ 2) (hfd : ct + x ≤ 64) (hv : v < 65536) (S : CallFix p m c b_q_TextReader_keep 6 s args (cd_q_TextReader_keep :: WS) R_TextReader) (hRf : 5 ≤ R.frames) (hRl : 106 ≤ R.locals) (hRc : cells ≤ R.cells ∧ slots ≤ R.slots) (hK : va_K D classes [(cI, .int), (cC, .char)] s) (hA : ∀ q, s.heap.size ≤ q → A q) (hSt : SB sa A s s.heap) (kx : ∀ (ls : Array Slot) (H : Heap) (locs : List Loc), lv_has ls 6 [(0, .ref td), (1, .ref (sa 8)), (2, .int (nI v)), (3, .int (nI x))] → va_P D classes [(td, .inr (5, [.ref tq, .int (nI ct), .int (nI nx), .int (nI en)])), (tq, .inl (cC, 64, .inl (fun j => nI ((gpR ch ct x 45 v x) j))))] H → va_D A [(td, .inr (5, [.ref tq, .int (nI ct), .int (nI nx), .int (nI en)])), (tq, .inl (cC, 64, .inl (fun j => nI ((gpR ch ct x 45 v x) j))))] → va_S A s.heap H locs → W p l e R s m args below meth c H locs cells slots Q (F0 m 62 ls [])) :
    ∀ i, i ≤ x → ∀ (ls : Array Slot) (H : Heap) (locs : List Loc), lv_has ls 6 [(0, .ref td), (1, .ref (sa 8)), (2, .int (nI v)), (3, .int (nI x)), (4, .int (nI (gpV v 45 i))), (5, .int (nI (ct + x - i) - 1))] → va_P D classes [(td, .inr (5, [.ref tq, .int (nI ct), .int (nI nx), .int (nI en)])), (tq, .inl (cC, 64, .inl (fun j => nI ((gpR ch ct x 45 v i) j))))] H → va_D A [(td, .inr (5, [.ref tq, .int (nI ct), .int (nI nx), .int (nI en)])), (tq, .inl (cC, 64, .inl (fun j => nI ((gpR ch ct x 45 v i) j))))] → va_S A s.heap H locs → W p l e R s m args below meth c H locs cells slots Q (F0 m 13 ls []) := by
  obtain ⟨hx, hb, hml, hown, hts⟩ := id S
  refine up_loop (fun i hki ih => ?_)
  intro ls H locs hl hP hD hS
  have hgl := gpV_le v 45 i
  rcases Nat.lt_or_ge i x with hdn | hdn
  · skip
    have hl : lv_has ls 6 [(0, .ref td), (1, .ref (sa 8)), (2, .int (nI v)), (3, .int (nI x)), (4, .int (nI (gpV v 45 i))), (5, .int (nI (ct + x - (i + 1))))] := lv_re hl (by rw [nx_dn (show i < ct + x by omega)])
    refine lv_iload hx hb d_q_TextReader_keep_13 (lv_at hl 5 rfl) ?_
    refine lv_aload_n hx hb d_q_TextReader_keep_15 rfl (lv_at hl 0 rfl) ?_
    refine n_get (C := R_TextReader) (T := F_TextReader) (N := 4) (v := .int (nI ct)) hx hb hts u_TextReader_in hown hK hP 0 rfl rfl 1 (by decide) kw_150 rfl d_q_TextReader_keep_16 ?_
    refine n_icmp_lt hx hb d_q_TextReader_keep_19 (tgt := 62) rfl (by omega) (by omega) (fun g19 => absurd g19 (by omega)) (fun g19 => ?_)
    refine lv_iload hx hb d_q_TextReader_keep_22 (lv_at hl 5 rfl) ?_
    refine lv_bipush (v := nI 64) hx hb d_q_TextReader_keep_24 (by decide) ?_
    refine n_icmp_ge hx hb d_q_TextReader_keep_26 (tgt := 47) rfl (by omega) (by omega) (fun g26 => absurd g26 (by omega)) (fun g26 => ?_)
    refine lv_aload_n hx hb d_q_TextReader_keep_29 rfl (lv_at hl 0 rfl) ?_
    refine n_get (C := R_TextReader) (T := F_TextReader) (N := 4) (v := .ref tq) hx hb hts u_TextReader_in hown hK hP 0 rfl rfl 0 (by decide) kw_149 rfl d_q_TextReader_keep_30 ?_
    refine lv_iload hx hb d_q_TextReader_keep_33 (lv_at hl 5 rfl) ?_
    refine lv_aload_n hx hb d_q_TextReader_keep_35 rfl (lv_at hl 1 rfl) ?_
    refine lv_iload hx hb d_q_TextReader_keep_36 (lv_at hl 4 rfl) ?_
    refine lv_aload_n hx hb d_q_TextReader_keep_38 rfl (lv_at hl 1 rfl) ?_
    refine n_kgetN hx hb (kf_1_base hSt) hS hown hSt.2.1.2.2.1 d_q_TextReader_keep_39 ?_
    refine n_irem hx hb d_q_TextReader_keep_42 (by omega) (by decide) (by decide) ?_
    refine q_readVr (n := 1) (As := [.int (nI ((gpV v 45 i) % 45))]) (rest := [.int (nI (ct + x - (i + 1))), .ref tq]) (wc := []) S (c_q_Kind_characterOf_1 l D cI cC sa ((gpV v 45 i) % 45) (Nat.mod_lt _ (by decide))) hSt hK hP (o_recv (ko_1 hSt) hS) [] rfl (q_goodV kw_698 kw_699 kw_700 kw_16 kw_701) (by decide +kernel) rfl rfl rfl ⟨Nat.le_trans (Nat.le_of_ble_eq_true rfl) hRf, Nat.le_trans (Nat.le_of_ble_eq_true rfl) hRl⟩ rfl hl.1 rfl (Nat.le_of_ble_eq_true rfl) d_q_TextReader_keep_43 hRc hS (fun H locs hP hS => ?_)
    refine n_cast hx hb hK hP hD hS 1 1 rfl rfl (by omega) (by decide) (by have h9 : gpV v 45 i % 45 < 45 := Nat.mod_lt _ (by decide); rw [← (pb_chk _ (show gpV v 45 i % 45 < 45 by omega)).2.2]; exact Nat.lt_trans (pb_chk _ (by omega)).2.1 (by decide)) d_q_TextReader_keep_46 (fun H locs hP hD hS => ?_)
    have hP : va_P D classes [(td, .inr (5, [.ref tq, .int (nI ct), .int (nI nx), .int (nI en)])), (tq, .inl (cC, 64, .inl (fun j => nI ((va_up (gpR ch ct x 45 v i) (ct + x - (i + 1)) (chN ((gpV v 45 i) % 45))) j))))] H := hP
    have hD : va_D A [(td, .inr (5, [.ref tq, .int (nI ct), .int (nI nx), .int (nI en)])), (tq, .inl (cC, 64, .inl (fun j => nI ((va_up (gpR ch ct x 45 v i) (ct + x - (i + 1)) (chN ((gpV v 45 i) % 45))) j))))] := hD
    rw [show va_up (gpR ch ct x 45 v i) (ct + x - (i + 1)) (chN ((gpV v 45 i) % 45)) = gpR ch ct x 45 v (i + 1) from (by rw [show ct + x - (i + 1) = ct + (x - (i + 1)) by omega]; exact (gpR_f (by decide)).symm)] at hP hD
    refine lv_iload hx hb d_q_TextReader_keep_47 (lv_at hl 4 rfl) ?_
    refine lv_aload_n hx hb d_q_TextReader_keep_49 rfl (lv_at hl 1 rfl) ?_
    refine n_kgetN hx hb (kf_1_base hSt) hS hown hSt.2.1.2.2.1 d_q_TextReader_keep_50 ?_
    refine n_idiv hx hb d_q_TextReader_keep_53 (by omega) (by decide) (by decide) ?_
    refine n_topn (show (gpV v 45 i) / 45 = gpV v 45 (i + 1) from rfl) ?_
    refine lv_istore hx hb d_q_TextReader_keep_54 hl (Nat.le_of_ble_eq_true rfl) rfl (fun ls hl => ?_)
    have hl : lv_has ls 6 [(4, .int (nI (gpV v 45 (i + 1)))), (0, .ref td), (1, .ref (sa 8)), (2, .int (nI v)), (3, .int (nI x)), (5, .int (nI (ct + x - (i + 1))))] := hl
    refine lv_iinc (k := 5) (v := nI (ct + x - (i + 1)) - 1) hx hb d_q_TextReader_keep_56 hl rfl (nx_dec (ct + x - (i + 1))) (Nat.le_of_ble_eq_true rfl) rfl (fun ls hl => ?_)
    have hl : lv_has ls 6 [(5, .int (nI (ct + x - (i + 1)) - 1)), (4, .int (nI (gpV v 45 (i + 1)))), (0, .ref td), (1, .ref (sa 8)), (2, .int (nI v)), (3, .int (nI x))] := hl
    refine lv_goto hx hb d_q_TextReader_keep_59 (tgt := 13) rfl ?_
    exact ih (by omega) ls H locs (lv_sub hl [2, 3, 4, 5, 1, 0] rfl) hP hD hS
  · skip
    have e9 : i = x := by omega
    have hl : lv_has ls 6 [(0, .ref td), (1, .ref (sa 8)), (2, .int (nI v)), (3, .int (nI x)), (4, .int (nI (gpV v 45 x))), (5, .int (nI ct - 1))] := lv_re hl (by rw [e9, show ct + x - x = ct by omega])
    rw [e9] at hP hD
    refine lv_iload hx hb d_q_TextReader_keep_13 (lv_at hl 5 rfl) ?_
    refine lv_aload_n hx hb d_q_TextReader_keep_15 rfl (lv_at hl 0 rfl) ?_
    refine n_get (C := R_TextReader) (T := F_TextReader) (N := 4) (v := .int (nI ct)) hx hb hts u_TextReader_in hown hK hP 0 rfl rfl 1 (by decide) kw_150 rfl d_q_TextReader_keep_16 ?_
    refine lv_icmp_lt hx hb d_q_TextReader_keep_19 (tgt := 62) rfl (fun g19 => ?_) (fun g19 => absurd (nx_ltp ct (by omega)) g19)
    exact kx ls H locs (lv_sub hl [0, 1, 2, 3] rfl) hP hD hS
set_option maxHeartbeats 1000000 in
set_option maxRecDepth 100000 in
theorem bd_q_TextReader_keep_1 (cI cC : ClassId) (sa : Nat → Nat) (td tq ct nx en : Nat) (v x : Nat) (ch : Nat → Nat) (hx0 : 1 ≤ x) (hx1 : x ≤ 2) (hfd : ct + x ≤ 64) (hv : v < 65536) (S : CallFix p m c b_q_TextReader_keep 6 s args (cd_q_TextReader_keep :: WS) R_TextReader) (hRf : 5 ≤ R.frames) (hRl : 106 ≤ R.locals) (hRc : cells ≤ R.cells ∧ slots ≤ R.slots) (hK : va_K D classes [(cI, .int), (cC, .char)] s) (hA : ∀ q, s.heap.size ≤ q → A q) (hSt : SB sa A s s.heap) (kr : ∀ (pc : Nat) (ls : Array Slot) (H : Heap) (locs : List Loc), decode b_q_TextReader_keep pc = .ok (.return_, 1) → va_P D classes [(td, .inr (5, [.ref tq, .int (nI (ct + x)), .int (nI nx), .int (nI en)])), (tq, .inl (cC, 64, .inl (fun j => nI ((gpR ch ct x 45 v x) j))))] H → va_D A [(td, .inr (5, [.ref tq, .int (nI (ct + x)), .int (nI nx), .int (nI en)])), (tq, .inl (cC, 64, .inl (fun j => nI ((gpR ch ct x 45 v x) j))))] → va_S A s.heap H locs → W p l e R s m args below meth c H locs cells slots Q (F0 m pc ls [])) : ∀ (ls : Array Slot) (H : Heap) (locs : List Loc), lv_has ls 6 [(0, .ref td), (1, .ref (sa 8)), (2, .int (nI v)), (3, .int (nI x))] → va_P D classes [(td, .inr (5, [.ref tq, .int (nI ct), .int (nI nx), .int (nI en)])), (tq, .inl (cC, 64, .inl (fun j => nI (ch j))))] H → va_D A [(td, .inr (5, [.ref tq, .int (nI ct), .int (nI nx), .int (nI en)])), (tq, .inl (cC, 64, .inl (fun j => nI (ch j))))] → va_S A s.heap H locs → W p l e R s m args below meth c H locs cells slots Q (F0 m 0 ls []) := by
  obtain ⟨hx, hb, hml, hown, hts⟩ := id S
  intro ls H locs hl hP hD hS
  refine lv_iload_n hx hb d_q_TextReader_keep_0 rfl (lv_at hl 2 rfl) ?_
  refine lv_istore hx hb d_q_TextReader_keep_1 hl (Nat.le_of_ble_eq_true rfl) rfl (fun ls hl => ?_)
  have hl : lv_has ls 6 [(4, .int (nI v)), (0, .ref td), (1, .ref (sa 8)), (2, .int (nI v)), (3, .int (nI x))] := hl
  refine lv_aload_n hx hb d_q_TextReader_keep_3 rfl (lv_at hl 1 rfl) ?_
  refine n_get (C := R_TextReader) (T := F_TextReader) (N := 4) (v := .int (nI ct)) hx hb hts u_TextReader_in hown hK hP 0 rfl rfl 1 (by decide) kw_150 rfl d_q_TextReader_keep_4 ?_
  refine lv_iload_n hx hb d_q_TextReader_keep_7 rfl (lv_at hl 4 rfl) ?_
  refine n_iadd hx hb d_q_TextReader_keep_8 ?_
  refine lv_iconst (v := nI 1) hx hb d_q_TextReader_keep_9 (by decide) ?_
  refine lv_isub hx hb d_q_TextReader_keep_10 ?_
  refine n_top (show nI (ct + x) - nI 1 = nI (ct + x - 0) - 1 from nx_sub1 _) ?_
  refine lv_istore hx hb d_q_TextReader_keep_11 hl (Nat.le_of_ble_eq_true rfl) rfl (fun ls hl => ?_)
  have hl : lv_has ls 6 [(5, .int (nI (ct + x - 0) - 1)), (4, .int (nI v)), (0, .ref td), (1, .ref (sa 8)), (2, .int (nI v)), (3, .int (nI x))] := hl
  refine lp_q_TextReader_keep_1_13 cI cC sa td tq ct nx en v x ch hx0 hx1 hfd hv S hRf hRl hRc hK hA hSt  (fun ls H locs hl hP hD hS => ?_) 0 (by omega) ls H locs (lv_sub hl [2, 3, 4, 5, 1, 0] rfl) hP hD hS
  refine lv_aload_n hx hb d_q_TextReader_keep_62 rfl (lv_at hl 0 rfl) ?_
  refine lv_aload_n hx hb d_q_TextReader_keep_63 rfl (lv_at hl 0 rfl) ?_
  refine n_get (C := R_TextReader) (T := F_TextReader) (N := 4) (v := .int (nI ct)) hx hb hts u_TextReader_in hown hK hP 0 rfl rfl 1 (by decide) kw_150 rfl d_q_TextReader_keep_64 ?_
  refine lv_iload_n hx hb d_q_TextReader_keep_67 rfl (lv_at hl 3 rfl) ?_
  refine n_iadd hx hb d_q_TextReader_keep_68 ?_
  refine lv_bipush (v := nI 64) hx hb d_q_TextReader_keep_69 (by decide) ?_
  refine q_pureS (n := 2) (As := [.int (nI (ct + x)), .int (nI 64)]) (rest := [.ref td]) S (c_j_Math_min l (ct + x) 64 (by omega) (by decide)) (q_goodS kw_688 kw_431 kw_19 kw_432) (by decide +kernel) rfl rfl ⟨Nat.le_trans (Nat.le_of_ble_eq_true rfl) hRf, Nat.le_trans (Nat.le_of_ble_eq_true rfl) hRl⟩ rfl hl.1 rfl (Nat.le_of_ble_eq_true rfl) d_q_TextReader_keep_71 hRc hS (fun H locs hkp hS => ?_)
  replace hP := hP.kept (fun k q hq => hkp q.1 (hP k q hq).lt)
  refine n_topn (show min (ct + x) 64 = ct + x from (by omega)) ?_
  refine n_put (C := R_TextReader) (T := F_TextReader) (N := 4) (v := .int (nI (ct + x))) hx hb hts u_TextReader_in t_TextReader t_TextReader_ok n_TextReader hown hK hP hD hS 0 rfl rfl 1 (by decide) kw_150 rfl rfl rfl (Nat.le_of_ble_eq_true rfl) d_q_TextReader_keep_74 (fun H locs hP hD hS => ?_)
  have hP : va_P D classes [(td, .inr (5, [.ref tq, .int (nI (ct + x)), .int (nI nx), .int (nI en)])), (tq, .inl (cC, 64, .inl (fun j => nI ((gpR ch ct x 45 v x) j))))] H := hP
  have hD : va_D A [(td, .inr (5, [.ref tq, .int (nI (ct + x)), .int (nI nx), .int (nI en)])), (tq, .inl (cC, 64, .inl (fun j => nI ((gpR ch ct x 45 v x) j))))] := hD
  exact kr _ ls H locs d_q_TextReader_keep_77 hP hD hS
set_option maxHeartbeats 1000000 in
set_option maxRecDepth 100000 in
theorem c_q_TextReader_keep_1 (l : Launch) (D : va_G) (cI cC : ClassId) (sa : Nat → Nat) (td tq ct nx en : Nat) (v x : Nat) (ch : Nat → Nat) (hx0 : 1 ≤ x) (hx1 : x ≤ 2) (hfd : ct + x ≤ 64) (hv : v < 65536) (sz : Nat) : Met l y_q_TextReader_keep (cd_q_TextReader_keep :: WS) { frames := 5, cells := 0, slots := 0, locals := 106 } (va_Pc [.ref td, .ref (sa 8), .int (nI v), .int (nI x)] (swP sa D [(td, .inr (5, [.ref tq, .int (nI ct), .int (nI nx), .int (nI en)])), (tq, .inl (cC, 64, .inl (fun j => nI (ch j))))] [(cI, .int), (cC, .char)] sz)) (wQv D [(td, .inr (5, [.ref tq, .int (nI ct), .int (nI nx), .int (nI en)])), (tq, .inl (cC, 64, .inl (fun j => nI (ch j))))] [(td, .inr (5, [.ref tq, .int (nI (ct + x)), .int (nI nx), .int (nI en)])), (tq, .inl (cC, 64, .inl (fun j => nI ((gpR ch ct x 45 v x) j))))] sz) 0 0 (va_A [(td, .inr (5, [.ref tq, .int (nI ct), .int (nI nx), .int (nI en)])), (tq, .inl (cC, 64, .inl (fun j => nI (ch j))))] sz) := by
  refine Met.ofW (cc := b_q_TextReader_keep) (maxL := 6) (ret := none) (by decide) rfl ?_
  intro p e s m args below meth c s₁ B hml hv0
  obtain ⟨rfl, ⟨hP, hK, hD0, hsz⟩, hSt⟩ := hv0
  have hts := atoms_spec (ws := cd_q_TextReader_keep :: WS) B.pre
  have hown : s.vm.findClass R_TextReader = some m.cls := findClass_of_methodNamed B.named
  have hlocks := B.notSynchronized
  subst hsz
  have hD := hD0.self (sz := s.heap.size)
  have hl := lv_entry ([.ref td, .ref (sa 8), .int (nI v), .int (nI x)]) (n := 6) (Nat.le_of_ble_eq_true rfl)
  rw [lg_entry_eq]
  generalize (lg_sl ([.ref td, .ref (sa 8), .int (nI v), .int (nI x)]) ++ List.replicate (6 - (lg_sl ([.ref td, .ref (sa 8), .int (nI v), .int (nI x)])).length) Slot.unset).toArray = ls at hl ⊢
  refine bd_q_TextReader_keep_1 cI cC sa td tq ct nx en v x ch hx0 hx1 hfd hv ⟨B.exec, B.bytes, hml, hown, hts⟩ (Nat.le_refl _) (Nat.le_refl _) ⟨Nat.le_refl _, Nat.le_refl _⟩ hK (fun q h => Or.inr h) hSt (fun pc ls H locs hd hP hD hS => ?_) ls _ _ hl hP hD (va_S.rf)
  exact W.vret B.exec B.bytes B.returns (fun t ht _ => ⟨⟨(), rfl, trivial, (by have h9 := hP; rw [← ht] at h9; exact h9)⟩, hS.F ht⟩) hS.2.2 hd
end
section
variable {p : Program} {l : Launch} {e : Env} {R : Room} {s : State} {m : MethodId} {args : Array Value} {below : List Frame} {meth : Method} {c : Code} {cells slots : Nat} {Q : State → Prop} {A : Nat → Prop} {H0 : Heap} {D : va_G}
set_option maxHeartbeats 1000000 in
set_option maxRecDepth 100000 in
theorem lp_q_TextReader_keep_2_13 (cI cC : ClassId) (sa : Nat → Nat) (td tq ct nx en : Nat) (v x : Nat) (ch : Nat → Nat) (hx0 : 1 ≤ x) (hx1 : x ≤ 1) (hfd : ct + x ≤ 64) (hv : v < 65536) (S : CallFix p m c b_q_TextReader_keep 6 s args (cd_q_TextReader_keep :: WS) R_TextReader) (hRf : 5 ≤ R.frames) (hRl : 106 ≤ R.locals) (hRc : cells ≤ R.cells ∧ slots ≤ R.slots) (hK : va_K D classes [(cI, .int), (cC, .char)] s) (hA : ∀ q, s.heap.size ≤ q → A q) (hSt : SB sa A s s.heap) (kx : ∀ (ls : Array Slot) (H : Heap) (locs : List Loc), lv_has ls 6 [(0, .ref td), (1, .ref (sa 9)), (2, .int (nI v)), (3, .int (nI x))] → va_P D classes [(td, .inr (5, [.ref tq, .int (nI ct), .int (nI nx), .int (nI en)])), (tq, .inl (cC, 64, .inl (fun j => nI ((gpR ch ct x 256 v x) j))))] H → va_D A [(td, .inr (5, [.ref tq, .int (nI ct), .int (nI nx), .int (nI en)])), (tq, .inl (cC, 64, .inl (fun j => nI ((gpR ch ct x 256 v x) j))))] → va_S A s.heap H locs → W p l e R s m args below meth c H locs cells slots Q (F0 m 62 ls [])) :
    ∀ i, i ≤ x → ∀ (ls : Array Slot) (H : Heap) (locs : List Loc), lv_has ls 6 [(0, .ref td), (1, .ref (sa 9)), (2, .int (nI v)), (3, .int (nI x)), (4, .int (nI (gpV v 256 i))), (5, .int (nI (ct + x - i) - 1))] → va_P D classes [(td, .inr (5, [.ref tq, .int (nI ct), .int (nI nx), .int (nI en)])), (tq, .inl (cC, 64, .inl (fun j => nI ((gpR ch ct x 256 v i) j))))] H → va_D A [(td, .inr (5, [.ref tq, .int (nI ct), .int (nI nx), .int (nI en)])), (tq, .inl (cC, 64, .inl (fun j => nI ((gpR ch ct x 256 v i) j))))] → va_S A s.heap H locs → W p l e R s m args below meth c H locs cells slots Q (F0 m 13 ls []) := by
  obtain ⟨hx, hb, hml, hown, hts⟩ := id S
  refine up_loop (fun i hki ih => ?_)
  intro ls H locs hl hP hD hS
  have hgl := gpV_le v 256 i
  rcases Nat.lt_or_ge i x with hdn | hdn
  · skip
    have hl : lv_has ls 6 [(0, .ref td), (1, .ref (sa 9)), (2, .int (nI v)), (3, .int (nI x)), (4, .int (nI (gpV v 256 i))), (5, .int (nI (ct + x - (i + 1))))] := lv_re hl (by rw [nx_dn (show i < ct + x by omega)])
    refine lv_iload hx hb d_q_TextReader_keep_13 (lv_at hl 5 rfl) ?_
    refine lv_aload_n hx hb d_q_TextReader_keep_15 rfl (lv_at hl 0 rfl) ?_
    refine n_get (C := R_TextReader) (T := F_TextReader) (N := 4) (v := .int (nI ct)) hx hb hts u_TextReader_in hown hK hP 0 rfl rfl 1 (by decide) kw_150 rfl d_q_TextReader_keep_16 ?_
    refine n_icmp_lt hx hb d_q_TextReader_keep_19 (tgt := 62) rfl (by omega) (by omega) (fun g19 => absurd g19 (by omega)) (fun g19 => ?_)
    refine lv_iload hx hb d_q_TextReader_keep_22 (lv_at hl 5 rfl) ?_
    refine lv_bipush (v := nI 64) hx hb d_q_TextReader_keep_24 (by decide) ?_
    refine n_icmp_ge hx hb d_q_TextReader_keep_26 (tgt := 47) rfl (by omega) (by omega) (fun g26 => absurd g26 (by omega)) (fun g26 => ?_)
    refine lv_aload_n hx hb d_q_TextReader_keep_29 rfl (lv_at hl 0 rfl) ?_
    refine n_get (C := R_TextReader) (T := F_TextReader) (N := 4) (v := .ref tq) hx hb hts u_TextReader_in hown hK hP 0 rfl rfl 0 (by decide) kw_149 rfl d_q_TextReader_keep_30 ?_
    refine lv_iload hx hb d_q_TextReader_keep_33 (lv_at hl 5 rfl) ?_
    refine lv_aload_n hx hb d_q_TextReader_keep_35 rfl (lv_at hl 1 rfl) ?_
    refine lv_iload hx hb d_q_TextReader_keep_36 (lv_at hl 4 rfl) ?_
    refine lv_aload_n hx hb d_q_TextReader_keep_38 rfl (lv_at hl 1 rfl) ?_
    refine n_kgetN hx hb (kf_2_base hSt) hS hown hSt.2.1.2.2.1 d_q_TextReader_keep_39 ?_
    refine n_irem hx hb d_q_TextReader_keep_42 (by omega) (by decide) (by decide) ?_
    refine q_readVr (n := 1) (As := [.int (nI ((gpV v 256 i) % 256))]) (rest := [.int (nI (ct + x - (i + 1))), .ref tq]) (wc := []) S (c_q_Kind_characterOf_2 l D cI cC sa ((gpV v 256 i) % 256) (Nat.mod_lt _ (by decide))) hSt hK hP (o_recv (ko_2 hSt) hS) [] rfl (q_goodV kw_698 kw_699 kw_700 kw_16 kw_701) (by decide +kernel) rfl rfl rfl ⟨Nat.le_trans (Nat.le_of_ble_eq_true rfl) hRf, Nat.le_trans (Nat.le_of_ble_eq_true rfl) hRl⟩ rfl hl.1 rfl (Nat.le_of_ble_eq_true rfl) d_q_TextReader_keep_43 hRc hS (fun H locs hP hS => ?_)
    refine n_cast hx hb hK hP hD hS 1 1 rfl rfl (by omega) (by decide) (Nat.lt_trans (Nat.mod_lt _ (by decide)) (by decide)) d_q_TextReader_keep_46 (fun H locs hP hD hS => ?_)
    have hP : va_P D classes [(td, .inr (5, [.ref tq, .int (nI ct), .int (nI nx), .int (nI en)])), (tq, .inl (cC, 64, .inl (fun j => nI ((va_up (gpR ch ct x 256 v i) (ct + x - (i + 1)) ((gpV v 256 i) % 256)) j))))] H := hP
    have hD : va_D A [(td, .inr (5, [.ref tq, .int (nI ct), .int (nI nx), .int (nI en)])), (tq, .inl (cC, 64, .inl (fun j => nI ((va_up (gpR ch ct x 256 v i) (ct + x - (i + 1)) ((gpV v 256 i) % 256)) j))))] := hD
    rw [show va_up (gpR ch ct x 256 v i) (ct + x - (i + 1)) ((gpV v 256 i) % 256) = gpR ch ct x 256 v (i + 1) from (by rw [show ct + x - (i + 1) = ct + (x - (i + 1)) by omega]; exact (gpR_t rfl).symm)] at hP hD
    refine lv_iload hx hb d_q_TextReader_keep_47 (lv_at hl 4 rfl) ?_
    refine lv_aload_n hx hb d_q_TextReader_keep_49 rfl (lv_at hl 1 rfl) ?_
    refine n_kgetN hx hb (kf_2_base hSt) hS hown hSt.2.1.2.2.1 d_q_TextReader_keep_50 ?_
    refine n_idiv hx hb d_q_TextReader_keep_53 (by omega) (by decide) (by decide) ?_
    refine n_topn (show (gpV v 256 i) / 256 = gpV v 256 (i + 1) from rfl) ?_
    refine lv_istore hx hb d_q_TextReader_keep_54 hl (Nat.le_of_ble_eq_true rfl) rfl (fun ls hl => ?_)
    have hl : lv_has ls 6 [(4, .int (nI (gpV v 256 (i + 1)))), (0, .ref td), (1, .ref (sa 9)), (2, .int (nI v)), (3, .int (nI x)), (5, .int (nI (ct + x - (i + 1))))] := hl
    refine lv_iinc (k := 5) (v := nI (ct + x - (i + 1)) - 1) hx hb d_q_TextReader_keep_56 hl rfl (nx_dec (ct + x - (i + 1))) (Nat.le_of_ble_eq_true rfl) rfl (fun ls hl => ?_)
    have hl : lv_has ls 6 [(5, .int (nI (ct + x - (i + 1)) - 1)), (4, .int (nI (gpV v 256 (i + 1)))), (0, .ref td), (1, .ref (sa 9)), (2, .int (nI v)), (3, .int (nI x))] := hl
    refine lv_goto hx hb d_q_TextReader_keep_59 (tgt := 13) rfl ?_
    exact ih (by omega) ls H locs (lv_sub hl [2, 3, 4, 5, 1, 0] rfl) hP hD hS
  · skip
    have e9 : i = x := by omega
    have hl : lv_has ls 6 [(0, .ref td), (1, .ref (sa 9)), (2, .int (nI v)), (3, .int (nI x)), (4, .int (nI (gpV v 256 x))), (5, .int (nI ct - 1))] := lv_re hl (by rw [e9, show ct + x - x = ct by omega])
    rw [e9] at hP hD
    refine lv_iload hx hb d_q_TextReader_keep_13 (lv_at hl 5 rfl) ?_
    refine lv_aload_n hx hb d_q_TextReader_keep_15 rfl (lv_at hl 0 rfl) ?_
    refine n_get (C := R_TextReader) (T := F_TextReader) (N := 4) (v := .int (nI ct)) hx hb hts u_TextReader_in hown hK hP 0 rfl rfl 1 (by decide) kw_150 rfl d_q_TextReader_keep_16 ?_
    refine lv_icmp_lt hx hb d_q_TextReader_keep_19 (tgt := 62) rfl (fun g19 => ?_) (fun g19 => absurd (nx_ltp ct (by omega)) g19)
    exact kx ls H locs (lv_sub hl [0, 1, 2, 3] rfl) hP hD hS
set_option maxHeartbeats 1000000 in
set_option maxRecDepth 100000 in
theorem bd_q_TextReader_keep_2 (cI cC : ClassId) (sa : Nat → Nat) (td tq ct nx en : Nat) (v x : Nat) (ch : Nat → Nat) (hx0 : 1 ≤ x) (hx1 : x ≤ 1) (hfd : ct + x ≤ 64) (hv : v < 65536) (S : CallFix p m c b_q_TextReader_keep 6 s args (cd_q_TextReader_keep :: WS) R_TextReader) (hRf : 5 ≤ R.frames) (hRl : 106 ≤ R.locals) (hRc : cells ≤ R.cells ∧ slots ≤ R.slots) (hK : va_K D classes [(cI, .int), (cC, .char)] s) (hA : ∀ q, s.heap.size ≤ q → A q) (hSt : SB sa A s s.heap) (kr : ∀ (pc : Nat) (ls : Array Slot) (H : Heap) (locs : List Loc), decode b_q_TextReader_keep pc = .ok (.return_, 1) → va_P D classes [(td, .inr (5, [.ref tq, .int (nI (ct + x)), .int (nI nx), .int (nI en)])), (tq, .inl (cC, 64, .inl (fun j => nI ((gpR ch ct x 256 v x) j))))] H → va_D A [(td, .inr (5, [.ref tq, .int (nI (ct + x)), .int (nI nx), .int (nI en)])), (tq, .inl (cC, 64, .inl (fun j => nI ((gpR ch ct x 256 v x) j))))] → va_S A s.heap H locs → W p l e R s m args below meth c H locs cells slots Q (F0 m pc ls [])) : ∀ (ls : Array Slot) (H : Heap) (locs : List Loc), lv_has ls 6 [(0, .ref td), (1, .ref (sa 9)), (2, .int (nI v)), (3, .int (nI x))] → va_P D classes [(td, .inr (5, [.ref tq, .int (nI ct), .int (nI nx), .int (nI en)])), (tq, .inl (cC, 64, .inl (fun j => nI (ch j))))] H → va_D A [(td, .inr (5, [.ref tq, .int (nI ct), .int (nI nx), .int (nI en)])), (tq, .inl (cC, 64, .inl (fun j => nI (ch j))))] → va_S A s.heap H locs → W p l e R s m args below meth c H locs cells slots Q (F0 m 0 ls []) := by
  obtain ⟨hx, hb, hml, hown, hts⟩ := id S
  intro ls H locs hl hP hD hS
  refine lv_iload_n hx hb d_q_TextReader_keep_0 rfl (lv_at hl 2 rfl) ?_
  refine lv_istore hx hb d_q_TextReader_keep_1 hl (Nat.le_of_ble_eq_true rfl) rfl (fun ls hl => ?_)
  have hl : lv_has ls 6 [(4, .int (nI v)), (0, .ref td), (1, .ref (sa 9)), (2, .int (nI v)), (3, .int (nI x))] := hl
  refine lv_aload_n hx hb d_q_TextReader_keep_3 rfl (lv_at hl 1 rfl) ?_
  refine n_get (C := R_TextReader) (T := F_TextReader) (N := 4) (v := .int (nI ct)) hx hb hts u_TextReader_in hown hK hP 0 rfl rfl 1 (by decide) kw_150 rfl d_q_TextReader_keep_4 ?_
  refine lv_iload_n hx hb d_q_TextReader_keep_7 rfl (lv_at hl 4 rfl) ?_
  refine n_iadd hx hb d_q_TextReader_keep_8 ?_
  refine lv_iconst (v := nI 1) hx hb d_q_TextReader_keep_9 (by decide) ?_
  refine lv_isub hx hb d_q_TextReader_keep_10 ?_
  refine n_top (show nI (ct + x) - nI 1 = nI (ct + x - 0) - 1 from nx_sub1 _) ?_
  refine lv_istore hx hb d_q_TextReader_keep_11 hl (Nat.le_of_ble_eq_true rfl) rfl (fun ls hl => ?_)
  have hl : lv_has ls 6 [(5, .int (nI (ct + x - 0) - 1)), (4, .int (nI v)), (0, .ref td), (1, .ref (sa 9)), (2, .int (nI v)), (3, .int (nI x))] := hl
  refine lp_q_TextReader_keep_2_13 cI cC sa td tq ct nx en v x ch hx0 hx1 hfd hv S hRf hRl hRc hK hA hSt  (fun ls H locs hl hP hD hS => ?_) 0 (by omega) ls H locs (lv_sub hl [2, 3, 4, 5, 1, 0] rfl) hP hD hS
  refine lv_aload_n hx hb d_q_TextReader_keep_62 rfl (lv_at hl 0 rfl) ?_
  refine lv_aload_n hx hb d_q_TextReader_keep_63 rfl (lv_at hl 0 rfl) ?_
  refine n_get (C := R_TextReader) (T := F_TextReader) (N := 4) (v := .int (nI ct)) hx hb hts u_TextReader_in hown hK hP 0 rfl rfl 1 (by decide) kw_150 rfl d_q_TextReader_keep_64 ?_
  refine lv_iload_n hx hb d_q_TextReader_keep_67 rfl (lv_at hl 3 rfl) ?_
  refine n_iadd hx hb d_q_TextReader_keep_68 ?_
  refine lv_bipush (v := nI 64) hx hb d_q_TextReader_keep_69 (by decide) ?_
  refine q_pureS (n := 2) (As := [.int (nI (ct + x)), .int (nI 64)]) (rest := [.ref td]) S (c_j_Math_min l (ct + x) 64 (by omega) (by decide)) (q_goodS kw_688 kw_431 kw_19 kw_432) (by decide +kernel) rfl rfl ⟨Nat.le_trans (Nat.le_of_ble_eq_true rfl) hRf, Nat.le_trans (Nat.le_of_ble_eq_true rfl) hRl⟩ rfl hl.1 rfl (Nat.le_of_ble_eq_true rfl) d_q_TextReader_keep_71 hRc hS (fun H locs hkp hS => ?_)
  replace hP := hP.kept (fun k q hq => hkp q.1 (hP k q hq).lt)
  refine n_topn (show min (ct + x) 64 = ct + x from (by omega)) ?_
  refine n_put (C := R_TextReader) (T := F_TextReader) (N := 4) (v := .int (nI (ct + x))) hx hb hts u_TextReader_in t_TextReader t_TextReader_ok n_TextReader hown hK hP hD hS 0 rfl rfl 1 (by decide) kw_150 rfl rfl rfl (Nat.le_of_ble_eq_true rfl) d_q_TextReader_keep_74 (fun H locs hP hD hS => ?_)
  have hP : va_P D classes [(td, .inr (5, [.ref tq, .int (nI (ct + x)), .int (nI nx), .int (nI en)])), (tq, .inl (cC, 64, .inl (fun j => nI ((gpR ch ct x 256 v x) j))))] H := hP
  have hD : va_D A [(td, .inr (5, [.ref tq, .int (nI (ct + x)), .int (nI nx), .int (nI en)])), (tq, .inl (cC, 64, .inl (fun j => nI ((gpR ch ct x 256 v x) j))))] := hD
  exact kr _ ls H locs d_q_TextReader_keep_77 hP hD hS
set_option maxHeartbeats 1000000 in
set_option maxRecDepth 100000 in
theorem c_q_TextReader_keep_2 (l : Launch) (D : va_G) (cI cC : ClassId) (sa : Nat → Nat) (td tq ct nx en : Nat) (v x : Nat) (ch : Nat → Nat) (hx0 : 1 ≤ x) (hx1 : x ≤ 1) (hfd : ct + x ≤ 64) (hv : v < 65536) (sz : Nat) : Met l y_q_TextReader_keep (cd_q_TextReader_keep :: WS) { frames := 5, cells := 0, slots := 0, locals := 106 } (va_Pc [.ref td, .ref (sa 9), .int (nI v), .int (nI x)] (swP sa D [(td, .inr (5, [.ref tq, .int (nI ct), .int (nI nx), .int (nI en)])), (tq, .inl (cC, 64, .inl (fun j => nI (ch j))))] [(cI, .int), (cC, .char)] sz)) (wQv D [(td, .inr (5, [.ref tq, .int (nI ct), .int (nI nx), .int (nI en)])), (tq, .inl (cC, 64, .inl (fun j => nI (ch j))))] [(td, .inr (5, [.ref tq, .int (nI (ct + x)), .int (nI nx), .int (nI en)])), (tq, .inl (cC, 64, .inl (fun j => nI ((gpR ch ct x 256 v x) j))))] sz) 0 0 (va_A [(td, .inr (5, [.ref tq, .int (nI ct), .int (nI nx), .int (nI en)])), (tq, .inl (cC, 64, .inl (fun j => nI (ch j))))] sz) := by
  refine Met.ofW (cc := b_q_TextReader_keep) (maxL := 6) (ret := none) (by decide) rfl ?_
  intro p e s m args below meth c s₁ B hml hv0
  obtain ⟨rfl, ⟨hP, hK, hD0, hsz⟩, hSt⟩ := hv0
  have hts := atoms_spec (ws := cd_q_TextReader_keep :: WS) B.pre
  have hown : s.vm.findClass R_TextReader = some m.cls := findClass_of_methodNamed B.named
  have hlocks := B.notSynchronized
  subst hsz
  have hD := hD0.self (sz := s.heap.size)
  have hl := lv_entry ([.ref td, .ref (sa 9), .int (nI v), .int (nI x)]) (n := 6) (Nat.le_of_ble_eq_true rfl)
  rw [lg_entry_eq]
  generalize (lg_sl ([.ref td, .ref (sa 9), .int (nI v), .int (nI x)]) ++ List.replicate (6 - (lg_sl ([.ref td, .ref (sa 9), .int (nI v), .int (nI x)])).length) Slot.unset).toArray = ls at hl ⊢
  refine bd_q_TextReader_keep_2 cI cC sa td tq ct nx en v x ch hx0 hx1 hfd hv ⟨B.exec, B.bytes, hml, hown, hts⟩ (Nat.le_refl _) (Nat.le_refl _) ⟨Nat.le_refl _, Nat.le_refl _⟩ hK (fun q h => Or.inr h) hSt (fun pc ls H locs hd hP hD hS => ?_) ls _ _ hl hP hD (va_S.rf)
  exact W.vret B.exec B.bytes B.returns (fun t ht _ => ⟨⟨(), rfl, trivial, (by have h9 := hP; rw [← ht] at h9; exact h9)⟩, hS.F ht⟩) hS.2.2 hd
end
