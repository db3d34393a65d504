theorem kw_773 : (Jvm.Cond.methodLink "SquareCodesModel" (69 : Nat) ({ cls := "SquareCodesModel", name := "inCorner", desc := "(II)Z" } : Jvm.MethodName)) ∈ WS := WS_tbl 773 (by decide +kernel) rfl
theorem kw_774 : (Jvm.Cond.static ({ cls := "SquareCodesModel", name := "inCorner", desc := "(II)Z" } : Jvm.MethodName)) ∈ WS := WS_tbl 774 (by decide +kernel) rfl
theorem kw_10 : (Jvm.Cond.initialized "SquareCodesModel") ∈ WS := WS_tbl 10 (by decide +kernel) rfl
set_option maxRecDepth 1000000 in
theorem kw_775 : cd_m_inCorner ∈ WS := WS_tbl 775 rfl rfl
theorem kw_890 : (Jvm.Cond.methodLink "SquareCodesModel" (72 : Nat) ({ cls := "SquareCodesModel", name := "times", desc := "(II)I" } : Jvm.MethodName)) ∈ WS := WS_tbl 890 (by decide +kernel) rfl
theorem kw_891 : (Jvm.Cond.static ({ cls := "SquareCodesModel", name := "times", desc := "(II)I" } : Jvm.MethodName)) ∈ WS := WS_tbl 891 (by decide +kernel) rfl
set_option maxRecDepth 1000000 in
theorem kw_892 : cd_m_times ∈ WS := WS_tbl 892 rfl rfl
section
theorem d_m_checks_0 : decode b_m_checks 0 = .ok (.iload_n 0, 1) := by decide +kernel
theorem d_m_checks_1 : decode b_m_checks 1 = .ok (.ifCond .ne 8, 3) := by decide +kernel
theorem d_m_checks_4 : decode b_m_checks 4 = .ok (.bipush 7, 2) := by decide +kernel
theorem d_m_checks_6 : decode b_m_checks 6 = .ok (.goto 25, 3) := by decide +kernel
theorem d_m_checks_9 : decode b_m_checks 9 = .ok (.iload_n 0, 1) := by decide +kernel
theorem d_m_checks_10 : decode b_m_checks 10 = .ok (.iconst 1, 1) := by decide +kernel
theorem d_m_checks_11 : decode b_m_checks 11 = .ok (.if_icmp .ne 8, 3) := by decide +kernel
theorem d_m_checks_14 : decode b_m_checks 14 = .ok (.bipush 10, 2) := by decide +kernel
theorem d_m_checks_16 : decode b_m_checks 16 = .ok (.goto 15, 3) := by decide +kernel
theorem d_m_checks_19 : decode b_m_checks 19 = .ok (.iload_n 0, 1) := by decide +kernel
theorem d_m_checks_20 : decode b_m_checks 20 = .ok (.iconst 2, 1) := by decide +kernel
theorem d_m_checks_21 : decode b_m_checks 21 = .ok (.if_icmp .ne 8, 3) := by decide +kernel
theorem d_m_checks_24 : decode b_m_checks 24 = .ok (.bipush 13, 2) := by decide +kernel
theorem d_m_checks_26 : decode b_m_checks 26 = .ok (.goto 5, 3) := by decide +kernel
theorem d_m_checks_29 : decode b_m_checks 29 = .ok (.bipush 17, 2) := by decide +kernel
theorem d_m_checks_31 : decode b_m_checks 31 = .ok (.ireturn, 1) := by decide +kernel
end
section
variable {p : Program} {l : Launch} {e : Env} {R : Room} {s : State} {m : MethodId} {args : Array Value} {below : List Frame} {meth : Method} {c : Code} {cells slots : Nat} {Q : State → Prop} {A : Nat → Prop} {H0 : Heap} {D : va_G}
set_option maxHeartbeats 1000000 in
set_option maxRecDepth 100000 in
theorem bd_m_checks (v : Nat) (hv : v < 4) (S : CallFix p m c b_m_checks 1 s args (cd_m_checks :: WS) R_Model) (hRf : 0 ≤ R.frames) (hRl : 0 ≤ R.locals) (hRc : cells ≤ R.cells ∧ slots ≤ R.slots) (kr : ∀ (pc : Nat) (ls : Array Slot) (H : Heap) (locs : List Loc), decode b_m_checks pc = .ok (.ireturn, 1) → va_S A H0 H locs → W p l e R s m args below meth c H locs cells slots Q (F0 m pc ls [.int (nI (ckN v))])) : ∀ (ls : Array Slot) (H : Heap) (locs : List Loc), lv_has ls 1 [(0, .int (nI v))] → va_S A H0 H locs → W p l e R s m args below meth c H locs cells slots Q (F0 m 0 ls []) := by
  obtain ⟨hx, hb, hml, hown, hts⟩ := id S
  intro ls H locs hl hS
  refine lv_iload_n hx hb d_m_checks_0 rfl (lv_at hl 0 rfl) ?_
  refine n_if_ne hx hb d_m_checks_1 (tgt := 9) rfl (by omega) (fun g1 => ?_) (fun g1 => ?_)
  · skip
    refine lv_iload_n hx hb d_m_checks_9 rfl (lv_at hl 0 rfl) ?_
    refine lv_iconst (v := nI 1) hx hb d_m_checks_10 (by decide) ?_
    refine n_icmp_ne hx hb d_m_checks_11 (tgt := 19) rfl (by omega) (by omega) (fun g11 => ?_) (fun g11 => ?_)
    · skip
      refine lv_iload_n hx hb d_m_checks_19 rfl (lv_at hl 0 rfl) ?_
      refine lv_iconst (v := nI 2) hx hb d_m_checks_20 (by decide) ?_
      refine n_icmp_ne hx hb d_m_checks_21 (tgt := 29) rfl (by omega) (by omega) (fun g21 => ?_) (fun g21 => ?_)
      · skip
        refine lv_bipush (v := nI 17) hx hb d_m_checks_29 (by decide) ?_
        refine n_topn (show 17 = ckN v from (by unfold ckN; (repeat' split) <;> omega)) ?_
        exact kr _ ls H locs d_m_checks_31 hS
      · skip
        refine lv_bipush (v := nI 13) hx hb d_m_checks_24 (by decide) ?_
        refine lv_goto hx hb d_m_checks_26 (tgt := 31) rfl ?_
        refine n_topn (show 13 = ckN v from (by unfold ckN; (repeat' split) <;> omega)) ?_
        exact kr _ ls H locs d_m_checks_31 hS
    · skip
      refine lv_bipush (v := nI 10) hx hb d_m_checks_14 (by decide) ?_
      refine lv_goto hx hb d_m_checks_16 (tgt := 31) rfl ?_
      refine n_topn (show 10 = ckN v from (by unfold ckN; (repeat' split) <;> omega)) ?_
      exact kr _ ls H locs d_m_checks_31 hS
  · skip
    refine lv_bipush (v := nI 7) hx hb d_m_checks_4 (by decide) ?_
    refine lv_goto hx hb d_m_checks_6 (tgt := 31) rfl ?_
    refine n_topn (show 7 = ckN v from (by unfold ckN; (repeat' split) <;> omega)) ?_
    exact kr _ ls H locs d_m_checks_31 hS
set_option maxHeartbeats 1000000 in
set_option maxRecDepth 100000 in
theorem c_m_checks (l : Launch) (v : Nat) (hv : v < 4) : Met l y_m_checks (cd_m_checks :: WS) { frames := 0, cells := 0, slots := 0, locals := 0 } (va_Pc [.int (nI v)] (fun _ => True)) (pQ ((nI (ckN v)))) 0 0 noA := by
  refine Met.ofW (cc := b_m_checks) (maxL := 1) (ret := (some .int)) (by decide) rfl ?_
  intro p e s m args below meth c s₁ B hml hv0
  obtain ⟨rfl, -⟩ := hv0
  have hts := atoms_spec (ws := cd_m_checks :: WS) B.pre
  have hown : s.vm.findClass R_Model = some m.cls := findClass_of_methodNamed B.named
  have hlocks := B.notSynchronized
  have hl := lv_entry ([.int (nI v)]) (n := 1) (Nat.le_of_ble_eq_true rfl)
  rw [lg_entry_eq]
  generalize (lg_sl ([.int (nI v)]) ++ List.replicate (1 - (lg_sl ([.int (nI v)])).length) Slot.unset).toArray = ls at hl ⊢
  refine bd_m_checks v hv ⟨B.exec, B.bytes, hml, hown, hts⟩ (Nat.le_refl _) (Nat.le_refl _) ⟨Nat.le_refl _, Nat.le_refl _⟩ (fun pc ls H locs hd hS => ?_) ls _ _ hl (va_S.rf (A := noA))
  exact W.iret B.exec B.bytes B.returns (fun t ht _ => ⟨⟨_, (), rfl, rfl, trivial⟩, hS.F ht⟩) hS.2.2 hd
end
section
theorem d_m_inCorner_0 : decode b_m_inCorner 0 = .ok (.iload_n 0, 1) := by decide +kernel
theorem d_m_inCorner_1 : decode b_m_inCorner 1 = .ok (.bipush 8, 2) := by decide +kernel
theorem d_m_inCorner_3 : decode b_m_inCorner 3 = .ok (.if_icmp .ge 9, 3) := by decide +kernel
theorem d_m_inCorner_6 : decode b_m_inCorner 6 = .ok (.iload_n 1, 1) := by decide +kernel
theorem d_m_inCorner_7 : decode b_m_inCorner 7 = .ok (.bipush 8, 2) := by decide +kernel
theorem d_m_inCorner_9 : decode b_m_inCorner 9 = .ok (.if_icmp .lt 27, 3) := by decide +kernel
theorem d_m_inCorner_12 : decode b_m_inCorner 12 = .ok (.iload_n 0, 1) := by decide +kernel
theorem d_m_inCorner_13 : decode b_m_inCorner 13 = .ok (.bipush 8, 2) := by decide +kernel
theorem d_m_inCorner_15 : decode b_m_inCorner 15 = .ok (.if_icmp .ge 9, 3) := by decide +kernel
theorem d_m_inCorner_18 : decode b_m_inCorner 18 = .ok (.iload_n 1, 1) := by decide +kernel
theorem d_m_inCorner_19 : decode b_m_inCorner 19 = .ok (.bipush 12, 2) := by decide +kernel
theorem d_m_inCorner_21 : decode b_m_inCorner 21 = .ok (.if_icmp .gt 15, 3) := by decide +kernel
theorem d_m_inCorner_24 : decode b_m_inCorner 24 = .ok (.iload_n 0, 1) := by decide +kernel
theorem d_m_inCorner_25 : decode b_m_inCorner 25 = .ok (.bipush 12, 2) := by decide +kernel
theorem d_m_inCorner_27 : decode b_m_inCorner 27 = .ok (.if_icmp .le 13, 3) := by decide +kernel
theorem d_m_inCorner_30 : decode b_m_inCorner 30 = .ok (.iload_n 1, 1) := by decide +kernel
theorem d_m_inCorner_31 : decode b_m_inCorner 31 = .ok (.bipush 8, 2) := by decide +kernel
theorem d_m_inCorner_33 : decode b_m_inCorner 33 = .ok (.if_icmp .ge 7, 3) := by decide +kernel
theorem d_m_inCorner_36 : decode b_m_inCorner 36 = .ok (.iconst 1, 1) := by decide +kernel
theorem d_m_inCorner_37 : decode b_m_inCorner 37 = .ok (.goto 4, 3) := by decide +kernel
theorem d_m_inCorner_40 : decode b_m_inCorner 40 = .ok (.iconst 0, 1) := by decide +kernel
theorem d_m_inCorner_41 : decode b_m_inCorner 41 = .ok (.ireturn, 1) := by decide +kernel
end
section
variable {p : Program} {l : Launch} {e : Env} {R : Room} {s : State} {m : MethodId} {args : Array Value} {below : List Frame} {meth : Method} {c : Code} {cells slots : Nat} {Q : State → Prop} {A : Nat → Prop} {H0 : Heap} {D : va_G}
set_option maxHeartbeats 1000000 in
set_option maxRecDepth 100000 in
theorem bd_m_inCorner (r d : Nat) (hr : r < 21) (hd : d < 21) (S : CallFix p m c b_m_inCorner 2 s args (cd_m_inCorner :: WS) R_Model) (hRf : 0 ≤ R.frames) (hRl : 0 ≤ R.locals) (hRc : cells ≤ R.cells ∧ slots ≤ R.slots) (kr : ∀ (pc : Nat) (ls : Array Slot) (H : Heap) (locs : List Loc), decode b_m_inCorner pc = .ok (.ireturn, 1) → va_S A H0 H locs → W p l e R s m args below meth c H locs cells slots Q (F0 m pc ls [.int (nI (bN (inC r d)))])) : ∀ (ls : Array Slot) (H : Heap) (locs : List Loc), lv_has ls 2 [(0, .int (nI r)), (1, .int (nI d))] → va_S A H0 H locs → W p l e R s m args below meth c H locs cells slots Q (F0 m 0 ls []) := by
  obtain ⟨hx, hb, hml, hown, hts⟩ := id S
  intro ls H locs hl hS
  refine lv_iload_n hx hb d_m_inCorner_0 rfl (lv_at hl 0 rfl) ?_
  refine lv_bipush (v := nI 8) hx hb d_m_inCorner_1 (by decide) ?_
  refine n_icmp_ge hx hb d_m_inCorner_3 (tgt := 12) rfl (by omega) (by omega) (fun g3 => ?_) (fun g3 => ?_)
  · skip
    refine lv_iload_n hx hb d_m_inCorner_12 rfl (lv_at hl 0 rfl) ?_
    refine lv_bipush (v := nI 8) hx hb d_m_inCorner_13 (by decide) ?_
    refine n_icmp_ge hx hb d_m_inCorner_15 (tgt := 24) rfl (by omega) (by omega) (fun g15 => ?_) (fun g15 => ?_)
    · skip
      refine lv_iload_n hx hb d_m_inCorner_24 rfl (lv_at hl 0 rfl) ?_
      refine lv_bipush (v := nI 12) hx hb d_m_inCorner_25 (by decide) ?_
      refine n_icmp_le hx hb d_m_inCorner_27 (tgt := 40) rfl (by omega) (by omega) (fun g27 => ?_) (fun g27 => ?_)
      · skip
        refine lv_iconst (v := nI 0) hx hb d_m_inCorner_40 (by decide) ?_
        refine n_topn (show 0 = bN (inC r d) from (by unfold bN inC; (repeat' split) <;> omega)) ?_
        exact kr _ ls H locs d_m_inCorner_41 hS
      · skip
        refine lv_iload_n hx hb d_m_inCorner_30 rfl (lv_at hl 1 rfl) ?_
        refine lv_bipush (v := nI 8) hx hb d_m_inCorner_31 (by decide) ?_
        refine n_icmp_ge hx hb d_m_inCorner_33 (tgt := 40) rfl (by omega) (by omega) (fun g33 => ?_) (fun g33 => ?_)
        · skip
          refine lv_iconst (v := nI 0) hx hb d_m_inCorner_40 (by decide) ?_
          refine n_topn (show 0 = bN (inC r d) from (by unfold bN inC; (repeat' split) <;> omega)) ?_
          exact kr _ ls H locs d_m_inCorner_41 hS
        · skip
          refine lv_iconst (v := nI 1) hx hb d_m_inCorner_36 (by decide) ?_
          refine lv_goto hx hb d_m_inCorner_37 (tgt := 41) rfl ?_
          refine n_topn (show 1 = bN (inC r d) from (by unfold bN inC; (repeat' split) <;> omega)) ?_
          exact kr _ ls H locs d_m_inCorner_41 hS
    · skip
      refine lv_iload_n hx hb d_m_inCorner_18 rfl (lv_at hl 1 rfl) ?_
      refine lv_bipush (v := nI 12) hx hb d_m_inCorner_19 (by decide) ?_
      refine n_icmp_gt hx hb d_m_inCorner_21 (tgt := 36) rfl (by omega) (by omega) (fun g21 => ?_) (fun g21 => ?_)
      · skip
        refine lv_iconst (v := nI 1) hx hb d_m_inCorner_36 (by decide) ?_
        refine lv_goto hx hb d_m_inCorner_37 (tgt := 41) rfl ?_
        refine n_topn (show 1 = bN (inC r d) from (by unfold bN inC; (repeat' split) <;> omega)) ?_
        exact kr _ ls H locs d_m_inCorner_41 hS
      · skip
        refine lv_iload_n hx hb d_m_inCorner_24 rfl (lv_at hl 0 rfl) ?_
        refine lv_bipush (v := nI 12) hx hb d_m_inCorner_25 (by decide) ?_
        refine n_icmp_le hx hb d_m_inCorner_27 (tgt := 40) rfl (by omega) (by omega) (fun g27 => ?_) (fun g27 => ?_)
        · skip
          refine lv_iconst (v := nI 0) hx hb d_m_inCorner_40 (by decide) ?_
          refine n_topn (show 0 = bN (inC r d) from (by unfold bN inC; (repeat' split) <;> omega)) ?_
          exact kr _ ls H locs d_m_inCorner_41 hS
        · skip
          refine lv_iload_n hx hb d_m_inCorner_30 rfl (lv_at hl 1 rfl) ?_
          refine lv_bipush (v := nI 8) hx hb d_m_inCorner_31 (by decide) ?_
          refine n_icmp_ge hx hb d_m_inCorner_33 (tgt := 40) rfl (by omega) (by omega) (fun g33 => ?_) (fun g33 => ?_)
          · skip
            refine lv_iconst (v := nI 0) hx hb d_m_inCorner_40 (by decide) ?_
            refine n_topn (show 0 = bN (inC r d) from (by unfold bN inC; (repeat' split) <;> omega)) ?_
            exact kr _ ls H locs d_m_inCorner_41 hS
          · skip
            refine lv_iconst (v := nI 1) hx hb d_m_inCorner_36 (by decide) ?_
            refine lv_goto hx hb d_m_inCorner_37 (tgt := 41) rfl ?_
            refine n_topn (show 1 = bN (inC r d) from (by unfold bN inC; (repeat' split) <;> omega)) ?_
            exact kr _ ls H locs d_m_inCorner_41 hS
  · skip
    refine lv_iload_n hx hb d_m_inCorner_6 rfl (lv_at hl 1 rfl) ?_
    refine lv_bipush (v := nI 8) hx hb d_m_inCorner_7 (by decide) ?_
    refine n_icmp_lt hx hb d_m_inCorner_9 (tgt := 36) rfl (by omega) (by omega) (fun g9 => ?_) (fun g9 => ?_)
    · skip
      refine lv_iconst (v := nI 1) hx hb d_m_inCorner_36 (by decide) ?_
      refine lv_goto hx hb d_m_inCorner_37 (tgt := 41) rfl ?_
      refine n_topn (show 1 = bN (inC r d) from (by unfold bN inC; (repeat' split) <;> omega)) ?_
      exact kr _ ls H locs d_m_inCorner_41 hS
    · skip
      refine lv_iload_n hx hb d_m_inCorner_12 rfl (lv_at hl 0 rfl) ?_
      refine lv_bipush (v := nI 8) hx hb d_m_inCorner_13 (by decide) ?_
      refine n_icmp_ge hx hb d_m_inCorner_15 (tgt := 24) rfl (by omega) (by omega) (fun g15 => ?_) (fun g15 => ?_)
      · skip
        refine lv_iload_n hx hb d_m_inCorner_24 rfl (lv_at hl 0 rfl) ?_
        refine lv_bipush (v := nI 12) hx hb d_m_inCorner_25 (by decide) ?_
        refine n_icmp_le hx hb d_m_inCorner_27 (tgt := 40) rfl (by omega) (by omega) (fun g27 => ?_) (fun g27 => ?_)
        · skip
          refine lv_iconst (v := nI 0) hx hb d_m_inCorner_40 (by decide) ?_
          refine n_topn (show 0 = bN (inC r d) from (by unfold bN inC; (repeat' split) <;> omega)) ?_
          exact kr _ ls H locs d_m_inCorner_41 hS
        · skip
          refine lv_iload_n hx hb d_m_inCorner_30 rfl (lv_at hl 1 rfl) ?_
          refine lv_bipush (v := nI 8) hx hb d_m_inCorner_31 (by decide) ?_
          refine n_icmp_ge hx hb d_m_inCorner_33 (tgt := 40) rfl (by omega) (by omega) (fun g33 => ?_) (fun g33 => ?_)
          · skip
            refine lv_iconst (v := nI 0) hx hb d_m_inCorner_40 (by decide) ?_
            refine n_topn (show 0 = bN (inC r d) from (by unfold bN inC; (repeat' split) <;> omega)) ?_
            exact kr _ ls H locs d_m_inCorner_41 hS
          · skip
            refine lv_iconst (v := nI 1) hx hb d_m_inCorner_36 (by decide) ?_
            refine lv_goto hx hb d_m_inCorner_37 (tgt := 41) rfl ?_
            refine n_topn (show 1 = bN (inC r d) from (by unfold bN inC; (repeat' split) <;> omega)) ?_
            exact kr _ ls H locs d_m_inCorner_41 hS
      · skip
        refine lv_iload_n hx hb d_m_inCorner_18 rfl (lv_at hl 1 rfl) ?_
        refine lv_bipush (v := nI 12) hx hb d_m_inCorner_19 (by decide) ?_
        refine n_icmp_gt hx hb d_m_inCorner_21 (tgt := 36) rfl (by omega) (by omega) (fun g21 => ?_) (fun g21 => ?_)
        · skip
          refine lv_iconst (v := nI 1) hx hb d_m_inCorner_36 (by decide) ?_
          refine lv_goto hx hb d_m_inCorner_37 (tgt := 41) rfl ?_
          refine n_topn (show 1 = bN (inC r d) from (by unfold bN inC; (repeat' split) <;> omega)) ?_
          exact kr _ ls H locs d_m_inCorner_41 hS
        · skip
          refine lv_iload_n hx hb d_m_inCorner_24 rfl (lv_at hl 0 rfl) ?_
          refine lv_bipush (v := nI 12) hx hb d_m_inCorner_25 (by decide) ?_
          refine n_icmp_le hx hb d_m_inCorner_27 (tgt := 40) rfl (by omega) (by omega) (fun g27 => ?_) (fun g27 => ?_)
          · skip
            refine lv_iconst (v := nI 0) hx hb d_m_inCorner_40 (by decide) ?_
            refine n_topn (show 0 = bN (inC r d) from (by unfold bN inC; (repeat' split) <;> omega)) ?_
            exact kr _ ls H locs d_m_inCorner_41 hS
          · skip
            refine lv_iload_n hx hb d_m_inCorner_30 rfl (lv_at hl 1 rfl) ?_
            refine lv_bipush (v := nI 8) hx hb d_m_inCorner_31 (by decide) ?_
            refine n_icmp_ge hx hb d_m_inCorner_33 (tgt := 40) rfl (by omega) (by omega) (fun g33 => ?_) (fun g33 => ?_)
            · skip
              refine lv_iconst (v := nI 0) hx hb d_m_inCorner_40 (by decide) ?_
              refine n_topn (show 0 = bN (inC r d) from (by unfold bN inC; (repeat' split) <;> omega)) ?_
              exact kr _ ls H locs d_m_inCorner_41 hS
            · skip
              refine lv_iconst (v := nI 1) hx hb d_m_inCorner_36 (by decide) ?_
              refine lv_goto hx hb d_m_inCorner_37 (tgt := 41) rfl ?_
              refine n_topn (show 1 = bN (inC r d) from (by unfold bN inC; (repeat' split) <;> omega)) ?_
              exact kr _ ls H locs d_m_inCorner_41 hS
set_option maxHeartbeats 1000000 in
set_option maxRecDepth 100000 in
theorem c_m_inCorner (l : Launch) (r d : Nat) (hr : r < 21) (hd : d < 21) : Met l y_m_inCorner (cd_m_inCorner :: WS) { frames := 0, cells := 0, slots := 0, locals := 0 } (va_Pc [.int (nI r), .int (nI d)] (fun _ => True)) (pQ ((nI (bN (inC r d))))) 0 0 noA := by
  refine Met.ofW (cc := b_m_inCorner) (maxL := 2) (ret := (some .boolean)) (by decide) rfl ?_
  intro p e s m args below meth c s₁ B hml hv0
  obtain ⟨rfl, -⟩ := hv0
  have hts := atoms_spec (ws := cd_m_inCorner :: WS) B.pre
  have hown : s.vm.findClass R_Model = some m.cls := findClass_of_methodNamed B.named
  have hlocks := B.notSynchronized
  have hl := lv_entry ([.int (nI r), .int (nI d)]) (n := 2) (Nat.le_of_ble_eq_true rfl)
  rw [lg_entry_eq]
  generalize (lg_sl ([.int (nI r), .int (nI d)]) ++ List.replicate (2 - (lg_sl ([.int (nI r), .int (nI d)])).length) Slot.unset).toArray = ls at hl ⊢
  refine bd_m_inCorner r d hr hd ⟨B.exec, B.bytes, hml, hown, hts⟩ (Nat.le_refl _) (Nat.le_refl _) ⟨Nat.le_refl _, Nat.le_refl _⟩ (fun pc ls H locs hd hS => ?_) ls _ _ hl (va_S.rf (A := noA))
  exact W.zret B.exec B.bytes B.returns (bN_fit _) (fun t ht _ => ⟨⟨_, (), rfl, rfl, trivial⟩, hS.F ht⟩) hS.2.2 hd
end
section
theorem d_m_isFixed_0 : decode b_m_isFixed 0 = .ok (.iload_n 0, 1) := by decide +kernel
theorem d_m_isFixed_1 : decode b_m_isFixed 1 = .ok (.iload_n 1, 1) := by decide +kernel
theorem d_m_isFixed_2 : decode b_m_isFixed 2 = .ok (.invokestatic 69, 3) := by decide +kernel
theorem d_m_isFixed_5 : decode b_m_isFixed 5 = .ok (.ifCond .ne 27, 3) := by decide +kernel
theorem d_m_isFixed_8 : decode b_m_isFixed 8 = .ok (.iload_n 0, 1) := by decide +kernel
theorem d_m_isFixed_9 : decode b_m_isFixed 9 = .ok (.bipush 6, 2) := by decide +kernel
theorem d_m_isFixed_11 : decode b_m_isFixed 11 = .ok (.if_icmp .eq 21, 3) := by decide +kernel
theorem d_m_isFixed_14 : decode b_m_isFixed 14 = .ok (.iload_n 1, 1) := by decide +kernel
theorem d_m_isFixed_15 : decode b_m_isFixed 15 = .ok (.bipush 6, 2) := by decide +kernel
theorem d_m_isFixed_17 : decode b_m_isFixed 17 = .ok (.if_icmp .eq 15, 3) := by decide +kernel
theorem d_m_isFixed_20 : decode b_m_isFixed 20 = .ok (.iload_n 0, 1) := by decide +kernel
theorem d_m_isFixed_21 : decode b_m_isFixed 21 = .ok (.bipush 13, 2) := by decide +kernel
theorem d_m_isFixed_23 : decode b_m_isFixed 23 = .ok (.if_icmp .ne 13, 3) := by decide +kernel
theorem d_m_isFixed_26 : decode b_m_isFixed 26 = .ok (.iload_n 1, 1) := by decide +kernel
theorem d_m_isFixed_27 : decode b_m_isFixed 27 = .ok (.bipush 8, 2) := by decide +kernel
theorem d_m_isFixed_29 : decode b_m_isFixed 29 = .ok (.if_icmp .ne 7, 3) := by decide +kernel
theorem d_m_isFixed_32 : decode b_m_isFixed 32 = .ok (.iconst 1, 1) := by decide +kernel
theorem d_m_isFixed_33 : decode b_m_isFixed 33 = .ok (.goto 4, 3) := by decide +kernel
theorem d_m_isFixed_36 : decode b_m_isFixed 36 = .ok (.iconst 0, 1) := by decide +kernel
theorem d_m_isFixed_37 : decode b_m_isFixed 37 = .ok (.ireturn, 1) := by decide +kernel
end
section
variable {p : Program} {l : Launch} {e : Env} {R : Room} {s : State} {m : MethodId} {args : Array Value} {below : List Frame} {meth : Method} {c : Code} {cells slots : Nat} {Q : State → Prop} {A : Nat → Prop} {H0 : Heap} {D : va_G}
set_option maxHeartbeats 1000000 in
set_option maxRecDepth 100000 in
theorem bd_m_isFixed (r d : Nat) (hr : r < 21) (hd : d < 21) (S : CallFix p m c b_m_isFixed 2 s args (cd_m_isFixed :: WS) R_Model) (hRf : 1 ≤ R.frames) (hRl : 21 ≤ R.locals) (hRc : cells ≤ R.cells ∧ slots ≤ R.slots) (kr : ∀ (pc : Nat) (ls : Array Slot) (H : Heap) (locs : List Loc), decode b_m_isFixed pc = .ok (.ireturn, 1) → va_S A H0 H locs → W p l e R s m args below meth c H locs cells slots Q (F0 m pc ls [.int (nI (bN (isF r d)))])) : ∀ (ls : Array Slot) (H : Heap) (locs : List Loc), lv_has ls 2 [(0, .int (nI r)), (1, .int (nI d))] → va_S A H0 H locs → W p l e R s m args below meth c H locs cells slots Q (F0 m 0 ls []) := by
  obtain ⟨hx, hb, hml, hown, hts⟩ := id S
  intro ls H locs hl hS
  have hbn := bN_le (inC r d)
  refine lv_iload_n hx hb d_m_isFixed_0 rfl (lv_at hl 0 rfl) ?_
  refine lv_iload_n hx hb d_m_isFixed_1 rfl (lv_at hl 1 rfl) ?_
  refine q_pureS (n := 2) (As := [.int (nI r), .int (nI d)]) (rest := []) S (c_m_inCorner l r d (by omega) (by omega)) (q_goodS kw_773 kw_774 kw_10 kw_775) (by decide +kernel) rfl rfl ⟨Nat.le_trans (Nat.le_of_ble_eq_true rfl) hRf, Nat.le_trans (Nat.le_of_ble_eq_true rfl) hRl⟩ rfl hl.1 rfl (Nat.le_of_ble_eq_true rfl) d_m_isFixed_2 hRc hS (fun H locs hkp hS => ?_)
  refine n_if_ne hx hb d_m_isFixed_5 (tgt := 32) rfl (by omega) (fun g5 => ?_) (fun g5 => ?_)
  · skip
    refine lv_iconst (v := nI 1) hx hb d_m_isFixed_32 (by decide) ?_
    refine lv_goto hx hb d_m_isFixed_33 (tgt := 37) rfl ?_
    refine n_topn (show 1 = bN (isF r d) from (by (try simp only [bN_e0, bN_ne0] at g5); (try unfold inC at g5); unfold bN isF; (try unfold inC); (repeat' split) <;> omega)) ?_
    exact kr _ ls H locs d_m_isFixed_37 hS
  · skip
    refine lv_iload_n hx hb d_m_isFixed_8 rfl (lv_at hl 0 rfl) ?_
    refine lv_bipush (v := nI 6) hx hb d_m_isFixed_9 (by decide) ?_
    refine n_icmp_eq hx hb d_m_isFixed_11 (tgt := 32) rfl (by omega) (by omega) (fun g11 => ?_) (fun g11 => ?_)
    · skip
      refine lv_iconst (v := nI 1) hx hb d_m_isFixed_32 (by decide) ?_
      refine lv_goto hx hb d_m_isFixed_33 (tgt := 37) rfl ?_
      refine n_topn (show 1 = bN (isF r d) from (by (try simp only [bN_e0, bN_ne0] at g5); (try unfold inC at g5); unfold bN isF; (try unfold inC); (repeat' split) <;> omega)) ?_
      exact kr _ ls H locs d_m_isFixed_37 hS
    · skip
      refine lv_iload_n hx hb d_m_isFixed_14 rfl (lv_at hl 1 rfl) ?_
      refine lv_bipush (v := nI 6) hx hb d_m_isFixed_15 (by decide) ?_
      refine n_icmp_eq hx hb d_m_isFixed_17 (tgt := 32) rfl (by omega) (by omega) (fun g17 => ?_) (fun g17 => ?_)
      · skip
        refine lv_iconst (v := nI 1) hx hb d_m_isFixed_32 (by decide) ?_
        refine lv_goto hx hb d_m_isFixed_33 (tgt := 37) rfl ?_
        refine n_topn (show 1 = bN (isF r d) from (by (try simp only [bN_e0, bN_ne0] at g5); (try unfold inC at g5); unfold bN isF; (try unfold inC); (repeat' split) <;> omega)) ?_
        exact kr _ ls H locs d_m_isFixed_37 hS
      · skip
        refine lv_iload_n hx hb d_m_isFixed_20 rfl (lv_at hl 0 rfl) ?_
        refine lv_bipush (v := nI 13) hx hb d_m_isFixed_21 (by decide) ?_
        refine n_icmp_ne hx hb d_m_isFixed_23 (tgt := 36) rfl (by omega) (by omega) (fun g23 => ?_) (fun g23 => ?_)
        · skip
          refine lv_iconst (v := nI 0) hx hb d_m_isFixed_36 (by decide) ?_
          refine n_topn (show 0 = bN (isF r d) from (by (try simp only [bN_e0, bN_ne0] at g5); (try unfold inC at g5); unfold bN isF; (try unfold inC); (repeat' split) <;> omega)) ?_
          exact kr _ ls H locs d_m_isFixed_37 hS
        · skip
          refine lv_iload_n hx hb d_m_isFixed_26 rfl (lv_at hl 1 rfl) ?_
          refine lv_bipush (v := nI 8) hx hb d_m_isFixed_27 (by decide) ?_
          refine n_icmp_ne hx hb d_m_isFixed_29 (tgt := 36) rfl (by omega) (by omega) (fun g29 => ?_) (fun g29 => ?_)
          · skip
            refine lv_iconst (v := nI 0) hx hb d_m_isFixed_36 (by decide) ?_
            refine n_topn (show 0 = bN (isF r d) from (by (try simp only [bN_e0, bN_ne0] at g5); (try unfold inC at g5); unfold bN isF; (try unfold inC); (repeat' split) <;> omega)) ?_
            exact kr _ ls H locs d_m_isFixed_37 hS
          · skip
            refine lv_iconst (v := nI 1) hx hb d_m_isFixed_32 (by decide) ?_
            refine lv_goto hx hb d_m_isFixed_33 (tgt := 37) rfl ?_
            refine n_topn (show 1 = bN (isF r d) from (by (try simp only [bN_e0, bN_ne0] at g5); (try unfold inC at g5); unfold bN isF; (try unfold inC); (repeat' split) <;> omega)) ?_
            exact kr _ ls H locs d_m_isFixed_37 hS
set_option maxHeartbeats 1000000 in
set_option maxRecDepth 100000 in
theorem c_m_isFixed (l : Launch) (r d : Nat) (hr : r < 21) (hd : d < 21) : Met l y_m_isFixed (cd_m_isFixed :: WS) { frames := 1, cells := 0, slots := 0, locals := 21 } (va_Pc [.int (nI r), .int (nI d)] (fun _ => True)) (pQ ((nI (bN (isF r d))))) 0 0 noA := by
  refine Met.ofW (cc := b_m_isFixed) (maxL := 2) (ret := (some .boolean)) (by decide) rfl ?_
  intro p e s m args below meth c s₁ B hml hv0
  obtain ⟨rfl, -⟩ := hv0
  have hts := atoms_spec (ws := cd_m_isFixed :: WS) B.pre
  have hown : s.vm.findClass R_Model = some m.cls := findClass_of_methodNamed B.named
  have hlocks := B.notSynchronized
  have hl := lv_entry ([.int (nI r), .int (nI d)]) (n := 2) (Nat.le_of_ble_eq_true rfl)
  rw [lg_entry_eq]
  generalize (lg_sl ([.int (nI r), .int (nI d)]) ++ List.replicate (2 - (lg_sl ([.int (nI r), .int (nI d)])).length) Slot.unset).toArray = ls at hl ⊢
  refine bd_m_isFixed r d hr hd ⟨B.exec, B.bytes, hml, hown, hts⟩ (Nat.le_refl _) (Nat.le_refl _) ⟨Nat.le_refl _, Nat.le_refl _⟩ (fun pc ls H locs hd hS => ?_) ls _ _ hl (va_S.rf (A := noA))
  exact W.zret B.exec B.bytes B.returns (bN_fit _) (fun t ht _ => ⟨⟨_, (), rfl, rfl, trivial⟩, hS.F ht⟩) hS.2.2 hd
end
section
theorem d_m_isModule_0 : decode b_m_isModule 0 = .ok (.iload_n 0, 1) := by decide +kernel
theorem d_m_isModule_1 : decode b_m_isModule 1 = .ok (.ifCond .lt 23, 3) := by decide +kernel
theorem d_m_isModule_4 : decode b_m_isModule 4 = .ok (.iload_n 0, 1) := by decide +kernel
theorem d_m_isModule_5 : decode b_m_isModule 5 = .ok (.bipush 21, 2) := by decide +kernel
theorem d_m_isModule_7 : decode b_m_isModule 7 = .ok (.if_icmp .ge 17, 3) := by decide +kernel
theorem d_m_isModule_10 : decode b_m_isModule 10 = .ok (.iload_n 1, 1) := by decide +kernel
theorem d_m_isModule_11 : decode b_m_isModule 11 = .ok (.ifCond .lt 13, 3) := by decide +kernel
theorem d_m_isModule_14 : decode b_m_isModule 14 = .ok (.iload_n 1, 1) := by decide +kernel
theorem d_m_isModule_15 : decode b_m_isModule 15 = .ok (.bipush 21, 2) := by decide +kernel
theorem d_m_isModule_17 : decode b_m_isModule 17 = .ok (.if_icmp .ge 7, 3) := by decide +kernel
theorem d_m_isModule_20 : decode b_m_isModule 20 = .ok (.iconst 1, 1) := by decide +kernel
theorem d_m_isModule_21 : decode b_m_isModule 21 = .ok (.goto 4, 3) := by decide +kernel
theorem d_m_isModule_24 : decode b_m_isModule 24 = .ok (.iconst 0, 1) := by decide +kernel
theorem d_m_isModule_25 : decode b_m_isModule 25 = .ok (.ireturn, 1) := by decide +kernel
end
section
variable {p : Program} {l : Launch} {e : Env} {R : Room} {s : State} {m : MethodId} {args : Array Value} {below : List Frame} {meth : Method} {c : Code} {cells slots : Nat} {Q : State → Prop} {A : Nat → Prop} {H0 : Heap} {D : va_G}
set_option maxHeartbeats 1000000 in
set_option maxRecDepth 100000 in
theorem bd_m_isModule (r d : Int32) (S : CallFix p m c b_m_isModule 2 s args (cd_m_isModule :: WS) R_Model) (hRf : 0 ≤ R.frames) (hRl : 0 ≤ R.locals) (hRc : cells ≤ R.cells ∧ slots ≤ R.slots) (kr : ∀ (pc : Nat) (ls : Array Slot) (H : Heap) (locs : List Loc), decode b_m_isModule pc = .ok (.ireturn, 1) → va_S A H0 H locs → W p l e R s m args below meth c H locs cells slots Q (F0 m pc ls [.int (nI (bN (isM r d)))])) : ∀ (ls : Array Slot) (H : Heap) (locs : List Loc), lv_has ls 2 [(0, .int r), (1, .int d)] → va_S A H0 H locs → W p l e R s m args below meth c H locs cells slots Q (F0 m 0 ls []) := by
  obtain ⟨hx, hb, hml, hown, hts⟩ := id S
  intro ls H locs hl hS
  refine lv_iload_n hx hb d_m_isModule_0 rfl (lv_at hl 0 rfl) ?_
  refine lv_if_lt hx hb d_m_isModule_1 (tgt := 24) rfl (fun g1 => ?_) (fun g1 => ?_)
  · skip
    refine lv_iconst (v := nI 0) hx hb d_m_isModule_24 (by decide) ?_
    refine n_topn (show 0 = bN (isM r d) from (by unfold bN; (repeat' split) <;> first | rfl | (exfalso; simp_all))) ?_
    exact kr _ ls H locs d_m_isModule_25 hS
  · skip
    refine lv_iload_n hx hb d_m_isModule_4 rfl (lv_at hl 0 rfl) ?_
    refine lv_bipush (v := nI 21) hx hb d_m_isModule_5 (by decide) ?_
    refine lv_icmp_ge hx hb d_m_isModule_7 (tgt := 24) rfl (fun g7 => ?_) (fun g7 => ?_)
    · skip
      refine lv_iconst (v := nI 0) hx hb d_m_isModule_24 (by decide) ?_
      refine n_topn (show 0 = bN (isM r d) from (by unfold bN; (repeat' split) <;> first | rfl | (exfalso; simp_all))) ?_
      exact kr _ ls H locs d_m_isModule_25 hS
    · skip
      refine lv_iload_n hx hb d_m_isModule_10 rfl (lv_at hl 1 rfl) ?_
      refine lv_if_lt hx hb d_m_isModule_11 (tgt := 24) rfl (fun g11 => ?_) (fun g11 => ?_)
      · skip
        refine lv_iconst (v := nI 0) hx hb d_m_isModule_24 (by decide) ?_
        refine n_topn (show 0 = bN (isM r d) from (by unfold bN; (repeat' split) <;> first | rfl | (exfalso; simp_all))) ?_
        exact kr _ ls H locs d_m_isModule_25 hS
      · skip
        refine lv_iload_n hx hb d_m_isModule_14 rfl (lv_at hl 1 rfl) ?_
        refine lv_bipush (v := nI 21) hx hb d_m_isModule_15 (by decide) ?_
        refine lv_icmp_ge hx hb d_m_isModule_17 (tgt := 24) rfl (fun g17 => ?_) (fun g17 => ?_)
        · skip
          refine lv_iconst (v := nI 0) hx hb d_m_isModule_24 (by decide) ?_
          refine n_topn (show 0 = bN (isM r d) from (by unfold bN; (repeat' split) <;> first | rfl | (exfalso; simp_all))) ?_
          exact kr _ ls H locs d_m_isModule_25 hS
        · skip
          refine lv_iconst (v := nI 1) hx hb d_m_isModule_20 (by decide) ?_
          refine lv_goto hx hb d_m_isModule_21 (tgt := 25) rfl ?_
          refine n_topn (show 1 = bN (isM r d) from (by unfold bN; (repeat' split) <;> first | rfl | (exfalso; simp_all))) ?_
          exact kr _ ls H locs d_m_isModule_25 hS
set_option maxHeartbeats 1000000 in
set_option maxRecDepth 100000 in
theorem c_m_isModule (l : Launch) (r d : Int32) : Met l y_m_isModule (cd_m_isModule :: WS) { frames := 0, cells := 0, slots := 0, locals := 0 } (va_Pc [.int r, .int d] (fun _ => True)) (pQ ((nI (bN (isM r d))))) 0 0 noA := by
  refine Met.ofW (cc := b_m_isModule) (maxL := 2) (ret := (some .boolean)) (by decide) rfl ?_
  intro p e s m args below meth c s₁ B hml hv0
  obtain ⟨rfl, -⟩ := hv0
  have hts := atoms_spec (ws := cd_m_isModule :: WS) B.pre
  have hown : s.vm.findClass R_Model = some m.cls := findClass_of_methodNamed B.named
  have hlocks := B.notSynchronized
  have hl := lv_entry ([.int r, .int d]) (n := 2) (Nat.le_of_ble_eq_true rfl)
  rw [lg_entry_eq]
  generalize (lg_sl ([.int r, .int d]) ++ List.replicate (2 - (lg_sl ([.int r, .int d])).length) Slot.unset).toArray = ls at hl ⊢
  refine bd_m_isModule r d ⟨B.exec, B.bytes, hml, hown, hts⟩ (Nat.le_refl _) (Nat.le_refl _) ⟨Nat.le_refl _, Nat.le_refl _⟩ (fun pc ls H locs hd hS => ?_) ls _ _ hl (va_S.rf (A := noA))
  exact W.zret B.exec B.bytes B.returns (bN_fit _) (fun t ht _ => ⟨⟨_, (), rfl, rfl, trivial⟩, hS.F ht⟩) hS.2.2 hd
end
section
theorem d_m_times_0 : decode b_m_times 0 = .ok (.iconst 0, 1) := by decide +kernel
theorem d_m_times_1 : decode b_m_times 1 = .ok (.istore_n 2, 1) := by decide +kernel
theorem d_m_times_2 : decode b_m_times 2 = .ok (.iload_n 0, 1) := by decide +kernel
theorem d_m_times_3 : decode b_m_times 3 = .ok (.istore_n 3, 1) := by decide +kernel
theorem d_m_times_4 : decode b_m_times 4 = .ok (.iconst 0, 1) := by decide +kernel
theorem d_m_times_5 : decode b_m_times 5 = .ok (.istore 4, 2) := by decide +kernel
theorem d_m_times_7 : decode b_m_times 7 = .ok (.iload 4, 2) := by decide +kernel
theorem d_m_times_9 : decode b_m_times 9 = .ok (.bipush 8, 2) := by decide +kernel
theorem d_m_times_11 : decode b_m_times 11 = .ok (.if_icmp .ge 48, 3) := by decide +kernel
theorem d_m_times_14 : decode b_m_times 14 = .ok (.iload_n 1, 1) := by decide +kernel
theorem d_m_times_15 : decode b_m_times 15 = .ok (.iload 4, 2) := by decide +kernel
theorem d_m_times_17 : decode b_m_times 17 = .ok (.ishr, 1) := by decide +kernel
theorem d_m_times_18 : decode b_m_times 18 = .ok (.iconst 1, 1) := by decide +kernel
theorem d_m_times_19 : decode b_m_times 19 = .ok (.iand, 1) := by decide +kernel
theorem d_m_times_20 : decode b_m_times 20 = .ok (.iconst 1, 1) := by decide +kernel
theorem d_m_times_21 : decode b_m_times 21 = .ok (.if_icmp .ne 9, 3) := by decide +kernel
theorem d_m_times_24 : decode b_m_times 24 = .ok (.iload_n 2, 1) := by decide +kernel
theorem d_m_times_25 : decode b_m_times 25 = .ok (.iload_n 3, 1) := by decide +kernel
theorem d_m_times_26 : decode b_m_times 26 = .ok (.ixor, 1) := by decide +kernel
theorem d_m_times_27 : decode b_m_times 27 = .ok (.goto 4, 3) := by decide +kernel
theorem d_m_times_30 : decode b_m_times 30 = .ok (.iload_n 2, 1) := by decide +kernel
theorem d_m_times_31 : decode b_m_times 31 = .ok (.istore_n 2, 1) := by decide +kernel
theorem d_m_times_32 : decode b_m_times 32 = .ok (.iload_n 3, 1) := by decide +kernel
theorem d_m_times_33 : decode b_m_times 33 = .ok (.iconst 1, 1) := by decide +kernel
theorem d_m_times_34 : decode b_m_times 34 = .ok (.ishl, 1) := by decide +kernel
theorem d_m_times_35 : decode b_m_times 35 = .ok (.istore_n 3, 1) := by decide +kernel
theorem d_m_times_36 : decode b_m_times 36 = .ok (.iload_n 3, 1) := by decide +kernel
theorem d_m_times_37 : decode b_m_times 37 = .ok (.sipush 255, 3) := by decide +kernel
theorem d_m_times_40 : decode b_m_times 40 = .ok (.if_icmp .le 11, 3) := by decide +kernel
theorem d_m_times_43 : decode b_m_times 43 = .ok (.iload_n 3, 1) := by decide +kernel
theorem d_m_times_44 : decode b_m_times 44 = .ok (.sipush 285, 3) := by decide +kernel
theorem d_m_times_47 : decode b_m_times 47 = .ok (.ixor, 1) := by decide +kernel
theorem d_m_times_48 : decode b_m_times 48 = .ok (.goto 4, 3) := by decide +kernel
theorem d_m_times_51 : decode b_m_times 51 = .ok (.iload_n 3, 1) := by decide +kernel
theorem d_m_times_52 : decode b_m_times 52 = .ok (.istore_n 3, 1) := by decide +kernel
theorem d_m_times_53 : decode b_m_times 53 = .ok (.iinc 4 1, 3) := by decide +kernel
theorem d_m_times_56 : decode b_m_times 56 = .ok (.goto (-49), 3) := by decide +kernel
theorem d_m_times_59 : decode b_m_times 59 = .ok (.iload_n 2, 1) := by decide +kernel
theorem d_m_times_60 : decode b_m_times 60 = .ok (.ireturn, 1) := by decide +kernel
end
section
variable {p : Program} {l : Launch} {e : Env} {R : Room} {s : State} {m : MethodId} {args : Array Value} {below : List Frame} {meth : Method} {c : Code} {cells slots : Nat} {Q : State → Prop} {A : Nat → Prop} {H0 : Heap} {D : va_G}
set_option maxHeartbeats 1000000 in
set_option maxRecDepth 100000 in
theorem lp_m_times_7 (a b : Nat) (ha : a < 256) (hb0 : b < 256) (S : CallFix p m c b_m_times 5 s args (cd_m_times :: WS) R_Model) (hRf : 0 ≤ R.frames) (hRl : 0 ≤ R.locals) (hRc : cells ≤ R.cells ∧ slots ≤ R.slots) (kx : ∀ (ls : Array Slot) (H : Heap) (locs : List Loc), lv_has ls 5 [(0, .int (nI a)), (1, .int (nI b)), (2, .int (nI ((gmL a b 8).1))), (3, .int (nI ((gmL a b 8).2))), (4, .int (nI 8))] → va_S A H0 H locs → W p l e R s m args below meth c H locs cells slots Q (F0 m 59 ls [])) :
    ∀ k, k ≤ 8 → ∀ (ls : Array Slot) (H : Heap) (locs : List Loc), lv_has ls 5 [(0, .int (nI a)), (1, .int (nI b)), (2, .int (nI ((gmL a b k).1))), (3, .int (nI ((gmL a b k).2))), (4, .int (nI k))] → va_S A H0 H locs → W p l e R s m args below meth c H locs cells slots Q (F0 m 7 ls []) := by
  obtain ⟨hx, hb, hml, hown, hts⟩ := id S
  refine up_loop (fun k hkk ih => ?_)
  intro ls H locs hl hS
  have hq := gmL_lt b ha k
  refine lv_iload hx hb d_m_times_7 (lv_at hl 4 rfl) ?_
  refine lv_bipush (v := nI 8) hx hb d_m_times_9 (by decide) ?_
  refine n_icmp_ge hx hb d_m_times_11 (tgt := 59) rfl (by omega) (by omega) (fun g11 => ?_) (fun g11 => ?_)
  · skip
    obtain rfl : k = 8 := by omega
    exact kx ls H locs (lv_sub hl [0, 1, 2, 3, 4] rfl) hS
  · skip
    refine lv_iload_n hx hb d_m_times_14 rfl (lv_at hl 1 rfl) ?_
    refine lv_iload hx hb d_m_times_15 (lv_at hl 4 rfl) ?_
    refine n_ishr hx hb d_m_times_17 (by omega) (by omega) ?_
    refine lv_iconst (v := nI 1) hx hb d_m_times_18 (by decide) ?_
    refine n_and1 hx hb d_m_times_19 ?_
    refine lv_iconst (v := nI 1) hx hb d_m_times_20 (by decide) ?_
    refine n_icmp_ne hx hb d_m_times_21 (tgt := 30) rfl (by omega) (by omega) (fun g21 => ?_) (fun g21 => ?_)
    · skip
      refine lv_iload_n hx hb d_m_times_30 rfl (lv_at hl 2 rfl) ?_
      refine n_topn (show (gmL a b k).1 = (gmL a b (k + 1)).1 from (by first | exact (gmL_1t g21).symm | exact (gmL_1f g21).symm)) ?_
      refine lv_istore_n hx hb d_m_times_31 rfl hl (Nat.le_of_ble_eq_true rfl) rfl (fun ls hl => ?_)
      have hl : lv_has ls 5 [(2, .int (nI ((gmL a b (k + 1)).1))), (0, .int (nI a)), (1, .int (nI b)), (3, .int (nI ((gmL a b k).2))), (4, .int (nI k))] := hl
      refine lv_iload_n hx hb d_m_times_32 rfl (lv_at hl 3 rfl) ?_
      refine lv_iconst (v := nI 1) hx hb d_m_times_33 (by decide) ?_
      refine n_ishl hx hb d_m_times_34 (by omega) ?_
      refine lv_istore_n hx hb d_m_times_35 rfl hl (Nat.le_of_ble_eq_true rfl) rfl (fun ls hl => ?_)
      have hl : lv_has ls 5 [(3, .int (nI (((gmL a b k).2) * 2 ^ 1))), (2, .int (nI ((gmL a b (k + 1)).1))), (0, .int (nI a)), (1, .int (nI b)), (4, .int (nI k))] := hl
      refine lv_iload_n hx hb d_m_times_36 rfl (lv_at hl 0 rfl) ?_
      refine lv_sipush (v := nI 255) hx hb d_m_times_37 (by decide) ?_
      refine n_icmp_le hx hb d_m_times_40 (tgt := 51) rfl (by omega) (by omega) (fun g40 => ?_) (fun g40 => ?_)
      · skip
        refine lv_iload_n hx hb d_m_times_51 rfl (lv_at hl 0 rfl) ?_
        refine n_topn (show ((gmL a b k).2) * 2 ^ 1 = (gmL a b (k + 1)).2 from (by first | exact (gmL_2t g40).symm | exact (gmL_2f g40).symm)) ?_
        refine lv_istore_n hx hb d_m_times_52 rfl hl (Nat.le_of_ble_eq_true rfl) rfl (fun ls hl => ?_)
        have hl : lv_has ls 5 [(3, .int (nI ((gmL a b (k + 1)).2))), (2, .int (nI ((gmL a b (k + 1)).1))), (0, .int (nI a)), (1, .int (nI b)), (4, .int (nI k))] := hl
        refine lv_iinc (k := 4) (v := nI (k + 1)) hx hb d_m_times_53 hl rfl (nx_inc k 1) (Nat.le_of_ble_eq_true rfl) rfl (fun ls hl => ?_)
        have hl : lv_has ls 5 [(4, .int (nI (k + 1))), (3, .int (nI ((gmL a b (k + 1)).2))), (2, .int (nI ((gmL a b (k + 1)).1))), (0, .int (nI a)), (1, .int (nI b))] := hl
        refine lv_goto hx hb d_m_times_56 (tgt := 7) rfl ?_
        exact ih (by omega) ls H locs (lv_sub hl [3, 4, 2, 1, 0] rfl) hS
      · skip
        refine lv_iload_n hx hb d_m_times_43 rfl (lv_at hl 0 rfl) ?_
        refine lv_sipush (v := nI 285) hx hb d_m_times_44 (by decide) ?_
        refine n_ixor hx hb d_m_times_47 ?_
        refine lv_goto hx hb d_m_times_48 (tgt := 52) rfl ?_
        refine n_topn (show (((gmL a b k).2) * 2 ^ 1) ^^^ 285 = (gmL a b (k + 1)).2 from (by first | exact (gmL_2t g40).symm | exact (gmL_2f g40).symm)) ?_
        refine lv_istore_n hx hb d_m_times_52 rfl hl (Nat.le_of_ble_eq_true rfl) rfl (fun ls hl => ?_)
        have hl : lv_has ls 5 [(3, .int (nI ((gmL a b (k + 1)).2))), (2, .int (nI ((gmL a b (k + 1)).1))), (0, .int (nI a)), (1, .int (nI b)), (4, .int (nI k))] := hl
        refine lv_iinc (k := 4) (v := nI (k + 1)) hx hb d_m_times_53 hl rfl (nx_inc k 1) (Nat.le_of_ble_eq_true rfl) rfl (fun ls hl => ?_)
        have hl : lv_has ls 5 [(4, .int (nI (k + 1))), (3, .int (nI ((gmL a b (k + 1)).2))), (2, .int (nI ((gmL a b (k + 1)).1))), (0, .int (nI a)), (1, .int (nI b))] := hl
        refine lv_goto hx hb d_m_times_56 (tgt := 7) rfl ?_
        exact ih (by omega) ls H locs (lv_sub hl [3, 4, 2, 1, 0] rfl) hS
    · skip
      refine lv_iload_n hx hb d_m_times_24 rfl (lv_at hl 2 rfl) ?_
      refine lv_iload_n hx hb d_m_times_25 rfl (lv_at hl 3 rfl) ?_
      refine n_ixor hx hb d_m_times_26 ?_
      refine lv_goto hx hb d_m_times_27 (tgt := 31) rfl ?_
      refine n_topn (show ((gmL a b k).1) ^^^ ((gmL a b k).2) = (gmL a b (k + 1)).1 from (by first | exact (gmL_1t g21).symm | exact (gmL_1f g21).symm)) ?_
      refine lv_istore_n hx hb d_m_times_31 rfl hl (Nat.le_of_ble_eq_true rfl) rfl (fun ls hl => ?_)
      have hl : lv_has ls 5 [(2, .int (nI ((gmL a b (k + 1)).1))), (0, .int (nI a)), (1, .int (nI b)), (3, .int (nI ((gmL a b k).2))), (4, .int (nI k))] := hl
      refine lv_iload_n hx hb d_m_times_32 rfl (lv_at hl 3 rfl) ?_
      refine lv_iconst (v := nI 1) hx hb d_m_times_33 (by decide) ?_
      refine n_ishl hx hb d_m_times_34 (by omega) ?_
      refine lv_istore_n hx hb d_m_times_35 rfl hl (Nat.le_of_ble_eq_true rfl) rfl (fun ls hl => ?_)
      have hl : lv_has ls 5 [(3, .int (nI (((gmL a b k).2) * 2 ^ 1))), (2, .int (nI ((gmL a b (k + 1)).1))), (0, .int (nI a)), (1, .int (nI b)), (4, .int (nI k))] := hl
      refine lv_iload_n hx hb d_m_times_36 rfl (lv_at hl 0 rfl) ?_
      refine lv_sipush (v := nI 255) hx hb d_m_times_37 (by decide) ?_
      refine n_icmp_le hx hb d_m_times_40 (tgt := 51) rfl (by omega) (by omega) (fun g40 => ?_) (fun g40 => ?_)
      · skip
        refine lv_iload_n hx hb d_m_times_51 rfl (lv_at hl 0 rfl) ?_
        refine n_topn (show ((gmL a b k).2) * 2 ^ 1 = (gmL a b (k + 1)).2 from (by first | exact (gmL_2t g40).symm | exact (gmL_2f g40).symm)) ?_
        refine lv_istore_n hx hb d_m_times_52 rfl hl (Nat.le_of_ble_eq_true rfl) rfl (fun ls hl => ?_)
        have hl : lv_has ls 5 [(3, .int (nI ((gmL a b (k + 1)).2))), (2, .int (nI ((gmL a b (k + 1)).1))), (0, .int (nI a)), (1, .int (nI b)), (4, .int (nI k))] := hl
        refine lv_iinc (k := 4) (v := nI (k + 1)) hx hb d_m_times_53 hl rfl (nx_inc k 1) (Nat.le_of_ble_eq_true rfl) rfl (fun ls hl => ?_)
        have hl : lv_has ls 5 [(4, .int (nI (k + 1))), (3, .int (nI ((gmL a b (k + 1)).2))), (2, .int (nI ((gmL a b (k + 1)).1))), (0, .int (nI a)), (1, .int (nI b))] := hl
        refine lv_goto hx hb d_m_times_56 (tgt := 7) rfl ?_
        exact ih (by omega) ls H locs (lv_sub hl [3, 4, 2, 1, 0] rfl) hS
      · skip
        refine lv_iload_n hx hb d_m_times_43 rfl (lv_at hl 0 rfl) ?_
        refine lv_sipush (v := nI 285) hx hb d_m_times_44 (by decide) ?_
        refine n_ixor hx hb d_m_times_47 ?_
        refine lv_goto hx hb d_m_times_48 (tgt := 52) rfl ?_
        refine n_topn (show (((gmL a b k).2) * 2 ^ 1) ^^^ 285 = (gmL a b (k + 1)).2 from (by first | exact (gmL_2t g40).symm | exact (gmL_2f g40).symm)) ?_
        refine lv_istore_n hx hb d_m_times_52 rfl hl (Nat.le_of_ble_eq_true rfl) rfl (fun ls hl => ?_)
        have hl : lv_has ls 5 [(3, .int (nI ((gmL a b (k + 1)).2))), (2, .int (nI ((gmL a b (k + 1)).1))), (0, .int (nI a)), (1, .int (nI b)), (4, .int (nI k))] := hl
        refine lv_iinc (k := 4) (v := nI (k + 1)) hx hb d_m_times_53 hl rfl (nx_inc k 1) (Nat.le_of_ble_eq_true rfl) rfl (fun ls hl => ?_)
        have hl : lv_has ls 5 [(4, .int (nI (k + 1))), (3, .int (nI ((gmL a b (k + 1)).2))), (2, .int (nI ((gmL a b (k + 1)).1))), (0, .int (nI a)), (1, .int (nI b))] := hl
        refine lv_goto hx hb d_m_times_56 (tgt := 7) rfl ?_
        exact ih (by omega) ls H locs (lv_sub hl [3, 4, 2, 1, 0] rfl) hS
set_option maxHeartbeats 1000000 in
set_option maxRecDepth 100000 in
theorem bd_m_times (a b : Nat) (ha : a < 256) (hb0 : b < 256) (S : CallFix p m c b_m_times 5 s args (cd_m_times :: WS) R_Model) (hRf : 0 ≤ R.frames) (hRl : 0 ≤ R.locals) (hRc : cells ≤ R.cells ∧ slots ≤ R.slots) (kr : ∀ (pc : Nat) (ls : Array Slot) (H : Heap) (locs : List Loc), decode b_m_times pc = .ok (.ireturn, 1) → va_S A H0 H locs → W p l e R s m args below meth c H locs cells slots Q (F0 m pc ls [.int (nI (gm a b))])) : ∀ (ls : Array Slot) (H : Heap) (locs : List Loc), lv_has ls 5 [(0, .int (nI a)), (1, .int (nI b))] → va_S A H0 H locs → W p l e R s m args below meth c H locs cells slots Q (F0 m 0 ls []) := by
  obtain ⟨hx, hb, hml, hown, hts⟩ := id S
  intro ls H locs hl hS
  refine lv_iconst (v := nI 0) hx hb d_m_times_0 (by decide) ?_
  refine lv_istore_n hx hb d_m_times_1 rfl hl (Nat.le_of_ble_eq_true rfl) rfl (fun ls hl => ?_)
  have hl : lv_has ls 5 [(2, .int (nI 0)), (0, .int (nI a)), (1, .int (nI b))] := hl
  refine lv_iload_n hx hb d_m_times_2 rfl (lv_at hl 1 rfl) ?_
  refine lv_istore_n hx hb d_m_times_3 rfl hl (Nat.le_of_ble_eq_true rfl) rfl (fun ls hl => ?_)
  have hl : lv_has ls 5 [(3, .int (nI a)), (2, .int (nI 0)), (0, .int (nI a)), (1, .int (nI b))] := hl
  refine lv_iconst (v := nI 0) hx hb d_m_times_4 (by decide) ?_
  refine lv_istore hx hb d_m_times_5 hl (Nat.le_of_ble_eq_true rfl) rfl (fun ls hl => ?_)
  have hl : lv_has ls 5 [(4, .int (nI 0)), (3, .int (nI a)), (2, .int (nI 0)), (0, .int (nI a)), (1, .int (nI b))] := hl
  refine lp_m_times_7 a b ha hb0 S hRf hRl hRc  (fun ls H locs hl hS => ?_) 0 (by omega) ls H locs (lv_sub hl [3, 4, 2, 1, 0] rfl) hS
  refine lv_iload_n hx hb d_m_times_59 rfl (lv_at hl 2 rfl) ?_
  refine n_topn (show (gmL a b 8).1 = gm a b from rfl) ?_
  exact kr _ ls H locs d_m_times_60 hS
set_option maxHeartbeats 1000000 in
set_option maxRecDepth 100000 in
theorem c_m_times (l : Launch) (a b : Nat) (ha : a < 256) (hb0 : b < 256) : Met l y_m_times (cd_m_times :: WS) { frames := 0, cells := 0, slots := 0, locals := 0 } (va_Pc [.int (nI a), .int (nI b)] (fun _ => True)) (pQ ((nI (gm a b)))) 0 0 noA := by
  refine Met.ofW (cc := b_m_times) (maxL := 5) (ret := (some .int)) (by decide) rfl ?_
  intro p e s m args below meth c s₁ B hml hv0
  obtain ⟨rfl, -⟩ := hv0
  have hts := atoms_spec (ws := cd_m_times :: WS) B.pre
  have hown : s.vm.findClass R_Model = some m.cls := findClass_of_methodNamed B.named
  have hlocks := B.notSynchronized
  have hl := lv_entry ([.int (nI a), .int (nI b)]) (n := 5) (Nat.le_of_ble_eq_true rfl)
  rw [lg_entry_eq]
  generalize (lg_sl ([.int (nI a), .int (nI b)]) ++ List.replicate (5 - (lg_sl ([.int (nI a), .int (nI b)])).length) Slot.unset).toArray = ls at hl ⊢
  refine bd_m_times a b ha hb0 ⟨B.exec, B.bytes, hml, hown, hts⟩ (Nat.le_refl _) (Nat.le_refl _) ⟨Nat.le_refl _, Nat.le_refl _⟩ (fun pc ls H locs hd hS => ?_) ls _ _ hl (va_S.rf (A := noA))
  exact W.iret B.exec B.bytes B.returns (fun t ht _ => ⟨⟨_, (), rfl, rfl, trivial⟩, hS.F ht⟩) hS.2.2 hd
end
section
theorem d_m_power_0 : decode b_m_power 0 = .ok (.iconst 1, 1) := by decide +kernel
theorem d_m_power_1 : decode b_m_power 1 = .ok (.istore_n 1, 1) := by decide +kernel
theorem d_m_power_2 : decode b_m_power 2 = .ok (.iconst 0, 1) := by decide +kernel
theorem d_m_power_3 : decode b_m_power 3 = .ok (.istore_n 2, 1) := by decide +kernel
theorem d_m_power_4 : decode b_m_power 4 = .ok (.iload_n 2, 1) := by decide +kernel
theorem d_m_power_5 : decode b_m_power 5 = .ok (.iload_n 0, 1) := by decide +kernel
theorem d_m_power_6 : decode b_m_power 6 = .ok (.if_icmp .ge 15, 3) := by decide +kernel
theorem d_m_power_9 : decode b_m_power 9 = .ok (.iload_n 1, 1) := by decide +kernel
theorem d_m_power_10 : decode b_m_power 10 = .ok (.iconst 2, 1) := by decide +kernel
theorem d_m_power_11 : decode b_m_power 11 = .ok (.invokestatic 72, 3) := by decide +kernel
theorem d_m_power_14 : decode b_m_power 14 = .ok (.istore_n 1, 1) := by decide +kernel
theorem d_m_power_15 : decode b_m_power 15 = .ok (.iinc 2 1, 3) := by decide +kernel
theorem d_m_power_18 : decode b_m_power 18 = .ok (.goto (-14), 3) := by decide +kernel
theorem d_m_power_21 : decode b_m_power 21 = .ok (.iload_n 1, 1) := by decide +kernel
theorem d_m_power_22 : decode b_m_power 22 = .ok (.ireturn, 1) := by decide +kernel
end
section
variable {p : Program} {l : Launch} {e : Env} {R : Room} {s : State} {m : MethodId} {args : Array Value} {below : List Frame} {meth : Method} {c : Code} {cells slots : Nat} {Q : State → Prop} {A : Nat → Prop} {H0 : Heap} {D : va_G}
set_option maxHeartbeats 1000000 in
set_option maxRecDepth 100000 in
theorem lp_m_power_4 (n : Nat) (hn : n < 100000) (S : CallFix p m c b_m_power 3 s args (cd_m_power :: WS) R_Model) (hRf : 1 ≤ R.frames) (hRl : 24 ≤ R.locals) (hRc : cells ≤ R.cells ∧ slots ≤ R.slots) (kx : ∀ (ls : Array Slot) (H : Heap) (locs : List Loc), lv_has ls 3 [(0, .int (nI n)), (1, .int (nI (pw n))), (2, .int (nI n))] → va_S A H0 H locs → W p l e R s m args below meth c H locs cells slots Q (F0 m 21 ls [])) :
    ∀ k, k ≤ n → ∀ (ls : Array Slot) (H : Heap) (locs : List Loc), lv_has ls 3 [(0, .int (nI n)), (1, .int (nI (pw k))), (2, .int (nI k))] → va_S A H0 H locs → W p l e R s m args below meth c H locs cells slots Q (F0 m 4 ls []) := by
  obtain ⟨hx, hb, hml, hown, hts⟩ := id S
  refine up_loop (fun k hkk ih => ?_)
  intro ls H locs hl hS
  have hq := pw_lt k
  refine lv_iload_n hx hb d_m_power_4 rfl (lv_at hl 2 rfl) ?_
  refine lv_iload_n hx hb d_m_power_5 rfl (lv_at hl 0 rfl) ?_
  refine n_icmp_ge hx hb d_m_power_6 (tgt := 21) rfl (by omega) (by omega) (fun g6 => ?_) (fun g6 => ?_)
  · skip
    obtain rfl : k = n := by omega
    exact kx ls H locs (lv_sub hl [0, 1, 2] rfl) hS
  · skip
    refine lv_iload_n hx hb d_m_power_9 rfl (lv_at hl 1 rfl) ?_
    refine lv_iconst (v := nI 2) hx hb d_m_power_10 (by decide) ?_
    refine q_pureS (n := 2) (As := [.int (nI (pw k)), .int (nI 2)]) (rest := []) S (c_m_times l (pw k) 2 (by omega) (by omega)) (q_goodS kw_890 kw_891 kw_10 kw_892) (by decide +kernel) rfl rfl ⟨Nat.le_trans (Nat.le_of_ble_eq_true rfl) hRf, Nat.le_trans (Nat.le_of_ble_eq_true rfl) hRl⟩ rfl hl.1 rfl (Nat.le_of_ble_eq_true rfl) d_m_power_11 hRc hS (fun H locs hkp hS => ?_)
    refine n_topn (show gm (pw k) 2 = pw (k + 1) from (gm_two _ hq)) ?_
    refine lv_istore_n hx hb d_m_power_14 rfl hl (Nat.le_of_ble_eq_true rfl) rfl (fun ls hl => ?_)
    have hl : lv_has ls 3 [(1, .int (nI (pw (k + 1)))), (0, .int (nI n)), (2, .int (nI k))] := hl
    refine lv_iinc (k := 2) (v := nI (k + 1)) hx hb d_m_power_15 hl rfl (nx_inc k 1) (Nat.le_of_ble_eq_true rfl) rfl (fun ls hl => ?_)
    have hl : lv_has ls 3 [(2, .int (nI (k + 1))), (1, .int (nI (pw (k + 1)))), (0, .int (nI n))] := hl
    refine lv_goto hx hb d_m_power_18 (tgt := 4) rfl ?_
    exact ih (by omega) ls H locs (lv_sub hl [2, 1, 0] rfl) hS
set_option maxHeartbeats 1000000 in
set_option maxRecDepth 100000 in
theorem bd_m_power (n : Nat) (hn : n < 100000) (S : CallFix p m c b_m_power 3 s args (cd_m_power :: WS) R_Model) (hRf : 1 ≤ R.frames) (hRl : 24 ≤ R.locals) (hRc : cells ≤ R.cells ∧ slots ≤ R.slots) (kr : ∀ (pc : Nat) (ls : Array Slot) (H : Heap) (locs : List Loc), decode b_m_power pc = .ok (.ireturn, 1) → va_S A H0 H locs → W p l e R s m args below meth c H locs cells slots Q (F0 m pc ls [.int (nI (pw n))])) : ∀ (ls : Array Slot) (H : Heap) (locs : List Loc), lv_has ls 3 [(0, .int (nI n))] → va_S A H0 H locs → W p l e R s m args below meth c H locs cells slots Q (F0 m 0 ls []) := by
  obtain ⟨hx, hb, hml, hown, hts⟩ := id S
  intro ls H locs hl hS
  refine lv_iconst (v := nI 1) hx hb d_m_power_0 (by decide) ?_
  refine lv_istore_n hx hb d_m_power_1 rfl hl (Nat.le_of_ble_eq_true rfl) rfl (fun ls hl => ?_)
  have hl : lv_has ls 3 [(1, .int (nI 1)), (0, .int (nI n))] := hl
  refine lv_iconst (v := nI 0) hx hb d_m_power_2 (by decide) ?_
  refine lv_istore_n hx hb d_m_power_3 rfl hl (Nat.le_of_ble_eq_true rfl) rfl (fun ls hl => ?_)
  have hl : lv_has ls 3 [(2, .int (nI 0)), (1, .int (nI 1)), (0, .int (nI n))] := hl
  refine lp_m_power_4 n hn S hRf hRl hRc  (fun ls H locs hl hS => ?_) 0 (by omega) ls H locs (lv_sub hl [2, 1, 0] rfl) hS
  refine lv_iload_n hx hb d_m_power_21 rfl (lv_at hl 1 rfl) ?_
  exact kr _ ls H locs d_m_power_22 hS
set_option maxHeartbeats 1000000 in
set_option maxRecDepth 100000 in
theorem c_m_power (l : Launch) (n : Nat) (hn : n < 100000) : Met l y_m_power (cd_m_power :: WS) { frames := 1, cells := 0, slots := 0, locals := 24 } (va_Pc [.int (nI n)] (fun _ => True)) (pQ ((nI (pw n)))) 0 0 noA := by
  refine Met.ofW (cc := b_m_power) (maxL := 3) (ret := (some .int)) (by decide) rfl ?_
  intro p e s m args below meth c s₁ B hml hv0
  obtain ⟨rfl, -⟩ := hv0
  have hts := atoms_spec (ws := cd_m_power :: WS) B.pre
  have hown : s.vm.findClass R_Model = some m.cls := findClass_of_methodNamed B.named
  have hlocks := B.notSynchronized
  have hl := lv_entry ([.int (nI n)]) (n := 3) (Nat.le_of_ble_eq_true rfl)
  rw [lg_entry_eq]
  generalize (lg_sl ([.int (nI n)]) ++ List.replicate (3 - (lg_sl ([.int (nI n)])).length) Slot.unset).toArray = ls at hl ⊢
  refine bd_m_power n hn ⟨B.exec, B.bytes, hml, hown, hts⟩ (Nat.le_refl _) (Nat.le_refl _) ⟨Nat.le_refl _, Nat.le_refl _⟩ (fun pc ls H locs hd hS => ?_) ls _ _ hl (va_S.rf (A := noA))
  exact W.iret B.exec B.bytes B.returns (fun t ht _ => ⟨⟨_, (), rfl, rfl, trivial⟩, hS.F ht⟩) hS.2.2 hd
end
section
theorem d_m_fixedAt_0 : decode b_m_fixedAt 0 = .ok (.iload_n 0, 1) := by decide +kernel
theorem d_m_fixedAt_1 : decode b_m_fixedAt 1 = .ok (.bipush 13, 2) := by decide +kernel
theorem d_m_fixedAt_3 : decode b_m_fixedAt 3 = .ok (.if_icmp .ne 11, 3) := by decide +kernel
theorem d_m_fixedAt_6 : decode b_m_fixedAt 6 = .ok (.iload_n 1, 1) := by decide +kernel
theorem d_m_fixedAt_7 : decode b_m_fixedAt 7 = .ok (.bipush 8, 2) := by decide +kernel
theorem d_m_fixedAt_9 : decode b_m_fixedAt 9 = .ok (.if_icmp .ne 5, 3) := by decide +kernel
theorem d_m_fixedAt_12 : decode b_m_fixedAt 12 = .ok (.iconst 1, 1) := by decide +kernel
theorem d_m_fixedAt_13 : decode b_m_fixedAt 13 = .ok (.ireturn, 1) := by decide +kernel
theorem d_m_fixedAt_14 : decode b_m_fixedAt 14 = .ok (.iload_n 0, 1) := by decide +kernel
theorem d_m_fixedAt_15 : decode b_m_fixedAt 15 = .ok (.iload_n 1, 1) := by decide +kernel
theorem d_m_fixedAt_16 : decode b_m_fixedAt 16 = .ok (.invokestatic 69, 3) := by decide +kernel
theorem d_m_fixedAt_19 : decode b_m_fixedAt 19 = .ok (.ifCond .ne 23, 3) := by decide +kernel
theorem d_m_fixedAt_22 : decode b_m_fixedAt 22 = .ok (.iload_n 0, 1) := by decide +kernel
theorem d_m_fixedAt_23 : decode b_m_fixedAt 23 = .ok (.bipush 6, 2) := by decide +kernel
theorem d_m_fixedAt_25 : decode b_m_fixedAt 25 = .ok (.if_icmp .ne 11, 3) := by decide +kernel
theorem d_m_fixedAt_28 : decode b_m_fixedAt 28 = .ok (.iconst 1, 1) := by decide +kernel
theorem d_m_fixedAt_29 : decode b_m_fixedAt 29 = .ok (.iload_n 1, 1) := by decide +kernel
theorem d_m_fixedAt_30 : decode b_m_fixedAt 30 = .ok (.iconst 2, 1) := by decide +kernel
theorem d_m_fixedAt_31 : decode b_m_fixedAt 31 = .ok (.irem, 1) := by decide +kernel
theorem d_m_fixedAt_32 : decode b_m_fixedAt 32 = .ok (.isub, 1) := by decide +kernel
theorem d_m_fixedAt_33 : decode b_m_fixedAt 33 = .ok (.goto 8, 3) := by decide +kernel
theorem d_m_fixedAt_36 : decode b_m_fixedAt 36 = .ok (.iconst 1, 1) := by decide +kernel
theorem d_m_fixedAt_37 : decode b_m_fixedAt 37 = .ok (.iload_n 0, 1) := by decide +kernel
theorem d_m_fixedAt_38 : decode b_m_fixedAt 38 = .ok (.iconst 2, 1) := by decide +kernel
theorem d_m_fixedAt_39 : decode b_m_fixedAt 39 = .ok (.irem, 1) := by decide +kernel
theorem d_m_fixedAt_40 : decode b_m_fixedAt 40 = .ok (.isub, 1) := by decide +kernel
theorem d_m_fixedAt_41 : decode b_m_fixedAt 41 = .ok (.ireturn, 1) := by decide +kernel
theorem d_m_fixedAt_42 : decode b_m_fixedAt 42 = .ok (.iload_n 0, 1) := by decide +kernel
theorem d_m_fixedAt_43 : decode b_m_fixedAt 43 = .ok (.bipush 12, 2) := by decide +kernel
theorem d_m_fixedAt_45 : decode b_m_fixedAt 45 = .ok (.if_icmp .le 10, 3) := by decide +kernel
theorem d_m_fixedAt_48 : decode b_m_fixedAt 48 = .ok (.iload_n 0, 1) := by decide +kernel
theorem d_m_fixedAt_49 : decode b_m_fixedAt 49 = .ok (.bipush 14, 2) := by decide +kernel
theorem d_m_fixedAt_51 : decode b_m_fixedAt 51 = .ok (.isub, 1) := by decide +kernel
theorem d_m_fixedAt_52 : decode b_m_fixedAt 52 = .ok (.goto 4, 3) := by decide +kernel
theorem d_m_fixedAt_55 : decode b_m_fixedAt 55 = .ok (.iload_n 0, 1) := by decide +kernel
theorem d_m_fixedAt_56 : decode b_m_fixedAt 56 = .ok (.istore_n 2, 1) := by decide +kernel
theorem d_m_fixedAt_57 : decode b_m_fixedAt 57 = .ok (.iload_n 1, 1) := by decide +kernel
theorem d_m_fixedAt_58 : decode b_m_fixedAt 58 = .ok (.bipush 12, 2) := by decide +kernel
theorem d_m_fixedAt_60 : decode b_m_fixedAt 60 = .ok (.if_icmp .le 10, 3) := by decide +kernel
theorem d_m_fixedAt_63 : decode b_m_fixedAt 63 = .ok (.iload_n 1, 1) := by decide +kernel
theorem d_m_fixedAt_64 : decode b_m_fixedAt 64 = .ok (.bipush 14, 2) := by decide +kernel
theorem d_m_fixedAt_66 : decode b_m_fixedAt 66 = .ok (.isub, 1) := by decide +kernel
theorem d_m_fixedAt_67 : decode b_m_fixedAt 67 = .ok (.goto 4, 3) := by decide +kernel
theorem d_m_fixedAt_70 : decode b_m_fixedAt 70 = .ok (.iload_n 1, 1) := by decide +kernel
theorem d_m_fixedAt_71 : decode b_m_fixedAt 71 = .ok (.istore_n 3, 1) := by decide +kernel
theorem d_m_fixedAt_72 : decode b_m_fixedAt 72 = .ok (.iload_n 2, 1) := by decide +kernel
theorem d_m_fixedAt_73 : decode b_m_fixedAt 73 = .ok (.ifCond .lt 19, 3) := by decide +kernel
theorem d_m_fixedAt_76 : decode b_m_fixedAt 76 = .ok (.iload_n 3, 1) := by decide +kernel
theorem d_m_fixedAt_77 : decode b_m_fixedAt 77 = .ok (.ifCond .lt 15, 3) := by decide +kernel
theorem d_m_fixedAt_80 : decode b_m_fixedAt 80 = .ok (.iload_n 2, 1) := by decide +kernel
theorem d_m_fixedAt_81 : decode b_m_fixedAt 81 = .ok (.bipush 6, 2) := by decide +kernel
theorem d_m_fixedAt_83 : decode b_m_fixedAt 83 = .ok (.if_icmp .gt 9, 3) := by decide +kernel
theorem d_m_fixedAt_86 : decode b_m_fixedAt 86 = .ok (.iload_n 3, 1) := by decide +kernel
theorem d_m_fixedAt_87 : decode b_m_fixedAt 87 = .ok (.bipush 6, 2) := by decide +kernel
theorem d_m_fixedAt_89 : decode b_m_fixedAt 89 = .ok (.if_icmp .le 5, 3) := by decide +kernel
theorem d_m_fixedAt_92 : decode b_m_fixedAt 92 = .ok (.iconst 0, 1) := by decide +kernel
theorem d_m_fixedAt_93 : decode b_m_fixedAt 93 = .ok (.ireturn, 1) := by decide +kernel
theorem d_m_fixedAt_94 : decode b_m_fixedAt 94 = .ok (.iload_n 2, 1) := by decide +kernel
theorem d_m_fixedAt_95 : decode b_m_fixedAt 95 = .ok (.ifCond .eq 19, 3) := by decide +kernel
theorem d_m_fixedAt_98 : decode b_m_fixedAt 98 = .ok (.iload_n 2, 1) := by decide +kernel
theorem d_m_fixedAt_99 : decode b_m_fixedAt 99 = .ok (.bipush 6, 2) := by decide +kernel
theorem d_m_fixedAt_101 : decode b_m_fixedAt 101 = .ok (.if_icmp .eq 13, 3) := by decide +kernel
theorem d_m_fixedAt_104 : decode b_m_fixedAt 104 = .ok (.iload_n 3, 1) := by decide +kernel
theorem d_m_fixedAt_105 : decode b_m_fixedAt 105 = .ok (.ifCond .eq 9, 3) := by decide +kernel
theorem d_m_fixedAt_108 : decode b_m_fixedAt 108 = .ok (.iload_n 3, 1) := by decide +kernel
theorem d_m_fixedAt_109 : decode b_m_fixedAt 109 = .ok (.bipush 6, 2) := by decide +kernel
theorem d_m_fixedAt_111 : decode b_m_fixedAt 111 = .ok (.if_icmp .ne 7, 3) := by decide +kernel
theorem d_m_fixedAt_114 : decode b_m_fixedAt 114 = .ok (.iconst 1, 1) := by decide +kernel
theorem d_m_fixedAt_115 : decode b_m_fixedAt 115 = .ok (.goto 4, 3) := by decide +kernel
theorem d_m_fixedAt_118 : decode b_m_fixedAt 118 = .ok (.iconst 0, 1) := by decide +kernel
theorem d_m_fixedAt_119 : decode b_m_fixedAt 119 = .ok (.istore 4, 2) := by decide +kernel
theorem d_m_fixedAt_121 : decode b_m_fixedAt 121 = .ok (.iload 4, 2) := by decide +kernel
theorem d_m_fixedAt_123 : decode b_m_fixedAt 123 = .ok (.ifCond .ne 23, 3) := by decide +kernel
theorem d_m_fixedAt_126 : decode b_m_fixedAt 126 = .ok (.iload_n 2, 1) := by decide +kernel
theorem d_m_fixedAt_127 : decode b_m_fixedAt 127 = .ok (.iconst 2, 1) := by decide +kernel
theorem d_m_fixedAt_128 : decode b_m_fixedAt 128 = .ok (.if_icmp .lt 22, 3) := by decide +kernel
theorem d_m_fixedAt_131 : decode b_m_fixedAt 131 = .ok (.iload_n 2, 1) := by decide +kernel
theorem d_m_fixedAt_132 : decode b_m_fixedAt 132 = .ok (.iconst 4, 1) := by decide +kernel
theorem d_m_fixedAt_133 : decode b_m_fixedAt 133 = .ok (.if_icmp .gt 17, 3) := by decide +kernel
theorem d_m_fixedAt_136 : decode b_m_fixedAt 136 = .ok (.iload_n 3, 1) := by decide +kernel
theorem d_m_fixedAt_137 : decode b_m_fixedAt 137 = .ok (.iconst 2, 1) := by decide +kernel
theorem d_m_fixedAt_138 : decode b_m_fixedAt 138 = .ok (.if_icmp .lt 12, 3) := by decide +kernel
theorem d_m_fixedAt_141 : decode b_m_fixedAt 141 = .ok (.iload_n 3, 1) := by decide +kernel
theorem d_m_fixedAt_142 : decode b_m_fixedAt 142 = .ok (.iconst 4, 1) := by decide +kernel
theorem d_m_fixedAt_143 : decode b_m_fixedAt 143 = .ok (.if_icmp .gt 7, 3) := by decide +kernel
theorem d_m_fixedAt_146 : decode b_m_fixedAt 146 = .ok (.iconst 1, 1) := by decide +kernel
theorem d_m_fixedAt_147 : decode b_m_fixedAt 147 = .ok (.goto 4, 3) := by decide +kernel
theorem d_m_fixedAt_150 : decode b_m_fixedAt 150 = .ok (.iconst 0, 1) := by decide +kernel
theorem d_m_fixedAt_151 : decode b_m_fixedAt 151 = .ok (.ireturn, 1) := by decide +kernel
end
section
variable {p : Program} {l : Launch} {e : Env} {R : Room} {s : State} {m : MethodId} {args : Array Value} {below : List Frame} {meth : Method} {c : Code} {cells slots : Nat} {Q : State → Prop} {A : Nat → Prop} {H0 : Heap} {D : va_G}
set_option maxHeartbeats 1000000 in
set_option maxRecDepth 100000 in
theorem sg_m_fixedAt_121 (r d i j b : Nat) (hi : i ≤ 6) (hj : j ≤ 6) (hb1 : b = bN (i = 0 ∨ i = 6 ∨ j = 0 ∨ j = 6)) (S : CallFix p m c b_m_fixedAt 5 s args (cd_m_fixedAt :: WS) R_Model) (hRf : 1 ≤ R.frames) (hRl : 21 ≤ R.locals) (hRc : cells ≤ R.cells ∧ slots ≤ R.slots) (kr : ∀ (pc : Nat) (ls : Array Slot) (H : Heap) (locs : List Loc), decode b_m_fixedAt pc = .ok (.ireturn, 1) → va_S A H0 H locs → W p l e R s m args below meth c H locs cells slots Q (F0 m pc ls [.int (nI (fxI i j))])) : ∀ (ls : Array Slot) (H : Heap) (locs : List Loc), lv_has ls 5 [(0, .int (nI r)), (1, .int (nI d)), (2, .int (nI i)), (3, .int (nI j)), (4, .int (nI b))] → va_S A H0 H locs → W p l e R s m args below meth c H locs cells slots Q (F0 m 121 ls []) := by
  obtain ⟨hx, hb, hml, hown, hts⟩ := id S
  intro ls H locs hl hS
  have hbn := bN_le (i = 0 ∨ i = 6 ∨ j = 0 ∨ j = 6)
  refine lv_iload hx hb d_m_fixedAt_121 (lv_at hl 4 rfl) ?_
  refine n_if_ne hx hb d_m_fixedAt_123 (tgt := 146) rfl (by omega) (fun g123 => ?_) (fun g123 => ?_)
  · skip
    refine lv_iconst (v := nI 1) hx hb d_m_fixedAt_146 (by decide) ?_
    refine lv_goto hx hb d_m_fixedAt_147 (tgt := 151) rfl ?_
    refine n_topn (show 1 = fxI i j from (by rw [hb1] at g123; simp only [bN_e0, bN_ne0] at g123; unfold fxI; (repeat' split) <;> omega)) ?_
    exact kr _ ls H locs d_m_fixedAt_151 hS
  · skip
    refine lv_iload_n hx hb d_m_fixedAt_126 rfl (lv_at hl 2 rfl) ?_
    refine lv_iconst (v := nI 2) hx hb d_m_fixedAt_127 (by decide) ?_
    refine n_icmp_lt hx hb d_m_fixedAt_128 (tgt := 150) rfl (by omega) (by omega) (fun g128 => ?_) (fun g128 => ?_)
    · skip
      refine lv_iconst (v := nI 0) hx hb d_m_fixedAt_150 (by decide) ?_
      refine n_topn (show 0 = fxI i j from (by rw [hb1] at g123; simp only [bN_e0, bN_ne0] at g123; unfold fxI; (repeat' split) <;> omega)) ?_
      exact kr _ ls H locs d_m_fixedAt_151 hS
    · skip
      refine lv_iload_n hx hb d_m_fixedAt_131 rfl (lv_at hl 2 rfl) ?_
      refine lv_iconst (v := nI 4) hx hb d_m_fixedAt_132 (by decide) ?_
      refine n_icmp_gt hx hb d_m_fixedAt_133 (tgt := 150) rfl (by omega) (by omega) (fun g133 => ?_) (fun g133 => ?_)
      · skip
        refine lv_iconst (v := nI 0) hx hb d_m_fixedAt_150 (by decide) ?_
        refine n_topn (show 0 = fxI i j from (by rw [hb1] at g123; simp only [bN_e0, bN_ne0] at g123; unfold fxI; (repeat' split) <;> omega)) ?_
        exact kr _ ls H locs d_m_fixedAt_151 hS
      · skip
        refine lv_iload_n hx hb d_m_fixedAt_136 rfl (lv_at hl 3 rfl) ?_
        refine lv_iconst (v := nI 2) hx hb d_m_fixedAt_137 (by decide) ?_
        refine n_icmp_lt hx hb d_m_fixedAt_138 (tgt := 150) rfl (by omega) (by omega) (fun g138 => ?_) (fun g138 => ?_)
        · skip
          refine lv_iconst (v := nI 0) hx hb d_m_fixedAt_150 (by decide) ?_
          refine n_topn (show 0 = fxI i j from (by rw [hb1] at g123; simp only [bN_e0, bN_ne0] at g123; unfold fxI; (repeat' split) <;> omega)) ?_
          exact kr _ ls H locs d_m_fixedAt_151 hS
        · skip
          refine lv_iload_n hx hb d_m_fixedAt_141 rfl (lv_at hl 3 rfl) ?_
          refine lv_iconst (v := nI 4) hx hb d_m_fixedAt_142 (by decide) ?_
          refine n_icmp_gt hx hb d_m_fixedAt_143 (tgt := 150) rfl (by omega) (by omega) (fun g143 => ?_) (fun g143 => ?_)
          · skip
            refine lv_iconst (v := nI 0) hx hb d_m_fixedAt_150 (by decide) ?_
            refine n_topn (show 0 = fxI i j from (by rw [hb1] at g123; simp only [bN_e0, bN_ne0] at g123; unfold fxI; (repeat' split) <;> omega)) ?_
            exact kr _ ls H locs d_m_fixedAt_151 hS
          · skip
            refine lv_iconst (v := nI 1) hx hb d_m_fixedAt_146 (by decide) ?_
            refine lv_goto hx hb d_m_fixedAt_147 (tgt := 151) rfl ?_
            refine n_topn (show 1 = fxI i j from (by rw [hb1] at g123; simp only [bN_e0, bN_ne0] at g123; unfold fxI; (repeat' split) <;> omega)) ?_
            exact kr _ ls H locs d_m_fixedAt_151 hS
set_option maxHeartbeats 1000000 in
set_option maxRecDepth 100000 in
theorem sg_m_fixedAt_94 (r d i j : Nat) (hi : i ≤ 6) (hj : j ≤ 6) (S : CallFix p m c b_m_fixedAt 5 s args (cd_m_fixedAt :: WS) R_Model) (hRf : 1 ≤ R.frames) (hRl : 21 ≤ R.locals) (hRc : cells ≤ R.cells ∧ slots ≤ R.slots) (kr : ∀ (pc : Nat) (ls : Array Slot) (H : Heap) (locs : List Loc), decode b_m_fixedAt pc = .ok (.ireturn, 1) → va_S A H0 H locs → W p l e R s m args below meth c H locs cells slots Q (F0 m pc ls [.int (nI (fxI i j))])) : ∀ (ls : Array Slot) (H : Heap) (locs : List Loc), lv_has ls 5 [(0, .int (nI r)), (1, .int (nI d)), (2, .int (nI i)), (3, .int (nI j))] → va_S A H0 H locs → W p l e R s m args below meth c H locs cells slots Q (F0 m 94 ls []) := by
  obtain ⟨hx, hb, hml, hown, hts⟩ := id S
  intro ls H locs hl hS
  refine lv_iload_n hx hb d_m_fixedAt_94 rfl (lv_at hl 2 rfl) ?_
  refine n_if_eq hx hb d_m_fixedAt_95 (tgt := 114) rfl (by omega) (fun g95 => ?_) (fun g95 => ?_)
  · skip
    refine lv_iconst (v := nI 1) hx hb d_m_fixedAt_114 (by decide) ?_
    refine lv_goto hx hb d_m_fixedAt_115 (tgt := 119) rfl ?_
    refine lv_istore hx hb d_m_fixedAt_119 hl (Nat.le_of_ble_eq_true rfl) rfl (fun ls hl => ?_)
    have hl : lv_has ls 5 [(4, .int (nI 1)), (0, .int (nI r)), (1, .int (nI d)), (2, .int (nI i)), (3, .int (nI j))] := hl
    refine sg_m_fixedAt_121 r d i j 1 (by first | omega | (unfold bN; (repeat' split) <;> omega)) (by first | omega | (unfold bN; (repeat' split) <;> omega)) (by first | omega | (unfold bN; (repeat' split) <;> omega)) S hRf hRl hRc (fun pc ls H locs hd hS => ?_) ls H locs (lv_sub hl [1, 2, 3, 4, 0] rfl) hS
    exact kr _ ls H locs hd hS
  · skip
    refine lv_iload_n hx hb d_m_fixedAt_98 rfl (lv_at hl 2 rfl) ?_
    refine lv_bipush (v := nI 6) hx hb d_m_fixedAt_99 (by decide) ?_
    refine n_icmp_eq hx hb d_m_fixedAt_101 (tgt := 114) rfl (by omega) (by omega) (fun g101 => ?_) (fun g101 => ?_)
    · skip
      refine lv_iconst (v := nI 1) hx hb d_m_fixedAt_114 (by decide) ?_
      refine lv_goto hx hb d_m_fixedAt_115 (tgt := 119) rfl ?_
      refine lv_istore hx hb d_m_fixedAt_119 hl (Nat.le_of_ble_eq_true rfl) rfl (fun ls hl => ?_)
      have hl : lv_has ls 5 [(4, .int (nI 1)), (0, .int (nI r)), (1, .int (nI d)), (2, .int (nI i)), (3, .int (nI j))] := hl
      refine sg_m_fixedAt_121 r d i j 1 (by first | omega | (unfold bN; (repeat' split) <;> omega)) (by first | omega | (unfold bN; (repeat' split) <;> omega)) (by first | omega | (unfold bN; (repeat' split) <;> omega)) S hRf hRl hRc (fun pc ls H locs hd hS => ?_) ls H locs (lv_sub hl [1, 2, 3, 4, 0] rfl) hS
      exact kr _ ls H locs hd hS
    · skip
      refine lv_iload_n hx hb d_m_fixedAt_104 rfl (lv_at hl 3 rfl) ?_
      refine n_if_eq hx hb d_m_fixedAt_105 (tgt := 114) rfl (by omega) (fun g105 => ?_) (fun g105 => ?_)
      · skip
        refine lv_iconst (v := nI 1) hx hb d_m_fixedAt_114 (by decide) ?_
        refine lv_goto hx hb d_m_fixedAt_115 (tgt := 119) rfl ?_
        refine lv_istore hx hb d_m_fixedAt_119 hl (Nat.le_of_ble_eq_true rfl) rfl (fun ls hl => ?_)
        have hl : lv_has ls 5 [(4, .int (nI 1)), (0, .int (nI r)), (1, .int (nI d)), (2, .int (nI i)), (3, .int (nI j))] := hl
        refine sg_m_fixedAt_121 r d i j 1 (by first | omega | (unfold bN; (repeat' split) <;> omega)) (by first | omega | (unfold bN; (repeat' split) <;> omega)) (by first | omega | (unfold bN; (repeat' split) <;> omega)) S hRf hRl hRc (fun pc ls H locs hd hS => ?_) ls H locs (lv_sub hl [1, 2, 3, 4, 0] rfl) hS
        exact kr _ ls H locs hd hS
      · skip
        refine lv_iload_n hx hb d_m_fixedAt_108 rfl (lv_at hl 3 rfl) ?_
        refine lv_bipush (v := nI 6) hx hb d_m_fixedAt_109 (by decide) ?_
        refine n_icmp_ne hx hb d_m_fixedAt_111 (tgt := 118) rfl (by omega) (by omega) (fun g111 => ?_) (fun g111 => ?_)
        · skip
          refine lv_iconst (v := nI 0) hx hb d_m_fixedAt_118 (by decide) ?_
          refine lv_istore hx hb d_m_fixedAt_119 hl (Nat.le_of_ble_eq_true rfl) rfl (fun ls hl => ?_)
          have hl : lv_has ls 5 [(4, .int (nI 0)), (0, .int (nI r)), (1, .int (nI d)), (2, .int (nI i)), (3, .int (nI j))] := hl
          refine sg_m_fixedAt_121 r d i j 0 (by first | omega | (unfold bN; (repeat' split) <;> omega)) (by first | omega | (unfold bN; (repeat' split) <;> omega)) (by first | omega | (unfold bN; (repeat' split) <;> omega)) S hRf hRl hRc (fun pc ls H locs hd hS => ?_) ls H locs (lv_sub hl [1, 2, 3, 4, 0] rfl) hS
          exact kr _ ls H locs hd hS
        · skip
          refine lv_iconst (v := nI 1) hx hb d_m_fixedAt_114 (by decide) ?_
          refine lv_goto hx hb d_m_fixedAt_115 (tgt := 119) rfl ?_
          refine lv_istore hx hb d_m_fixedAt_119 hl (Nat.le_of_ble_eq_true rfl) rfl (fun ls hl => ?_)
          have hl : lv_has ls 5 [(4, .int (nI 1)), (0, .int (nI r)), (1, .int (nI d)), (2, .int (nI i)), (3, .int (nI j))] := hl
          refine sg_m_fixedAt_121 r d i j 1 (by first | omega | (unfold bN; (repeat' split) <;> omega)) (by first | omega | (unfold bN; (repeat' split) <;> omega)) (by first | omega | (unfold bN; (repeat' split) <;> omega)) S hRf hRl hRc (fun pc ls H locs hd hS => ?_) ls H locs (lv_sub hl [1, 2, 3, 4, 0] rfl) hS
          exact kr _ ls H locs hd hS
set_option maxHeartbeats 1000000 in
set_option maxRecDepth 100000 in
theorem bd_m_fixedAt (r d : Nat) (hr : r < 21) (hd : d < 21) (S : CallFix p m c b_m_fixedAt 5 s args (cd_m_fixedAt :: WS) R_Model) (hRf : 1 ≤ R.frames) (hRl : 21 ≤ R.locals) (hRc : cells ≤ R.cells ∧ slots ≤ R.slots) (kr : ∀ (pc : Nat) (ls : Array Slot) (H : Heap) (locs : List Loc), decode b_m_fixedAt pc = .ok (.ireturn, 1) → va_S A H0 H locs → W p l e R s m args below meth c H locs cells slots Q (F0 m pc ls [.int (nI (fxA r d))])) : ∀ (ls : Array Slot) (H : Heap) (locs : List Loc), lv_has ls 5 [(0, .int (nI r)), (1, .int (nI d))] → va_S A H0 H locs → W p l e R s m args below meth c H locs cells slots Q (F0 m 0 ls []) := by
  obtain ⟨hx, hb, hml, hown, hts⟩ := id S
  intro ls H locs hl hS
  have hbn := bN_le (inC r d)
  refine lv_iload_n hx hb d_m_fixedAt_0 rfl (lv_at hl 0 rfl) ?_
  refine lv_bipush (v := nI 13) hx hb d_m_fixedAt_1 (by decide) ?_
  refine n_icmp_ne hx hb d_m_fixedAt_3 (tgt := 14) rfl (by omega) (by omega) (fun g3 => ?_) (fun g3 => ?_)
  · skip
    refine lv_iload_n hx hb d_m_fixedAt_14 rfl (lv_at hl 0 rfl) ?_
    refine lv_iload_n hx hb d_m_fixedAt_15 rfl (lv_at hl 1 rfl) ?_
    refine q_pureS (n := 2) (As := [.int (nI r), .int (nI d)]) (rest := []) S (c_m_inCorner l r d (by omega) (by omega)) (q_goodS kw_773 kw_774 kw_10 kw_775) (by decide +kernel) rfl rfl ⟨Nat.le_trans (Nat.le_of_ble_eq_true rfl) hRf, Nat.le_trans (Nat.le_of_ble_eq_true rfl) hRl⟩ rfl hl.1 rfl (Nat.le_of_ble_eq_true rfl) d_m_fixedAt_16 hRc hS (fun H locs hkp hS => ?_)
    refine n_if_ne hx hb d_m_fixedAt_19 (tgt := 42) rfl (by omega) (fun g19 => ?_) (fun g19 => ?_)
    · skip
      refine lv_iload_n hx hb d_m_fixedAt_42 rfl (lv_at hl 0 rfl) ?_
      refine lv_bipush (v := nI 12) hx hb d_m_fixedAt_43 (by decide) ?_
      refine n_icmp_le hx hb d_m_fixedAt_45 (tgt := 55) rfl (by omega) (by omega) (fun g45 => ?_) (fun g45 => ?_)
      · skip
        refine lv_iload_n hx hb d_m_fixedAt_55 rfl (lv_at hl 0 rfl) ?_
        refine lv_istore_n hx hb d_m_fixedAt_56 rfl hl (Nat.le_of_ble_eq_true rfl) rfl (fun ls hl => ?_)
        have hl : lv_has ls 5 [(2, .int (nI r)), (0, .int (nI r)), (1, .int (nI d))] := hl
        refine lv_iload_n hx hb d_m_fixedAt_57 rfl (lv_at hl 2 rfl) ?_
        refine lv_bipush (v := nI 12) hx hb d_m_fixedAt_58 (by decide) ?_
        refine n_icmp_le hx hb d_m_fixedAt_60 (tgt := 70) rfl (by omega) (by omega) (fun g60 => ?_) (fun g60 => ?_)
        · skip
          refine lv_iload_n hx hb d_m_fixedAt_70 rfl (lv_at hl 2 rfl) ?_
          refine lv_istore_n hx hb d_m_fixedAt_71 rfl hl (Nat.le_of_ble_eq_true rfl) rfl (fun ls hl => ?_)
          have hl : lv_has ls 5 [(3, .int (nI d)), (2, .int (nI r)), (0, .int (nI r)), (1, .int (nI d))] := hl
          refine lv_iload_n hx hb d_m_fixedAt_72 rfl (lv_at hl 1 rfl) ?_
          refine n_if_lt hx hb d_m_fixedAt_73 (tgt := 92) rfl (by omega) ?_
          refine lv_iload_n hx hb d_m_fixedAt_76 rfl (lv_at hl 0 rfl) ?_
          refine n_if_lt hx hb d_m_fixedAt_77 (tgt := 92) rfl (by omega) ?_
          refine lv_iload_n hx hb d_m_fixedAt_80 rfl (lv_at hl 1 rfl) ?_
          refine lv_bipush (v := nI 6) hx hb d_m_fixedAt_81 (by decide) ?_
          refine n_icmp_gt hx hb d_m_fixedAt_83 (tgt := 92) rfl (by omega) (by omega) (fun g83 => ?_) (fun g83 => ?_)
          · skip
            refine lv_iconst (v := nI 0) hx hb d_m_fixedAt_92 (by decide) ?_
            refine n_topn (show 0 = fxA r d from (by (try simp only [bN_e0, bN_ne0] at g19); (try unfold inC at g19); unfold fxA; (try unfold inC); (repeat' split) <;> omega)) ?_
            exact kr _ ls H locs d_m_fixedAt_93 hS
          · skip
            refine lv_iload_n hx hb d_m_fixedAt_86 rfl (lv_at hl 0 rfl) ?_
            refine lv_bipush (v := nI 6) hx hb d_m_fixedAt_87 (by decide) ?_
            refine n_icmp_le hx hb d_m_fixedAt_89 (tgt := 94) rfl (by omega) (by omega) (fun g89 => ?_) (fun g89 => ?_)
            · skip
              refine sg_m_fixedAt_94 r d r d (by first | omega | (unfold bN; (repeat' split) <;> omega)) (by first | omega | (unfold bN; (repeat' split) <;> omega)) S hRf hRl hRc (fun pc ls H locs hd hS => ?_) ls H locs (lv_sub hl [2, 3, 1, 0] rfl) hS
              refine n_topn (show fxI r d = fxA r d from (by (try simp only [bN_e0, bN_ne0] at g19); (try unfold inC at g19); unfold fxA; (try unfold inC); (repeat' split) <;> first | rfl | omega)) ?_
              exact kr _ ls H locs hd hS
            · skip
              refine lv_iconst (v := nI 0) hx hb d_m_fixedAt_92 (by decide) ?_
              refine n_topn (show 0 = fxA r d from (by (try simp only [bN_e0, bN_ne0] at g19); (try unfold inC at g19); unfold fxA; (try unfold inC); (repeat' split) <;> omega)) ?_
              exact kr _ ls H locs d_m_fixedAt_93 hS
        · skip
          refine lv_iload_n hx hb d_m_fixedAt_63 rfl (lv_at hl 2 rfl) ?_
          refine lv_bipush (v := nI 14) hx hb d_m_fixedAt_64 (by decide) ?_
          by_cases h66 : d = 13
          · skip
            refine lv_isub hx hb d_m_fixedAt_66 ?_
            refine n_top (show nI d - nI 14 = -1 from by rw [h66]; decide) ?_
            refine lv_goto hx hb d_m_fixedAt_67 (tgt := 71) rfl ?_
            refine lv_istore_n hx hb d_m_fixedAt_71 rfl hl (Nat.le_of_ble_eq_true rfl) rfl (fun ls hl => ?_)
            have hl : lv_has ls 5 [(3, .int (-1)), (2, .int (nI r)), (0, .int (nI r)), (1, .int (nI d))] := hl
            refine lv_iload_n hx hb d_m_fixedAt_72 rfl (lv_at hl 1 rfl) ?_
            refine n_if_lt hx hb d_m_fixedAt_73 (tgt := 92) rfl (by omega) ?_
            refine lv_iload_n hx hb d_m_fixedAt_76 rfl (lv_at hl 0 rfl) ?_
            refine n_dn_lt hx hb d_m_fixedAt_77 (tgt := 92) rfl ?_
            refine lv_iconst (v := nI 0) hx hb d_m_fixedAt_92 (by decide) ?_
            refine n_topn (show 0 = fxA r d from (by (try simp only [bN_e0, bN_ne0] at g19); (try unfold inC at g19); unfold fxA; (try unfold inC); (repeat' split) <;> omega)) ?_
            exact kr _ ls H locs d_m_fixedAt_93 hS
          · skip
            refine n_isub hx hb d_m_fixedAt_66 (by omega) ?_
            refine lv_goto hx hb d_m_fixedAt_67 (tgt := 71) rfl ?_
            refine lv_istore_n hx hb d_m_fixedAt_71 rfl hl (Nat.le_of_ble_eq_true rfl) rfl (fun ls hl => ?_)
            have hl : lv_has ls 5 [(3, .int (nI (d - 14))), (2, .int (nI r)), (0, .int (nI r)), (1, .int (nI d))] := hl
            refine lv_iload_n hx hb d_m_fixedAt_72 rfl (lv_at hl 1 rfl) ?_
            refine n_if_lt hx hb d_m_fixedAt_73 (tgt := 92) rfl (by omega) ?_
            refine lv_iload_n hx hb d_m_fixedAt_76 rfl (lv_at hl 0 rfl) ?_
            refine n_if_lt hx hb d_m_fixedAt_77 (tgt := 92) rfl (by omega) ?_
            refine lv_iload_n hx hb d_m_fixedAt_80 rfl (lv_at hl 1 rfl) ?_
            refine lv_bipush (v := nI 6) hx hb d_m_fixedAt_81 (by decide) ?_
            refine n_icmp_gt hx hb d_m_fixedAt_83 (tgt := 92) rfl (by omega) (by omega) (fun g83 => ?_) (fun g83 => ?_)
            · skip
              refine lv_iconst (v := nI 0) hx hb d_m_fixedAt_92 (by decide) ?_
              refine n_topn (show 0 = fxA r d from (by (try simp only [bN_e0, bN_ne0] at g19); (try unfold inC at g19); unfold fxA; (try unfold inC); (repeat' split) <;> omega)) ?_
              exact kr _ ls H locs d_m_fixedAt_93 hS
            · skip
              refine lv_iload_n hx hb d_m_fixedAt_86 rfl (lv_at hl 0 rfl) ?_
              refine lv_bipush (v := nI 6) hx hb d_m_fixedAt_87 (by decide) ?_
              refine n_icmp_le hx hb d_m_fixedAt_89 (tgt := 94) rfl (by omega) (by omega) (fun g89 => ?_) (fun g89 => ?_)
              · skip
                refine sg_m_fixedAt_94 r d r (d - 14) (by first | omega | (unfold bN; (repeat' split) <;> omega)) (by first | omega | (unfold bN; (repeat' split) <;> omega)) S hRf hRl hRc (fun pc ls H locs hd hS => ?_) ls H locs (lv_sub hl [2, 3, 1, 0] rfl) hS
                refine n_topn (show fxI r (d - 14) = fxA r d from (by (try simp only [bN_e0, bN_ne0] at g19); (try unfold inC at g19); unfold fxA; (try unfold inC); (repeat' split) <;> first | rfl | omega)) ?_
                exact kr _ ls H locs hd hS
              · skip
                refine lv_iconst (v := nI 0) hx hb d_m_fixedAt_92 (by decide) ?_
                refine n_topn (show 0 = fxA r d from (by (try simp only [bN_e0, bN_ne0] at g19); (try unfold inC at g19); unfold fxA; (try unfold inC); (repeat' split) <;> omega)) ?_
                exact kr _ ls H locs d_m_fixedAt_93 hS
      · skip
        refine lv_iload_n hx hb d_m_fixedAt_48 rfl (lv_at hl 0 rfl) ?_
        refine lv_bipush (v := nI 14) hx hb d_m_fixedAt_49 (by decide) ?_
        by_cases h51 : r = 13
        · skip
          refine lv_isub hx hb d_m_fixedAt_51 ?_
          refine n_top (show nI r - nI 14 = -1 from by rw [h51]; decide) ?_
          refine lv_goto hx hb d_m_fixedAt_52 (tgt := 56) rfl ?_
          refine lv_istore_n hx hb d_m_fixedAt_56 rfl hl (Nat.le_of_ble_eq_true rfl) rfl (fun ls hl => ?_)
          have hl : lv_has ls 5 [(2, .int (-1)), (0, .int (nI r)), (1, .int (nI d))] := hl
          refine lv_iload_n hx hb d_m_fixedAt_57 rfl (lv_at hl 2 rfl) ?_
          refine lv_bipush (v := nI 12) hx hb d_m_fixedAt_58 (by decide) ?_
          refine n_icmp_le hx hb d_m_fixedAt_60 (tgt := 70) rfl (by omega) (by omega) (fun g60 => ?_) (fun g60 => ?_)
          · skip
            refine lv_iload_n hx hb d_m_fixedAt_70 rfl (lv_at hl 2 rfl) ?_
            refine lv_istore_n hx hb d_m_fixedAt_71 rfl hl (Nat.le_of_ble_eq_true rfl) rfl (fun ls hl => ?_)
            have hl : lv_has ls 5 [(3, .int (nI d)), (2, .int (-1)), (0, .int (nI r)), (1, .int (nI d))] := hl
            refine lv_iload_n hx hb d_m_fixedAt_72 rfl (lv_at hl 1 rfl) ?_
            refine n_dn_lt hx hb d_m_fixedAt_73 (tgt := 92) rfl ?_
            refine lv_iconst (v := nI 0) hx hb d_m_fixedAt_92 (by decide) ?_
            refine n_topn (show 0 = fxA r d from (by (try simp only [bN_e0, bN_ne0] at g19); (try unfold inC at g19); unfold fxA; (try unfold inC); (repeat' split) <;> omega)) ?_
            exact kr _ ls H locs d_m_fixedAt_93 hS
          · skip
            refine lv_iload_n hx hb d_m_fixedAt_63 rfl (lv_at hl 2 rfl) ?_
            refine lv_bipush (v := nI 14) hx hb d_m_fixedAt_64 (by decide) ?_
            by_cases h66 : d = 13
            · skip
              refine lv_isub hx hb d_m_fixedAt_66 ?_
              refine n_top (show nI d - nI 14 = -1 from by rw [h66]; decide) ?_
              refine lv_goto hx hb d_m_fixedAt_67 (tgt := 71) rfl ?_
              refine lv_istore_n hx hb d_m_fixedAt_71 rfl hl (Nat.le_of_ble_eq_true rfl) rfl (fun ls hl => ?_)
              have hl : lv_has ls 5 [(3, .int (-1)), (2, .int (-1)), (0, .int (nI r)), (1, .int (nI d))] := hl
              refine lv_iload_n hx hb d_m_fixedAt_72 rfl (lv_at hl 1 rfl) ?_
              refine n_dn_lt hx hb d_m_fixedAt_73 (tgt := 92) rfl ?_
              refine lv_iconst (v := nI 0) hx hb d_m_fixedAt_92 (by decide) ?_
              refine n_topn (show 0 = fxA r d from (by (try simp only [bN_e0, bN_ne0] at g19); (try unfold inC at g19); unfold fxA; (try unfold inC); (repeat' split) <;> omega)) ?_
              exact kr _ ls H locs d_m_fixedAt_93 hS
            · skip
              refine n_isub hx hb d_m_fixedAt_66 (by omega) ?_
              refine lv_goto hx hb d_m_fixedAt_67 (tgt := 71) rfl ?_
              refine lv_istore_n hx hb d_m_fixedAt_71 rfl hl (Nat.le_of_ble_eq_true rfl) rfl (fun ls hl => ?_)
              have hl : lv_has ls 5 [(3, .int (nI (d - 14))), (2, .int (-1)), (0, .int (nI r)), (1, .int (nI d))] := hl
              refine lv_iload_n hx hb d_m_fixedAt_72 rfl (lv_at hl 1 rfl) ?_
              refine n_dn_lt hx hb d_m_fixedAt_73 (tgt := 92) rfl ?_
              refine lv_iconst (v := nI 0) hx hb d_m_fixedAt_92 (by decide) ?_
              refine n_topn (show 0 = fxA r d from (by (try simp only [bN_e0, bN_ne0] at g19); (try unfold inC at g19); unfold fxA; (try unfold inC); (repeat' split) <;> omega)) ?_
              exact kr _ ls H locs d_m_fixedAt_93 hS
        · skip
          refine n_isub hx hb d_m_fixedAt_51 (by omega) ?_
          refine lv_goto hx hb d_m_fixedAt_52 (tgt := 56) rfl ?_
          refine lv_istore_n hx hb d_m_fixedAt_56 rfl hl (Nat.le_of_ble_eq_true rfl) rfl (fun ls hl => ?_)
          have hl : lv_has ls 5 [(2, .int (nI (r - 14))), (0, .int (nI r)), (1, .int (nI d))] := hl
          refine lv_iload_n hx hb d_m_fixedAt_57 rfl (lv_at hl 2 rfl) ?_
          refine lv_bipush (v := nI 12) hx hb d_m_fixedAt_58 (by decide) ?_
          refine n_icmp_le hx hb d_m_fixedAt_60 (tgt := 70) rfl (by omega) (by omega) (fun g60 => ?_) (fun g60 => ?_)
          · skip
            refine lv_iload_n hx hb d_m_fixedAt_70 rfl (lv_at hl 2 rfl) ?_
            refine lv_istore_n hx hb d_m_fixedAt_71 rfl hl (Nat.le_of_ble_eq_true rfl) rfl (fun ls hl => ?_)
            have hl : lv_has ls 5 [(3, .int (nI d)), (2, .int (nI (r - 14))), (0, .int (nI r)), (1, .int (nI d))] := hl
            refine lv_iload_n hx hb d_m_fixedAt_72 rfl (lv_at hl 1 rfl) ?_
            refine n_if_lt hx hb d_m_fixedAt_73 (tgt := 92) rfl (by omega) ?_
            refine lv_iload_n hx hb d_m_fixedAt_76 rfl (lv_at hl 0 rfl) ?_
            refine n_if_lt hx hb d_m_fixedAt_77 (tgt := 92) rfl (by omega) ?_
            refine lv_iload_n hx hb d_m_fixedAt_80 rfl (lv_at hl 1 rfl) ?_
            refine lv_bipush (v := nI 6) hx hb d_m_fixedAt_81 (by decide) ?_
            refine n_icmp_gt hx hb d_m_fixedAt_83 (tgt := 92) rfl (by omega) (by omega) (fun g83 => ?_) (fun g83 => ?_)
            · skip
              refine lv_iconst (v := nI 0) hx hb d_m_fixedAt_92 (by decide) ?_
              refine n_topn (show 0 = fxA r d from (by (try simp only [bN_e0, bN_ne0] at g19); (try unfold inC at g19); unfold fxA; (try unfold inC); (repeat' split) <;> omega)) ?_
              exact kr _ ls H locs d_m_fixedAt_93 hS
            · skip
              refine lv_iload_n hx hb d_m_fixedAt_86 rfl (lv_at hl 0 rfl) ?_
              refine lv_bipush (v := nI 6) hx hb d_m_fixedAt_87 (by decide) ?_
              refine n_icmp_le hx hb d_m_fixedAt_89 (tgt := 94) rfl (by omega) (by omega) (fun g89 => ?_) (fun g89 => ?_)
              · skip
                refine sg_m_fixedAt_94 r d (r - 14) d (by first | omega | (unfold bN; (repeat' split) <;> omega)) (by first | omega | (unfold bN; (repeat' split) <;> omega)) S hRf hRl hRc (fun pc ls H locs hd hS => ?_) ls H locs (lv_sub hl [2, 3, 1, 0] rfl) hS
                refine n_topn (show fxI (r - 14) d = fxA r d from (by (try simp only [bN_e0, bN_ne0] at g19); (try unfold inC at g19); unfold fxA; (try unfold inC); (repeat' split) <;> first | rfl | omega)) ?_
                exact kr _ ls H locs hd hS
              · skip
                refine lv_iconst (v := nI 0) hx hb d_m_fixedAt_92 (by decide) ?_
                refine n_topn (show 0 = fxA r d from (by (try simp only [bN_e0, bN_ne0] at g19); (try unfold inC at g19); unfold fxA; (try unfold inC); (repeat' split) <;> omega)) ?_
                exact kr _ ls H locs d_m_fixedAt_93 hS
          · skip
            refine lv_iload_n hx hb d_m_fixedAt_63 rfl (lv_at hl 2 rfl) ?_
            refine lv_bipush (v := nI 14) hx hb d_m_fixedAt_64 (by decide) ?_
            by_cases h66 : d = 13
            · skip
              refine lv_isub hx hb d_m_fixedAt_66 ?_
              refine n_top (show nI d - nI 14 = -1 from by rw [h66]; decide) ?_
              refine lv_goto hx hb d_m_fixedAt_67 (tgt := 71) rfl ?_
              refine lv_istore_n hx hb d_m_fixedAt_71 rfl hl (Nat.le_of_ble_eq_true rfl) rfl (fun ls hl => ?_)
              have hl : lv_has ls 5 [(3, .int (-1)), (2, .int (nI (r - 14))), (0, .int (nI r)), (1, .int (nI d))] := hl
              refine lv_iload_n hx hb d_m_fixedAt_72 rfl (lv_at hl 1 rfl) ?_
              refine n_if_lt hx hb d_m_fixedAt_73 (tgt := 92) rfl (by omega) ?_
              refine lv_iload_n hx hb d_m_fixedAt_76 rfl (lv_at hl 0 rfl) ?_
              refine n_dn_lt hx hb d_m_fixedAt_77 (tgt := 92) rfl ?_
              refine lv_iconst (v := nI 0) hx hb d_m_fixedAt_92 (by decide) ?_
              refine n_topn (show 0 = fxA r d from (by (try simp only [bN_e0, bN_ne0] at g19); (try unfold inC at g19); unfold fxA; (try unfold inC); (repeat' split) <;> omega)) ?_
              exact kr _ ls H locs d_m_fixedAt_93 hS
            · skip
              refine n_isub hx hb d_m_fixedAt_66 (by omega) ?_
              refine lv_goto hx hb d_m_fixedAt_67 (tgt := 71) rfl ?_
              refine lv_istore_n hx hb d_m_fixedAt_71 rfl hl (Nat.le_of_ble_eq_true rfl) rfl (fun ls hl => ?_)
              have hl : lv_has ls 5 [(3, .int (nI (d - 14))), (2, .int (nI (r - 14))), (0, .int (nI r)), (1, .int (nI d))] := hl
              refine lv_iload_n hx hb d_m_fixedAt_72 rfl (lv_at hl 1 rfl) ?_
              refine n_if_lt hx hb d_m_fixedAt_73 (tgt := 92) rfl (by omega) ?_
              refine lv_iload_n hx hb d_m_fixedAt_76 rfl (lv_at hl 0 rfl) ?_
              refine n_if_lt hx hb d_m_fixedAt_77 (tgt := 92) rfl (by omega) ?_
              refine lv_iload_n hx hb d_m_fixedAt_80 rfl (lv_at hl 1 rfl) ?_
              refine lv_bipush (v := nI 6) hx hb d_m_fixedAt_81 (by decide) ?_
              refine n_icmp_gt hx hb d_m_fixedAt_83 (tgt := 92) rfl (by omega) (by omega) (fun g83 => ?_) (fun g83 => ?_)
              · skip
                refine lv_iconst (v := nI 0) hx hb d_m_fixedAt_92 (by decide) ?_
                refine n_topn (show 0 = fxA r d from (by (try simp only [bN_e0, bN_ne0] at g19); (try unfold inC at g19); unfold fxA; (try unfold inC); (repeat' split) <;> omega)) ?_
                exact kr _ ls H locs d_m_fixedAt_93 hS
              · skip
                refine lv_iload_n hx hb d_m_fixedAt_86 rfl (lv_at hl 0 rfl) ?_
                refine lv_bipush (v := nI 6) hx hb d_m_fixedAt_87 (by decide) ?_
                refine n_icmp_le hx hb d_m_fixedAt_89 (tgt := 94) rfl (by omega) (by omega) (fun g89 => ?_) (fun g89 => ?_)
                · skip
                  refine sg_m_fixedAt_94 r d (r - 14) (d - 14) (by first | omega | (unfold bN; (repeat' split) <;> omega)) (by first | omega | (unfold bN; (repeat' split) <;> omega)) S hRf hRl hRc (fun pc ls H locs hd hS => ?_) ls H locs (lv_sub hl [2, 3, 1, 0] rfl) hS
                  refine n_topn (show fxI (r - 14) (d - 14) = fxA r d from (by (try simp only [bN_e0, bN_ne0] at g19); (try unfold inC at g19); unfold fxA; (try unfold inC); (repeat' split) <;> first | rfl | omega)) ?_
                  exact kr _ ls H locs hd hS
                · skip
                  refine lv_iconst (v := nI 0) hx hb d_m_fixedAt_92 (by decide) ?_
                  refine n_topn (show 0 = fxA r d from (by (try simp only [bN_e0, bN_ne0] at g19); (try unfold inC at g19); unfold fxA; (try unfold inC); (repeat' split) <;> omega)) ?_
                  exact kr _ ls H locs d_m_fixedAt_93 hS
    · skip
      refine lv_iload_n hx hb d_m_fixedAt_22 rfl (lv_at hl 0 rfl) ?_
      refine lv_bipush (v := nI 6) hx hb d_m_fixedAt_23 (by decide) ?_
      refine n_icmp_ne hx hb d_m_fixedAt_25 (tgt := 36) rfl (by omega) (by omega) (fun g25 => ?_) (fun g25 => ?_)
      · skip
        refine lv_iconst (v := nI 1) hx hb d_m_fixedAt_36 (by decide) ?_
        refine lv_iload_n hx hb d_m_fixedAt_37 rfl (lv_at hl 0 rfl) ?_
        refine lv_iconst (v := nI 2) hx hb d_m_fixedAt_38 (by decide) ?_
        refine n_irem hx hb d_m_fixedAt_39 (by omega) (by omega) (by omega) ?_
        refine n_isub hx hb d_m_fixedAt_40 (by omega) ?_
        refine n_topn (show 1 - (r % 2) = fxA r d from (by (try simp only [bN_e0, bN_ne0] at g19); (try unfold inC at g19); unfold fxA; (try unfold inC); (repeat' split) <;> omega)) ?_
        exact kr _ ls H locs d_m_fixedAt_41 hS
      · skip
        refine lv_iconst (v := nI 1) hx hb d_m_fixedAt_28 (by decide) ?_
        refine lv_iload_n hx hb d_m_fixedAt_29 rfl (lv_at hl 1 rfl) ?_
        refine lv_iconst (v := nI 2) hx hb d_m_fixedAt_30 (by decide) ?_
        refine n_irem hx hb d_m_fixedAt_31 (by omega) (by omega) (by omega) ?_
        refine n_isub hx hb d_m_fixedAt_32 (by omega) ?_
        refine lv_goto hx hb d_m_fixedAt_33 (tgt := 41) rfl ?_
        refine n_topn (show 1 - (d % 2) = fxA r d from (by (try simp only [bN_e0, bN_ne0] at g19); (try unfold inC at g19); unfold fxA; (try unfold inC); (repeat' split) <;> omega)) ?_
        exact kr _ ls H locs d_m_fixedAt_41 hS
  · skip
    refine lv_iload_n hx hb d_m_fixedAt_6 rfl (lv_at hl 1 rfl) ?_
    refine lv_bipush (v := nI 8) hx hb d_m_fixedAt_7 (by decide) ?_
    refine n_icmp_ne hx hb d_m_fixedAt_9 (tgt := 14) rfl (by omega) (by omega) (fun g9 => ?_) (fun g9 => ?_)
    · skip
      refine lv_iload_n hx hb d_m_fixedAt_14 rfl (lv_at hl 0 rfl) ?_
      refine lv_iload_n hx hb d_m_fixedAt_15 rfl (lv_at hl 1 rfl) ?_
      refine q_pureS (n := 2) (As := [.int (nI r), .int (nI d)]) (rest := []) S (c_m_inCorner l r d (by omega) (by omega)) (q_goodS kw_773 kw_774 kw_10 kw_775) (by decide +kernel) rfl rfl ⟨Nat.le_trans (Nat.le_of_ble_eq_true rfl) hRf, Nat.le_trans (Nat.le_of_ble_eq_true rfl) hRl⟩ rfl hl.1 rfl (Nat.le_of_ble_eq_true rfl) d_m_fixedAt_16 hRc hS (fun H locs hkp hS => ?_)
      refine n_if_ne hx hb d_m_fixedAt_19 (tgt := 42) rfl (by omega) (fun g19 => ?_) (fun g19 => ?_)
      · skip
        refine lv_iload_n hx hb d_m_fixedAt_42 rfl (lv_at hl 0 rfl) ?_
        refine lv_bipush (v := nI 12) hx hb d_m_fixedAt_43 (by decide) ?_
        refine n_icmp_le hx hb d_m_fixedAt_45 (tgt := 55) rfl (by omega) (by omega) (fun g45 => ?_) (fun g45 => ?_)
        · skip
          refine lv_iload_n hx hb d_m_fixedAt_55 rfl (lv_at hl 0 rfl) ?_
          refine lv_istore_n hx hb d_m_fixedAt_56 rfl hl (Nat.le_of_ble_eq_true rfl) rfl (fun ls hl => ?_)
          have hl : lv_has ls 5 [(2, .int (nI r)), (0, .int (nI r)), (1, .int (nI d))] := hl
          refine lv_iload_n hx hb d_m_fixedAt_57 rfl (lv_at hl 2 rfl) ?_
          refine lv_bipush (v := nI 12) hx hb d_m_fixedAt_58 (by decide) ?_
          refine n_icmp_le hx hb d_m_fixedAt_60 (tgt := 70) rfl (by omega) (by omega) (fun g60 => ?_) (fun g60 => ?_)
          · skip
            refine lv_iload_n hx hb d_m_fixedAt_70 rfl (lv_at hl 2 rfl) ?_
            refine lv_istore_n hx hb d_m_fixedAt_71 rfl hl (Nat.le_of_ble_eq_true rfl) rfl (fun ls hl => ?_)
            have hl : lv_has ls 5 [(3, .int (nI d)), (2, .int (nI r)), (0, .int (nI r)), (1, .int (nI d))] := hl
            refine lv_iload_n hx hb d_m_fixedAt_72 rfl (lv_at hl 1 rfl) ?_
            refine n_if_lt hx hb d_m_fixedAt_73 (tgt := 92) rfl (by omega) ?_
            refine lv_iload_n hx hb d_m_fixedAt_76 rfl (lv_at hl 0 rfl) ?_
            refine n_if_lt hx hb d_m_fixedAt_77 (tgt := 92) rfl (by omega) ?_
            refine lv_iload_n hx hb d_m_fixedAt_80 rfl (lv_at hl 1 rfl) ?_
            refine lv_bipush (v := nI 6) hx hb d_m_fixedAt_81 (by decide) ?_
            refine n_icmp_gt hx hb d_m_fixedAt_83 (tgt := 92) rfl (by omega) (by omega) (fun g83 => ?_) (fun g83 => ?_)
            · skip
              refine lv_iconst (v := nI 0) hx hb d_m_fixedAt_92 (by decide) ?_
              refine n_topn (show 0 = fxA r d from (by (try simp only [bN_e0, bN_ne0] at g19); (try unfold inC at g19); unfold fxA; (try unfold inC); (repeat' split) <;> omega)) ?_
              exact kr _ ls H locs d_m_fixedAt_93 hS
            · skip
              refine lv_iload_n hx hb d_m_fixedAt_86 rfl (lv_at hl 0 rfl) ?_
              refine lv_bipush (v := nI 6) hx hb d_m_fixedAt_87 (by decide) ?_
              refine n_icmp_le hx hb d_m_fixedAt_89 (tgt := 94) rfl (by omega) (by omega) (fun g89 => ?_) (fun g89 => ?_)
              · skip
                refine sg_m_fixedAt_94 r d r d (by first | omega | (unfold bN; (repeat' split) <;> omega)) (by first | omega | (unfold bN; (repeat' split) <;> omega)) S hRf hRl hRc (fun pc ls H locs hd hS => ?_) ls H locs (lv_sub hl [2, 3, 1, 0] rfl) hS
                refine n_topn (show fxI r d = fxA r d from (by (try simp only [bN_e0, bN_ne0] at g19); (try unfold inC at g19); unfold fxA; (try unfold inC); (repeat' split) <;> first | rfl | omega)) ?_
                exact kr _ ls H locs hd hS
              · skip
                refine lv_iconst (v := nI 0) hx hb d_m_fixedAt_92 (by decide) ?_
                refine n_topn (show 0 = fxA r d from (by (try simp only [bN_e0, bN_ne0] at g19); (try unfold inC at g19); unfold fxA; (try unfold inC); (repeat' split) <;> omega)) ?_
                exact kr _ ls H locs d_m_fixedAt_93 hS
          · skip
            refine lv_iload_n hx hb d_m_fixedAt_63 rfl (lv_at hl 2 rfl) ?_
            refine lv_bipush (v := nI 14) hx hb d_m_fixedAt_64 (by decide) ?_
            by_cases h66 : d = 13
            · skip
              refine lv_isub hx hb d_m_fixedAt_66 ?_
              refine n_top (show nI d - nI 14 = -1 from by rw [h66]; decide) ?_
              refine lv_goto hx hb d_m_fixedAt_67 (tgt := 71) rfl ?_
              refine lv_istore_n hx hb d_m_fixedAt_71 rfl hl (Nat.le_of_ble_eq_true rfl) rfl (fun ls hl => ?_)
              have hl : lv_has ls 5 [(3, .int (-1)), (2, .int (nI r)), (0, .int (nI r)), (1, .int (nI d))] := hl
              refine lv_iload_n hx hb d_m_fixedAt_72 rfl (lv_at hl 1 rfl) ?_
              refine n_if_lt hx hb d_m_fixedAt_73 (tgt := 92) rfl (by omega) ?_
              refine lv_iload_n hx hb d_m_fixedAt_76 rfl (lv_at hl 0 rfl) ?_
              refine n_dn_lt hx hb d_m_fixedAt_77 (tgt := 92) rfl ?_
              refine lv_iconst (v := nI 0) hx hb d_m_fixedAt_92 (by decide) ?_
              refine n_topn (show 0 = fxA r d from (by (try simp only [bN_e0, bN_ne0] at g19); (try unfold inC at g19); unfold fxA; (try unfold inC); (repeat' split) <;> omega)) ?_
              exact kr _ ls H locs d_m_fixedAt_93 hS
            · skip
              refine n_isub hx hb d_m_fixedAt_66 (by omega) ?_
              refine lv_goto hx hb d_m_fixedAt_67 (tgt := 71) rfl ?_
              refine lv_istore_n hx hb d_m_fixedAt_71 rfl hl (Nat.le_of_ble_eq_true rfl) rfl (fun ls hl => ?_)
              have hl : lv_has ls 5 [(3, .int (nI (d - 14))), (2, .int (nI r)), (0, .int (nI r)), (1, .int (nI d))] := hl
              refine lv_iload_n hx hb d_m_fixedAt_72 rfl (lv_at hl 1 rfl) ?_
              refine n_if_lt hx hb d_m_fixedAt_73 (tgt := 92) rfl (by omega) ?_
              refine lv_iload_n hx hb d_m_fixedAt_76 rfl (lv_at hl 0 rfl) ?_
              refine n_if_lt hx hb d_m_fixedAt_77 (tgt := 92) rfl (by omega) ?_
              refine lv_iload_n hx hb d_m_fixedAt_80 rfl (lv_at hl 1 rfl) ?_
              refine lv_bipush (v := nI 6) hx hb d_m_fixedAt_81 (by decide) ?_
              refine n_icmp_gt hx hb d_m_fixedAt_83 (tgt := 92) rfl (by omega) (by omega) (fun g83 => ?_) (fun g83 => ?_)
              · skip
                refine lv_iconst (v := nI 0) hx hb d_m_fixedAt_92 (by decide) ?_
                refine n_topn (show 0 = fxA r d from (by (try simp only [bN_e0, bN_ne0] at g19); (try unfold inC at g19); unfold fxA; (try unfold inC); (repeat' split) <;> omega)) ?_
                exact kr _ ls H locs d_m_fixedAt_93 hS
              · skip
                refine lv_iload_n hx hb d_m_fixedAt_86 rfl (lv_at hl 0 rfl) ?_
                refine lv_bipush (v := nI 6) hx hb d_m_fixedAt_87 (by decide) ?_
                refine n_icmp_le hx hb d_m_fixedAt_89 (tgt := 94) rfl (by omega) (by omega) (fun g89 => ?_) (fun g89 => ?_)
                · skip
                  refine sg_m_fixedAt_94 r d r (d - 14) (by first | omega | (unfold bN; (repeat' split) <;> omega)) (by first | omega | (unfold bN; (repeat' split) <;> omega)) S hRf hRl hRc (fun pc ls H locs hd hS => ?_) ls H locs (lv_sub hl [2, 3, 1, 0] rfl) hS
                  refine n_topn (show fxI r (d - 14) = fxA r d from (by (try simp only [bN_e0, bN_ne0] at g19); (try unfold inC at g19); unfold fxA; (try unfold inC); (repeat' split) <;> first | rfl | omega)) ?_
                  exact kr _ ls H locs hd hS
                · skip
                  refine lv_iconst (v := nI 0) hx hb d_m_fixedAt_92 (by decide) ?_
                  refine n_topn (show 0 = fxA r d from (by (try simp only [bN_e0, bN_ne0] at g19); (try unfold inC at g19); unfold fxA; (try unfold inC); (repeat' split) <;> omega)) ?_
                  exact kr _ ls H locs d_m_fixedAt_93 hS
        · skip
          refine lv_iload_n hx hb d_m_fixedAt_48 rfl (lv_at hl 0 rfl) ?_
          refine lv_bipush (v := nI 14) hx hb d_m_fixedAt_49 (by decide) ?_
          by_cases h51 : r = 13
          · skip
            refine lv_isub hx hb d_m_fixedAt_51 ?_
            refine n_top (show nI r - nI 14 = -1 from by rw [h51]; decide) ?_
            refine lv_goto hx hb d_m_fixedAt_52 (tgt := 56) rfl ?_
            refine lv_istore_n hx hb d_m_fixedAt_56 rfl hl (Nat.le_of_ble_eq_true rfl) rfl (fun ls hl => ?_)
            have hl : lv_has ls 5 [(2, .int (-1)), (0, .int (nI r)), (1, .int (nI d))] := hl
            refine lv_iload_n hx hb d_m_fixedAt_57 rfl (lv_at hl 2 rfl) ?_
            refine lv_bipush (v := nI 12) hx hb d_m_fixedAt_58 (by decide) ?_
            refine n_icmp_le hx hb d_m_fixedAt_60 (tgt := 70) rfl (by omega) (by omega) (fun g60 => ?_) (fun g60 => ?_)
            · skip
              refine lv_iload_n hx hb d_m_fixedAt_70 rfl (lv_at hl 2 rfl) ?_
              refine lv_istore_n hx hb d_m_fixedAt_71 rfl hl (Nat.le_of_ble_eq_true rfl) rfl (fun ls hl => ?_)
              have hl : lv_has ls 5 [(3, .int (nI d)), (2, .int (-1)), (0, .int (nI r)), (1, .int (nI d))] := hl
              refine lv_iload_n hx hb d_m_fixedAt_72 rfl (lv_at hl 1 rfl) ?_
              refine n_dn_lt hx hb d_m_fixedAt_73 (tgt := 92) rfl ?_
              refine lv_iconst (v := nI 0) hx hb d_m_fixedAt_92 (by decide) ?_
              refine n_topn (show 0 = fxA r d from (by (try simp only [bN_e0, bN_ne0] at g19); (try unfold inC at g19); unfold fxA; (try unfold inC); (repeat' split) <;> omega)) ?_
              exact kr _ ls H locs d_m_fixedAt_93 hS
            · skip
              refine lv_iload_n hx hb d_m_fixedAt_63 rfl (lv_at hl 2 rfl) ?_
              refine lv_bipush (v := nI 14) hx hb d_m_fixedAt_64 (by decide) ?_
              by_cases h66 : d = 13
              · skip
                refine lv_isub hx hb d_m_fixedAt_66 ?_
                refine n_top (show nI d - nI 14 = -1 from by rw [h66]; decide) ?_
                refine lv_goto hx hb d_m_fixedAt_67 (tgt := 71) rfl ?_
                refine lv_istore_n hx hb d_m_fixedAt_71 rfl hl (Nat.le_of_ble_eq_true rfl) rfl (fun ls hl => ?_)
                have hl : lv_has ls 5 [(3, .int (-1)), (2, .int (-1)), (0, .int (nI r)), (1, .int (nI d))] := hl
                refine lv_iload_n hx hb d_m_fixedAt_72 rfl (lv_at hl 1 rfl) ?_
                refine n_dn_lt hx hb d_m_fixedAt_73 (tgt := 92) rfl ?_
                refine lv_iconst (v := nI 0) hx hb d_m_fixedAt_92 (by decide) ?_
                refine n_topn (show 0 = fxA r d from (by (try simp only [bN_e0, bN_ne0] at g19); (try unfold inC at g19); unfold fxA; (try unfold inC); (repeat' split) <;> omega)) ?_
                exact kr _ ls H locs d_m_fixedAt_93 hS
              · skip
                refine n_isub hx hb d_m_fixedAt_66 (by omega) ?_
                refine lv_goto hx hb d_m_fixedAt_67 (tgt := 71) rfl ?_
                refine lv_istore_n hx hb d_m_fixedAt_71 rfl hl (Nat.le_of_ble_eq_true rfl) rfl (fun ls hl => ?_)
                have hl : lv_has ls 5 [(3, .int (nI (d - 14))), (2, .int (-1)), (0, .int (nI r)), (1, .int (nI d))] := hl
                refine lv_iload_n hx hb d_m_fixedAt_72 rfl (lv_at hl 1 rfl) ?_
                refine n_dn_lt hx hb d_m_fixedAt_73 (tgt := 92) rfl ?_
                refine lv_iconst (v := nI 0) hx hb d_m_fixedAt_92 (by decide) ?_
                refine n_topn (show 0 = fxA r d from (by (try simp only [bN_e0, bN_ne0] at g19); (try unfold inC at g19); unfold fxA; (try unfold inC); (repeat' split) <;> omega)) ?_
                exact kr _ ls H locs d_m_fixedAt_93 hS
          · skip
            refine n_isub hx hb d_m_fixedAt_51 (by omega) ?_
            refine lv_goto hx hb d_m_fixedAt_52 (tgt := 56) rfl ?_
            refine lv_istore_n hx hb d_m_fixedAt_56 rfl hl (Nat.le_of_ble_eq_true rfl) rfl (fun ls hl => ?_)
            have hl : lv_has ls 5 [(2, .int (nI (r - 14))), (0, .int (nI r)), (1, .int (nI d))] := hl
            refine lv_iload_n hx hb d_m_fixedAt_57 rfl (lv_at hl 2 rfl) ?_
            refine lv_bipush (v := nI 12) hx hb d_m_fixedAt_58 (by decide) ?_
            refine n_icmp_le hx hb d_m_fixedAt_60 (tgt := 70) rfl (by omega) (by omega) (fun g60 => ?_) (fun g60 => ?_)
            · skip
              refine lv_iload_n hx hb d_m_fixedAt_70 rfl (lv_at hl 2 rfl) ?_
              refine lv_istore_n hx hb d_m_fixedAt_71 rfl hl (Nat.le_of_ble_eq_true rfl) rfl (fun ls hl => ?_)
              have hl : lv_has ls 5 [(3, .int (nI d)), (2, .int (nI (r - 14))), (0, .int (nI r)), (1, .int (nI d))] := hl
              refine lv_iload_n hx hb d_m_fixedAt_72 rfl (lv_at hl 1 rfl) ?_
              refine n_if_lt hx hb d_m_fixedAt_73 (tgt := 92) rfl (by omega) ?_
              refine lv_iload_n hx hb d_m_fixedAt_76 rfl (lv_at hl 0 rfl) ?_
              refine n_if_lt hx hb d_m_fixedAt_77 (tgt := 92) rfl (by omega) ?_
              refine lv_iload_n hx hb d_m_fixedAt_80 rfl (lv_at hl 1 rfl) ?_
              refine lv_bipush (v := nI 6) hx hb d_m_fixedAt_81 (by decide) ?_
              refine n_icmp_gt hx hb d_m_fixedAt_83 (tgt := 92) rfl (by omega) (by omega) (fun g83 => ?_) (fun g83 => ?_)
              · skip
                refine lv_iconst (v := nI 0) hx hb d_m_fixedAt_92 (by decide) ?_
                refine n_topn (show 0 = fxA r d from (by (try simp only [bN_e0, bN_ne0] at g19); (try unfold inC at g19); unfold fxA; (try unfold inC); (repeat' split) <;> omega)) ?_
                exact kr _ ls H locs d_m_fixedAt_93 hS
              · skip
                refine lv_iload_n hx hb d_m_fixedAt_86 rfl (lv_at hl 0 rfl) ?_
                refine lv_bipush (v := nI 6) hx hb d_m_fixedAt_87 (by decide) ?_
                refine n_icmp_le hx hb d_m_fixedAt_89 (tgt := 94) rfl (by omega) (by omega) (fun g89 => ?_) (fun g89 => ?_)
                · skip
                  refine sg_m_fixedAt_94 r d (r - 14) d (by first | omega | (unfold bN; (repeat' split) <;> omega)) (by first | omega | (unfold bN; (repeat' split) <;> omega)) S hRf hRl hRc (fun pc ls H locs hd hS => ?_) ls H locs (lv_sub hl [2, 3, 1, 0] rfl) hS
                  refine n_topn (show fxI (r - 14) d = fxA r d from (by (try simp only [bN_e0, bN_ne0] at g19); (try unfold inC at g19); unfold fxA; (try unfold inC); (repeat' split) <;> first | rfl | omega)) ?_
                  exact kr _ ls H locs hd hS
                · skip
                  refine lv_iconst (v := nI 0) hx hb d_m_fixedAt_92 (by decide) ?_
                  refine n_topn (show 0 = fxA r d from (by (try simp only [bN_e0, bN_ne0] at g19); (try unfold inC at g19); unfold fxA; (try unfold inC); (repeat' split) <;> omega)) ?_
                  exact kr _ ls H locs d_m_fixedAt_93 hS
            · skip
              refine lv_iload_n hx hb d_m_fixedAt_63 rfl (lv_at hl 2 rfl) ?_
              refine lv_bipush (v := nI 14) hx hb d_m_fixedAt_64 (by decide) ?_
              by_cases h66 : d = 13
              · skip
                refine lv_isub hx hb d_m_fixedAt_66 ?_
                refine n_top (show nI d - nI 14 = -1 from by rw [h66]; decide) ?_
                refine lv_goto hx hb d_m_fixedAt_67 (tgt := 71) rfl ?_
                refine lv_istore_n hx hb d_m_fixedAt_71 rfl hl (Nat.le_of_ble_eq_true rfl) rfl (fun ls hl => ?_)
                have hl : lv_has ls 5 [(3, .int (-1)), (2, .int (nI (r - 14))), (0, .int (nI r)), (1, .int (nI d))] := hl
                refine lv_iload_n hx hb d_m_fixedAt_72 rfl (lv_at hl 1 rfl) ?_
                refine n_if_lt hx hb d_m_fixedAt_73 (tgt := 92) rfl (by omega) ?_
                refine lv_iload_n hx hb d_m_fixedAt_76 rfl (lv_at hl 0 rfl) ?_
                refine n_dn_lt hx hb d_m_fixedAt_77 (tgt := 92) rfl ?_
                refine lv_iconst (v := nI 0) hx hb d_m_fixedAt_92 (by decide) ?_
                refine n_topn (show 0 = fxA r d from (by (try simp only [bN_e0, bN_ne0] at g19); (try unfold inC at g19); unfold fxA; (try unfold inC); (repeat' split) <;> omega)) ?_
                exact kr _ ls H locs d_m_fixedAt_93 hS
              · skip
                refine n_isub hx hb d_m_fixedAt_66 (by omega) ?_
                refine lv_goto hx hb d_m_fixedAt_67 (tgt := 71) rfl ?_
                refine lv_istore_n hx hb d_m_fixedAt_71 rfl hl (Nat.le_of_ble_eq_true rfl) rfl (fun ls hl => ?_)
                have hl : lv_has ls 5 [(3, .int (nI (d - 14))), (2, .int (nI (r - 14))), (0, .int (nI r)), (1, .int (nI d))] := hl
                refine lv_iload_n hx hb d_m_fixedAt_72 rfl (lv_at hl 1 rfl) ?_
                refine n_if_lt hx hb d_m_fixedAt_73 (tgt := 92) rfl (by omega) ?_
                refine lv_iload_n hx hb d_m_fixedAt_76 rfl (lv_at hl 0 rfl) ?_
                refine n_if_lt hx hb d_m_fixedAt_77 (tgt := 92) rfl (by omega) ?_
                refine lv_iload_n hx hb d_m_fixedAt_80 rfl (lv_at hl 1 rfl) ?_
                refine lv_bipush (v := nI 6) hx hb d_m_fixedAt_81 (by decide) ?_
                refine n_icmp_gt hx hb d_m_fixedAt_83 (tgt := 92) rfl (by omega) (by omega) (fun g83 => ?_) (fun g83 => ?_)
                · skip
                  refine lv_iconst (v := nI 0) hx hb d_m_fixedAt_92 (by decide) ?_
                  refine n_topn (show 0 = fxA r d from (by (try simp only [bN_e0, bN_ne0] at g19); (try unfold inC at g19); unfold fxA; (try unfold inC); (repeat' split) <;> omega)) ?_
                  exact kr _ ls H locs d_m_fixedAt_93 hS
                · skip
                  refine lv_iload_n hx hb d_m_fixedAt_86 rfl (lv_at hl 0 rfl) ?_
                  refine lv_bipush (v := nI 6) hx hb d_m_fixedAt_87 (by decide) ?_
                  refine n_icmp_le hx hb d_m_fixedAt_89 (tgt := 94) rfl (by omega) (by omega) (fun g89 => ?_) (fun g89 => ?_)
                  · skip
                    refine sg_m_fixedAt_94 r d (r - 14) (d - 14) (by first | omega | (unfold bN; (repeat' split) <;> omega)) (by first | omega | (unfold bN; (repeat' split) <;> omega)) S hRf hRl hRc (fun pc ls H locs hd hS => ?_) ls H locs (lv_sub hl [2, 3, 1, 0] rfl) hS
                    refine n_topn (show fxI (r - 14) (d - 14) = fxA r d from (by (try simp only [bN_e0, bN_ne0] at g19); (try unfold inC at g19); unfold fxA; (try unfold inC); (repeat' split) <;> first | rfl | omega)) ?_
                    exact kr _ ls H locs hd hS
                  · skip
                    refine lv_iconst (v := nI 0) hx hb d_m_fixedAt_92 (by decide) ?_
                    refine n_topn (show 0 = fxA r d from (by (try simp only [bN_e0, bN_ne0] at g19); (try unfold inC at g19); unfold fxA; (try unfold inC); (repeat' split) <;> omega)) ?_
                    exact kr _ ls H locs d_m_fixedAt_93 hS
      · skip
        refine lv_iload_n hx hb d_m_fixedAt_22 rfl (lv_at hl 0 rfl) ?_
        refine lv_bipush (v := nI 6) hx hb d_m_fixedAt_23 (by decide) ?_
        refine n_icmp_ne hx hb d_m_fixedAt_25 (tgt := 36) rfl (by omega) (by omega) (fun g25 => ?_) (fun g25 => ?_)
        · skip
          refine lv_iconst (v := nI 1) hx hb d_m_fixedAt_36 (by decide) ?_
          refine lv_iload_n hx hb d_m_fixedAt_37 rfl (lv_at hl 0 rfl) ?_
          refine lv_iconst (v := nI 2) hx hb d_m_fixedAt_38 (by decide) ?_
          refine n_irem hx hb d_m_fixedAt_39 (by omega) (by omega) (by omega) ?_
          refine n_isub hx hb d_m_fixedAt_40 (by omega) ?_
          refine n_topn (show 1 - (r % 2) = fxA r d from (by (try simp only [bN_e0, bN_ne0] at g19); (try unfold inC at g19); unfold fxA; (try unfold inC); (repeat' split) <;> omega)) ?_
          exact kr _ ls H locs d_m_fixedAt_41 hS
        · skip
          refine lv_iconst (v := nI 1) hx hb d_m_fixedAt_28 (by decide) ?_
          refine lv_iload_n hx hb d_m_fixedAt_29 rfl (lv_at hl 1 rfl) ?_
          refine lv_iconst (v := nI 2) hx hb d_m_fixedAt_30 (by decide) ?_
          refine n_irem hx hb d_m_fixedAt_31 (by omega) (by omega) (by omega) ?_
          refine n_isub hx hb d_m_fixedAt_32 (by omega) ?_
          refine lv_goto hx hb d_m_fixedAt_33 (tgt := 41) rfl ?_
          refine n_topn (show 1 - (d % 2) = fxA r d from (by (try simp only [bN_e0, bN_ne0] at g19); (try unfold inC at g19); unfold fxA; (try unfold inC); (repeat' split) <;> omega)) ?_
          exact kr _ ls H locs d_m_fixedAt_41 hS
    · skip
      refine lv_iconst (v := nI 1) hx hb d_m_fixedAt_12 (by decide) ?_
      refine n_topn (show 1 = fxA r d from (by (try simp only [bN_e0, bN_ne0] at g19); (try unfold inC at g19); unfold fxA; (try unfold inC); (repeat' split) <;> omega)) ?_
      exact kr _ ls H locs d_m_fixedAt_13 hS
set_option maxHeartbeats 1000000 in
set_option maxRecDepth 100000 in
theorem c_m_fixedAt (l : Launch) (r d : Nat) (hr : r < 21) (hd : d < 21) : Met l y_m_fixedAt (cd_m_fixedAt :: WS) { frames := 1, cells := 0, slots := 0, locals := 21 } (va_Pc [.int (nI r), .int (nI d)] (fun _ => True)) (pQ ((nI (fxA r d)))) 0 0 noA := by
  refine Met.ofW (cc := b_m_fixedAt) (maxL := 5) (ret := (some .int)) (by decide) rfl ?_
  intro p e s m args below meth c s₁ B hml hv0
  obtain ⟨rfl, -⟩ := hv0
  have hts := atoms_spec (ws := cd_m_fixedAt :: WS) B.pre
  have hown : s.vm.findClass R_Model = some m.cls := findClass_of_methodNamed B.named
  have hlocks := B.notSynchronized
  have hl := lv_entry ([.int (nI r), .int (nI d)]) (n := 5) (Nat.le_of_ble_eq_true rfl)
  rw [lg_entry_eq]
  generalize (lg_sl ([.int (nI r), .int (nI d)]) ++ List.replicate (5 - (lg_sl ([.int (nI r), .int (nI d)])).length) Slot.unset).toArray = ls at hl ⊢
  refine bd_m_fixedAt r d hr hd ⟨B.exec, B.bytes, hml, hown, hts⟩ (Nat.le_refl _) (Nat.le_refl _) ⟨Nat.le_refl _, Nat.le_refl _⟩ (fun pc ls H locs hd hS => ?_) ls _ _ hl (va_S.rf (A := noA))
  exact W.iret B.exec B.bytes B.returns (fun t ht _ => ⟨⟨_, (), rfl, rfl, trivial⟩, hS.F ht⟩) hS.2.2 hd
end
section
theorem d_m_turns_0 : decode b_m_turns 0 = .ok (.iload_n 1, 1) := by decide +kernel
theorem d_m_turns_1 : decode b_m_turns 1 = .ok (.iload_n 2, 1) := by decide +kernel
theorem d_m_turns_2 : decode b_m_turns 2 = .ok (.imul, 1) := by decide +kernel
theorem d_m_turns_3 : decode b_m_turns 3 = .ok (.istore_n 3, 1) := by decide +kernel
theorem d_m_turns_4 : decode b_m_turns 4 = .ok (.iload_n 0, 1) := by decide +kernel
theorem d_m_turns_5 : decode b_m_turns 5 = .ok (.tableswitch 147 0 6 #[43, 57, 69, 81, 95, 113, 129], 43) := by decide +kernel
theorem d_m_turns_48 : decode b_m_turns 48 = .ok (.iload_n 1, 1) := by decide +kernel
theorem d_m_turns_49 : decode b_m_turns 49 = .ok (.iload_n 2, 1) := by decide +kernel
theorem d_m_turns_50 : decode b_m_turns 50 = .ok (.iadd, 1) := by decide +kernel
theorem d_m_turns_51 : decode b_m_turns 51 = .ok (.iconst 2, 1) := by decide +kernel
theorem d_m_turns_52 : decode b_m_turns 52 = .ok (.irem, 1) := by decide +kernel
theorem d_m_turns_53 : decode b_m_turns 53 = .ok (.ifCond .ne 7, 3) := by decide +kernel
theorem d_m_turns_56 : decode b_m_turns 56 = .ok (.iconst 1, 1) := by decide +kernel
theorem d_m_turns_57 : decode b_m_turns 57 = .ok (.goto 4, 3) := by decide +kernel
theorem d_m_turns_60 : decode b_m_turns 60 = .ok (.iconst 0, 1) := by decide +kernel
theorem d_m_turns_61 : decode b_m_turns 61 = .ok (.ireturn, 1) := by decide +kernel
theorem d_m_turns_62 : decode b_m_turns 62 = .ok (.iload_n 1, 1) := by decide +kernel
theorem d_m_turns_63 : decode b_m_turns 63 = .ok (.iconst 2, 1) := by decide +kernel
theorem d_m_turns_64 : decode b_m_turns 64 = .ok (.irem, 1) := by decide +kernel
theorem d_m_turns_65 : decode b_m_turns 65 = .ok (.ifCond .ne 7, 3) := by decide +kernel
theorem d_m_turns_68 : decode b_m_turns 68 = .ok (.iconst 1, 1) := by decide +kernel
theorem d_m_turns_69 : decode b_m_turns 69 = .ok (.goto 4, 3) := by decide +kernel
theorem d_m_turns_72 : decode b_m_turns 72 = .ok (.iconst 0, 1) := by decide +kernel
theorem d_m_turns_73 : decode b_m_turns 73 = .ok (.ireturn, 1) := by decide +kernel
theorem d_m_turns_74 : decode b_m_turns 74 = .ok (.iload_n 2, 1) := by decide +kernel
theorem d_m_turns_75 : decode b_m_turns 75 = .ok (.iconst 3, 1) := by decide +kernel
theorem d_m_turns_76 : decode b_m_turns 76 = .ok (.irem, 1) := by decide +kernel
theorem d_m_turns_77 : decode b_m_turns 77 = .ok (.ifCond .ne 7, 3) := by decide +kernel
theorem d_m_turns_80 : decode b_m_turns 80 = .ok (.iconst 1, 1) := by decide +kernel
theorem d_m_turns_81 : decode b_m_turns 81 = .ok (.goto 4, 3) := by decide +kernel
theorem d_m_turns_84 : decode b_m_turns 84 = .ok (.iconst 0, 1) := by decide +kernel
theorem d_m_turns_85 : decode b_m_turns 85 = .ok (.ireturn, 1) := by decide +kernel
theorem d_m_turns_86 : decode b_m_turns 86 = .ok (.iload_n 1, 1) := by decide +kernel
theorem d_m_turns_87 : decode b_m_turns 87 = .ok (.iload_n 2, 1) := by decide +kernel
theorem d_m_turns_88 : decode b_m_turns 88 = .ok (.iadd, 1) := by decide +kernel
theorem d_m_turns_89 : decode b_m_turns 89 = .ok (.iconst 3, 1) := by decide +kernel
theorem d_m_turns_90 : decode b_m_turns 90 = .ok (.irem, 1) := by decide +kernel
theorem d_m_turns_91 : decode b_m_turns 91 = .ok (.ifCond .ne 7, 3) := by decide +kernel
theorem d_m_turns_94 : decode b_m_turns 94 = .ok (.iconst 1, 1) := by decide +kernel
theorem d_m_turns_95 : decode b_m_turns 95 = .ok (.goto 4, 3) := by decide +kernel
theorem d_m_turns_98 : decode b_m_turns 98 = .ok (.iconst 0, 1) := by decide +kernel
theorem d_m_turns_99 : decode b_m_turns 99 = .ok (.ireturn, 1) := by decide +kernel
theorem d_m_turns_100 : decode b_m_turns 100 = .ok (.iload_n 1, 1) := by decide +kernel
theorem d_m_turns_101 : decode b_m_turns 101 = .ok (.iconst 2, 1) := by decide +kernel
theorem d_m_turns_102 : decode b_m_turns 102 = .ok (.idiv, 1) := by decide +kernel
theorem d_m_turns_103 : decode b_m_turns 103 = .ok (.iload_n 2, 1) := by decide +kernel
theorem d_m_turns_104 : decode b_m_turns 104 = .ok (.iconst 3, 1) := by decide +kernel
theorem d_m_turns_105 : decode b_m_turns 105 = .ok (.idiv, 1) := by decide +kernel
theorem d_m_turns_106 : decode b_m_turns 106 = .ok (.iadd, 1) := by decide +kernel
theorem d_m_turns_107 : decode b_m_turns 107 = .ok (.iconst 2, 1) := by decide +kernel
theorem d_m_turns_108 : decode b_m_turns 108 = .ok (.irem, 1) := by decide +kernel
theorem d_m_turns_109 : decode b_m_turns 109 = .ok (.ifCond .ne 7, 3) := by decide +kernel
theorem d_m_turns_112 : decode b_m_turns 112 = .ok (.iconst 1, 1) := by decide +kernel
theorem d_m_turns_113 : decode b_m_turns 113 = .ok (.goto 4, 3) := by decide +kernel
theorem d_m_turns_116 : decode b_m_turns 116 = .ok (.iconst 0, 1) := by decide +kernel
theorem d_m_turns_117 : decode b_m_turns 117 = .ok (.ireturn, 1) := by decide +kernel
theorem d_m_turns_118 : decode b_m_turns 118 = .ok (.iload_n 3, 1) := by decide +kernel
theorem d_m_turns_119 : decode b_m_turns 119 = .ok (.iconst 2, 1) := by decide +kernel
theorem d_m_turns_120 : decode b_m_turns 120 = .ok (.irem, 1) := by decide +kernel
theorem d_m_turns_121 : decode b_m_turns 121 = .ok (.iload_n 3, 1) := by decide +kernel
theorem d_m_turns_122 : decode b_m_turns 122 = .ok (.iconst 3, 1) := by decide +kernel
theorem d_m_turns_123 : decode b_m_turns 123 = .ok (.irem, 1) := by decide +kernel
theorem d_m_turns_124 : decode b_m_turns 124 = .ok (.iadd, 1) := by decide +kernel
theorem d_m_turns_125 : decode b_m_turns 125 = .ok (.ifCond .ne 7, 3) := by decide +kernel
theorem d_m_turns_128 : decode b_m_turns 128 = .ok (.iconst 1, 1) := by decide +kernel
theorem d_m_turns_129 : decode b_m_turns 129 = .ok (.goto 4, 3) := by decide +kernel
theorem d_m_turns_132 : decode b_m_turns 132 = .ok (.iconst 0, 1) := by decide +kernel
theorem d_m_turns_133 : decode b_m_turns 133 = .ok (.ireturn, 1) := by decide +kernel
theorem d_m_turns_134 : decode b_m_turns 134 = .ok (.iload_n 3, 1) := by decide +kernel
theorem d_m_turns_135 : decode b_m_turns 135 = .ok (.iconst 2, 1) := by decide +kernel
theorem d_m_turns_136 : decode b_m_turns 136 = .ok (.irem, 1) := by decide +kernel
theorem d_m_turns_137 : decode b_m_turns 137 = .ok (.iload_n 3, 1) := by decide +kernel
theorem d_m_turns_138 : decode b_m_turns 138 = .ok (.iconst 3, 1) := by decide +kernel
theorem d_m_turns_139 : decode b_m_turns 139 = .ok (.irem, 1) := by decide +kernel
theorem d_m_turns_140 : decode b_m_turns 140 = .ok (.iadd, 1) := by decide +kernel
theorem d_m_turns_141 : decode b_m_turns 141 = .ok (.iconst 2, 1) := by decide +kernel
theorem d_m_turns_142 : decode b_m_turns 142 = .ok (.irem, 1) := by decide +kernel
theorem d_m_turns_143 : decode b_m_turns 143 = .ok (.ifCond .ne 7, 3) := by decide +kernel
theorem d_m_turns_146 : decode b_m_turns 146 = .ok (.iconst 1, 1) := by decide +kernel
theorem d_m_turns_147 : decode b_m_turns 147 = .ok (.goto 4, 3) := by decide +kernel
theorem d_m_turns_150 : decode b_m_turns 150 = .ok (.iconst 0, 1) := by decide +kernel
theorem d_m_turns_151 : decode b_m_turns 151 = .ok (.ireturn, 1) := by decide +kernel
theorem d_m_turns_152 : decode b_m_turns 152 = .ok (.iload_n 1, 1) := by decide +kernel
theorem d_m_turns_153 : decode b_m_turns 153 = .ok (.iload_n 2, 1) := by decide +kernel
theorem d_m_turns_154 : decode b_m_turns 154 = .ok (.iadd, 1) := by decide +kernel
theorem d_m_turns_155 : decode b_m_turns 155 = .ok (.iconst 2, 1) := by decide +kernel
theorem d_m_turns_156 : decode b_m_turns 156 = .ok (.irem, 1) := by decide +kernel
theorem d_m_turns_157 : decode b_m_turns 157 = .ok (.iload_n 3, 1) := by decide +kernel
theorem d_m_turns_158 : decode b_m_turns 158 = .ok (.iconst 3, 1) := by decide +kernel
theorem d_m_turns_159 : decode b_m_turns 159 = .ok (.irem, 1) := by decide +kernel
theorem d_m_turns_160 : decode b_m_turns 160 = .ok (.iadd, 1) := by decide +kernel
theorem d_m_turns_161 : decode b_m_turns 161 = .ok (.iconst 2, 1) := by decide +kernel
theorem d_m_turns_162 : decode b_m_turns 162 = .ok (.irem, 1) := by decide +kernel
theorem d_m_turns_163 : decode b_m_turns 163 = .ok (.ifCond .ne 7, 3) := by decide +kernel
theorem d_m_turns_166 : decode b_m_turns 166 = .ok (.iconst 1, 1) := by decide +kernel
theorem d_m_turns_167 : decode b_m_turns 167 = .ok (.goto 4, 3) := by decide +kernel
theorem d_m_turns_170 : decode b_m_turns 170 = .ok (.iconst 0, 1) := by decide +kernel
theorem d_m_turns_171 : decode b_m_turns 171 = .ok (.ireturn, 1) := by decide +kernel
end
section
variable {p : Program} {l : Launch} {e : Env} {R : Room} {s : State} {m : MethodId} {args : Array Value} {below : List Frame} {meth : Method} {c : Code} {cells slots : Nat} {Q : State → Prop} {A : Nat → Prop} {H0 : Heap} {D : va_G}
set_option maxHeartbeats 1000000 in
set_option maxRecDepth 100000 in
theorem bd_m_turns (mk r d : Nat) (hmk : mk < 8) (hr : r < 21) (hd : d < 21) (S : CallFix p m c b_m_turns 4 s args (cd_m_turns :: WS) R_Model) (hRf : 0 ≤ R.frames) (hRl : 0 ≤ R.locals) (hRc : cells ≤ R.cells ∧ slots ≤ R.slots) (kr : ∀ (pc : Nat) (ls : Array Slot) (H : Heap) (locs : List Loc), decode b_m_turns pc = .ok (.ireturn, 1) → va_S A H0 H locs → W p l e R s m args below meth c H locs cells slots Q (F0 m pc ls [.int (nI (tnN mk r d))])) : ∀ (ls : Array Slot) (H : Heap) (locs : List Loc), lv_has ls 4 [(0, .int (nI mk)), (1, .int (nI r)), (2, .int (nI d))] → va_S A H0 H locs → W p l e R s m args below meth c H locs cells slots Q (F0 m 0 ls []) := by
  obtain ⟨hx, hb, hml, hown, hts⟩ := id S
  intro ls H locs hl hS
  have hrd : r * d < 441 := Nat.lt_of_le_of_lt (Nat.mul_le_mul (Nat.le_of_lt_succ hr) (Nat.le_of_lt_succ hd)) (by decide)
  refine lv_iload_n hx hb d_m_turns_0 rfl (lv_at hl 1 rfl) ?_
  refine lv_iload_n hx hb d_m_turns_1 rfl (lv_at hl 2 rfl) ?_
  refine n_imul hx hb d_m_turns_2 ?_
  refine lv_istore_n hx hb d_m_turns_3 rfl hl (Nat.le_of_ble_eq_true rfl) rfl (fun ls hl => ?_)
  have hl : lv_has ls 4 [(3, .int (nI (r * d))), (0, .int (nI mk)), (1, .int (nI r)), (2, .int (nI d))] := hl
  refine lv_iload_n hx hb d_m_turns_4 rfl (lv_at hl 1 rfl) ?_
  rcases (show mk = 0 ∨ mk = 1 ∨ mk = 2 ∨ mk = 3 ∨ mk = 4 ∨ mk = 5 ∨ mk = 6 ∨ mk = 7 by omega) with g5 | g5 | g5 | g5 | g5 | g5 | g5 | g5
  · skip
    refine n_topn (show mk = 0 from g5) ?_
    refine lv_tableIn hx hb d_m_turns_5 (by decide) (by decide) (off := 43) rfl (tgt := 48) rfl ?_
    refine lv_iload_n hx hb d_m_turns_48 rfl (lv_at hl 2 rfl) ?_
    refine lv_iload_n hx hb d_m_turns_49 rfl (lv_at hl 3 rfl) ?_
    refine n_iadd hx hb d_m_turns_50 ?_
    refine lv_iconst (v := nI 2) hx hb d_m_turns_51 (by decide) ?_
    refine n_irem hx hb d_m_turns_52 (by omega) (by omega) (by omega) ?_
    refine n_if_ne hx hb d_m_turns_53 (tgt := 60) rfl (by omega) (fun g53 => ?_) (fun g53 => ?_)
    · skip
      refine lv_iconst (v := nI 0) hx hb d_m_turns_60 (by decide) ?_
      refine n_topn (show 0 = tnN mk r d from (by rw [g5]; unfold tnN; simp only [bN]; (repeat' split) <;> first | rfl | omega)) ?_
      exact kr _ ls H locs d_m_turns_61 hS
    · skip
      refine lv_iconst (v := nI 1) hx hb d_m_turns_56 (by decide) ?_
      refine lv_goto hx hb d_m_turns_57 (tgt := 61) rfl ?_
      refine n_topn (show 1 = tnN mk r d from (by rw [g5]; unfold tnN; simp only [bN]; (repeat' split) <;> first | rfl | omega)) ?_
      exact kr _ ls H locs d_m_turns_61 hS
  · skip
    refine n_topn (show mk = 1 from g5) ?_
    refine lv_tableIn hx hb d_m_turns_5 (by decide) (by decide) (off := 57) rfl (tgt := 62) rfl ?_
    refine lv_iload_n hx hb d_m_turns_62 rfl (lv_at hl 2 rfl) ?_
    refine lv_iconst (v := nI 2) hx hb d_m_turns_63 (by decide) ?_
    refine n_irem hx hb d_m_turns_64 (by omega) (by omega) (by omega) ?_
    refine n_if_ne hx hb d_m_turns_65 (tgt := 72) rfl (by omega) (fun g65 => ?_) (fun g65 => ?_)
    · skip
      refine lv_iconst (v := nI 0) hx hb d_m_turns_72 (by decide) ?_
      refine n_topn (show 0 = tnN mk r d from (by rw [g5]; unfold tnN; simp only [bN]; (repeat' split) <;> first | rfl | omega)) ?_
      exact kr _ ls H locs d_m_turns_73 hS
    · skip
      refine lv_iconst (v := nI 1) hx hb d_m_turns_68 (by decide) ?_
      refine lv_goto hx hb d_m_turns_69 (tgt := 73) rfl ?_
      refine n_topn (show 1 = tnN mk r d from (by rw [g5]; unfold tnN; simp only [bN]; (repeat' split) <;> first | rfl | omega)) ?_
      exact kr _ ls H locs d_m_turns_73 hS
  · skip
    refine n_topn (show mk = 2 from g5) ?_
    refine lv_tableIn hx hb d_m_turns_5 (by decide) (by decide) (off := 69) rfl (tgt := 74) rfl ?_
    refine lv_iload_n hx hb d_m_turns_74 rfl (lv_at hl 3 rfl) ?_
    refine lv_iconst (v := nI 3) hx hb d_m_turns_75 (by decide) ?_
    refine n_irem hx hb d_m_turns_76 (by omega) (by omega) (by omega) ?_
    refine n_if_ne hx hb d_m_turns_77 (tgt := 84) rfl (by omega) (fun g77 => ?_) (fun g77 => ?_)
    · skip
      refine lv_iconst (v := nI 0) hx hb d_m_turns_84 (by decide) ?_
      refine n_topn (show 0 = tnN mk r d from (by rw [g5]; unfold tnN; simp only [bN]; (repeat' split) <;> first | rfl | omega)) ?_
      exact kr _ ls H locs d_m_turns_85 hS
    · skip
      refine lv_iconst (v := nI 1) hx hb d_m_turns_80 (by decide) ?_
      refine lv_goto hx hb d_m_turns_81 (tgt := 85) rfl ?_
      refine n_topn (show 1 = tnN mk r d from (by rw [g5]; unfold tnN; simp only [bN]; (repeat' split) <;> first | rfl | omega)) ?_
      exact kr _ ls H locs d_m_turns_85 hS
  · skip
    refine n_topn (show mk = 3 from g5) ?_
    refine lv_tableIn hx hb d_m_turns_5 (by decide) (by decide) (off := 81) rfl (tgt := 86) rfl ?_
    refine lv_iload_n hx hb d_m_turns_86 rfl (lv_at hl 2 rfl) ?_
    refine lv_iload_n hx hb d_m_turns_87 rfl (lv_at hl 3 rfl) ?_
    refine n_iadd hx hb d_m_turns_88 ?_
    refine lv_iconst (v := nI 3) hx hb d_m_turns_89 (by decide) ?_
    refine n_irem hx hb d_m_turns_90 (by omega) (by omega) (by omega) ?_
    refine n_if_ne hx hb d_m_turns_91 (tgt := 98) rfl (by omega) (fun g91 => ?_) (fun g91 => ?_)
    · skip
      refine lv_iconst (v := nI 0) hx hb d_m_turns_98 (by decide) ?_
      refine n_topn (show 0 = tnN mk r d from (by rw [g5]; unfold tnN; simp only [bN]; (repeat' split) <;> first | rfl | omega)) ?_
      exact kr _ ls H locs d_m_turns_99 hS
    · skip
      refine lv_iconst (v := nI 1) hx hb d_m_turns_94 (by decide) ?_
      refine lv_goto hx hb d_m_turns_95 (tgt := 99) rfl ?_
      refine n_topn (show 1 = tnN mk r d from (by rw [g5]; unfold tnN; simp only [bN]; (repeat' split) <;> first | rfl | omega)) ?_
      exact kr _ ls H locs d_m_turns_99 hS
  · skip
    refine n_topn (show mk = 4 from g5) ?_
    refine lv_tableIn hx hb d_m_turns_5 (by decide) (by decide) (off := 95) rfl (tgt := 100) rfl ?_
    refine lv_iload_n hx hb d_m_turns_100 rfl (lv_at hl 2 rfl) ?_
    refine lv_iconst (v := nI 2) hx hb d_m_turns_101 (by decide) ?_
    refine n_idiv hx hb d_m_turns_102 (by omega) (by omega) (by omega) ?_
    refine lv_iload_n hx hb d_m_turns_103 rfl (lv_at hl 3 rfl) ?_
    refine lv_iconst (v := nI 3) hx hb d_m_turns_104 (by decide) ?_
    refine n_idiv hx hb d_m_turns_105 (by omega) (by omega) (by omega) ?_
    refine n_iadd hx hb d_m_turns_106 ?_
    refine lv_iconst (v := nI 2) hx hb d_m_turns_107 (by decide) ?_
    refine n_irem hx hb d_m_turns_108 (by omega) (by omega) (by omega) ?_
    refine n_if_ne hx hb d_m_turns_109 (tgt := 116) rfl (by omega) (fun g109 => ?_) (fun g109 => ?_)
    · skip
      refine lv_iconst (v := nI 0) hx hb d_m_turns_116 (by decide) ?_
      refine n_topn (show 0 = tnN mk r d from (by rw [g5]; unfold tnN; simp only [bN]; (repeat' split) <;> first | rfl | omega)) ?_
      exact kr _ ls H locs d_m_turns_117 hS
    · skip
      refine lv_iconst (v := nI 1) hx hb d_m_turns_112 (by decide) ?_
      refine lv_goto hx hb d_m_turns_113 (tgt := 117) rfl ?_
      refine n_topn (show 1 = tnN mk r d from (by rw [g5]; unfold tnN; simp only [bN]; (repeat' split) <;> first | rfl | omega)) ?_
      exact kr _ ls H locs d_m_turns_117 hS
  · skip
    refine n_topn (show mk = 5 from g5) ?_
    refine lv_tableIn hx hb d_m_turns_5 (by decide) (by decide) (off := 113) rfl (tgt := 118) rfl ?_
    refine lv_iload_n hx hb d_m_turns_118 rfl (lv_at hl 0 rfl) ?_
    refine lv_iconst (v := nI 2) hx hb d_m_turns_119 (by decide) ?_
    refine n_irem hx hb d_m_turns_120 (by omega) (by omega) (by omega) ?_
    refine lv_iload_n hx hb d_m_turns_121 rfl (lv_at hl 0 rfl) ?_
    refine lv_iconst (v := nI 3) hx hb d_m_turns_122 (by decide) ?_
    refine n_irem hx hb d_m_turns_123 (by omega) (by omega) (by omega) ?_
    refine n_iadd hx hb d_m_turns_124 ?_
    refine n_if_ne hx hb d_m_turns_125 (tgt := 132) rfl (by omega) (fun g125 => ?_) (fun g125 => ?_)
    · skip
      refine lv_iconst (v := nI 0) hx hb d_m_turns_132 (by decide) ?_
      refine n_topn (show 0 = tnN mk r d from (by rw [g5]; unfold tnN; simp only [bN]; (repeat' split) <;> first | rfl | omega)) ?_
      exact kr _ ls H locs d_m_turns_133 hS
    · skip
      refine lv_iconst (v := nI 1) hx hb d_m_turns_128 (by decide) ?_
      refine lv_goto hx hb d_m_turns_129 (tgt := 133) rfl ?_
      refine n_topn (show 1 = tnN mk r d from (by rw [g5]; unfold tnN; simp only [bN]; (repeat' split) <;> first | rfl | omega)) ?_
      exact kr _ ls H locs d_m_turns_133 hS
  · skip
    refine n_topn (show mk = 6 from g5) ?_
    refine lv_tableIn hx hb d_m_turns_5 (by decide) (by decide) (off := 129) rfl (tgt := 134) rfl ?_
    refine lv_iload_n hx hb d_m_turns_134 rfl (lv_at hl 0 rfl) ?_
    refine lv_iconst (v := nI 2) hx hb d_m_turns_135 (by decide) ?_
    refine n_irem hx hb d_m_turns_136 (by omega) (by omega) (by omega) ?_
    refine lv_iload_n hx hb d_m_turns_137 rfl (lv_at hl 0 rfl) ?_
    refine lv_iconst (v := nI 3) hx hb d_m_turns_138 (by decide) ?_
    refine n_irem hx hb d_m_turns_139 (by omega) (by omega) (by omega) ?_
    refine n_iadd hx hb d_m_turns_140 ?_
    refine lv_iconst (v := nI 2) hx hb d_m_turns_141 (by decide) ?_
    refine n_irem hx hb d_m_turns_142 (by omega) (by omega) (by omega) ?_
    refine n_if_ne hx hb d_m_turns_143 (tgt := 150) rfl (by omega) (fun g143 => ?_) (fun g143 => ?_)
    · skip
      refine lv_iconst (v := nI 0) hx hb d_m_turns_150 (by decide) ?_
      refine n_topn (show 0 = tnN mk r d from (by rw [g5]; unfold tnN; simp only [bN]; (repeat' split) <;> first | rfl | omega)) ?_
      exact kr _ ls H locs d_m_turns_151 hS
    · skip
      refine lv_iconst (v := nI 1) hx hb d_m_turns_146 (by decide) ?_
      refine lv_goto hx hb d_m_turns_147 (tgt := 151) rfl ?_
      refine n_topn (show 1 = tnN mk r d from (by rw [g5]; unfold tnN; simp only [bN]; (repeat' split) <;> first | rfl | omega)) ?_
      exact kr _ ls H locs d_m_turns_151 hS
  · skip
    refine n_topn (show mk = 7 from g5) ?_
    refine lv_tableOut hx hb d_m_turns_5 (by decide) (tgt := 152) rfl ?_
    refine lv_iload_n hx hb d_m_turns_152 rfl (lv_at hl 2 rfl) ?_
    refine lv_iload_n hx hb d_m_turns_153 rfl (lv_at hl 3 rfl) ?_
    refine n_iadd hx hb d_m_turns_154 ?_
    refine lv_iconst (v := nI 2) hx hb d_m_turns_155 (by decide) ?_
    refine n_irem hx hb d_m_turns_156 (by omega) (by omega) (by omega) ?_
    refine lv_iload_n hx hb d_m_turns_157 rfl (lv_at hl 0 rfl) ?_
    refine lv_iconst (v := nI 3) hx hb d_m_turns_158 (by decide) ?_
    refine n_irem hx hb d_m_turns_159 (by omega) (by omega) (by omega) ?_
    refine n_iadd hx hb d_m_turns_160 ?_
    refine lv_iconst (v := nI 2) hx hb d_m_turns_161 (by decide) ?_
    refine n_irem hx hb d_m_turns_162 (by omega) (by omega) (by omega) ?_
    refine n_if_ne hx hb d_m_turns_163 (tgt := 170) rfl (by omega) (fun g163 => ?_) (fun g163 => ?_)
    · skip
      refine lv_iconst (v := nI 0) hx hb d_m_turns_170 (by decide) ?_
      refine n_topn (show 0 = tnN mk r d from (by rw [g5]; unfold tnN; simp only [bN]; (repeat' split) <;> first | rfl | omega)) ?_
      exact kr _ ls H locs d_m_turns_171 hS
    · skip
      refine lv_iconst (v := nI 1) hx hb d_m_turns_166 (by decide) ?_
      refine lv_goto hx hb d_m_turns_167 (tgt := 171) rfl ?_
      refine n_topn (show 1 = tnN mk r d from (by rw [g5]; unfold tnN; simp only [bN]; (repeat' split) <;> first | rfl | omega)) ?_
      exact kr _ ls H locs d_m_turns_171 hS
set_option maxHeartbeats 1000000 in
set_option maxRecDepth 100000 in
theorem c_m_turns (l : Launch) (mk r d : Nat) (hmk : mk < 8) (hr : r < 21) (hd : d < 21) : Met l y_m_turns (cd_m_turns :: WS) { frames := 0, cells := 0, slots := 0, locals := 0 } (va_Pc [.int (nI mk), .int (nI r), .int (nI d)] (fun _ => True)) (pQ ((nI (tnN mk r d)))) 0 0 noA := by
  refine Met.ofW (cc := b_m_turns) (maxL := 4) (ret := (some .boolean)) (by decide) rfl ?_
  intro p e s m args below meth c s₁ B hml hv0
  obtain ⟨rfl, -⟩ := hv0
  have hts := atoms_spec (ws := cd_m_turns :: WS) B.pre
  have hown : s.vm.findClass R_Model = some m.cls := findClass_of_methodNamed B.named
  have hlocks := B.notSynchronized
  have hl := lv_entry ([.int (nI mk), .int (nI r), .int (nI d)]) (n := 4) (Nat.le_of_ble_eq_true rfl)
  rw [lg_entry_eq]
  generalize (lg_sl ([.int (nI mk), .int (nI r), .int (nI d)]) ++ List.replicate (4 - (lg_sl ([.int (nI mk), .int (nI r), .int (nI d)])).length) Slot.unset).toArray = ls at hl ⊢
  refine bd_m_turns mk r d hmk hr hd ⟨B.exec, B.bytes, hml, hown, hts⟩ (Nat.le_refl _) (Nat.le_refl _) ⟨Nat.le_refl _, Nat.le_refl _⟩ (fun pc ls H locs hd hS => ?_) ls _ _ hl (va_S.rf (A := noA))
  exact W.zret B.exec B.bytes B.returns (tnN_fit _ _ _) (fun t ht _ => ⟨⟨_, (), rfl, rfl, trivial⟩, hS.F ht⟩) hS.2.2 hd
end
section
theorem d_m_form_0 : decode b_m_form 0 = .ok (.bipush 8, 2) := by decide +kernel
theorem d_m_form_2 : decode b_m_form 2 = .ok (.iload_n 0, 1) := by decide +kernel
theorem d_m_form_3 : decode b_m_form 3 = .ok (.iconst 1, 1) := by decide +kernel
theorem d_m_form_4 : decode b_m_form 4 = .ok (.ixor, 1) := by decide +kernel
theorem d_m_form_5 : decode b_m_form 5 = .ok (.imul, 1) := by decide +kernel
theorem d_m_form_6 : decode b_m_form 6 = .ok (.iload_n 1, 1) := by decide +kernel
theorem d_m_form_7 : decode b_m_form 7 = .ok (.iadd, 1) := by decide +kernel
theorem d_m_form_8 : decode b_m_form 8 = .ok (.istore_n 2, 1) := by decide +kernel
theorem d_m_form_9 : decode b_m_form 9 = .ok (.iload_n 2, 1) := by decide +kernel
theorem d_m_form_10 : decode b_m_form 10 = .ok (.bipush 10, 2) := by decide +kernel
theorem d_m_form_12 : decode b_m_form 12 = .ok (.ishl, 1) := by decide +kernel
theorem d_m_form_13 : decode b_m_form 13 = .ok (.istore_n 3, 1) := by decide +kernel
theorem d_m_form_14 : decode b_m_form 14 = .ok (.bipush 14, 2) := by decide +kernel
theorem d_m_form_16 : decode b_m_form 16 = .ok (.istore 4, 2) := by decide +kernel
theorem d_m_form_18 : decode b_m_form 18 = .ok (.iload 4, 2) := by decide +kernel
theorem d_m_form_20 : decode b_m_form 20 = .ok (.bipush 10, 2) := by decide +kernel
theorem d_m_form_22 : decode b_m_form 22 = .ok (.if_icmp .lt 35, 3) := by decide +kernel
theorem d_m_form_25 : decode b_m_form 25 = .ok (.iload_n 3, 1) := by decide +kernel
theorem d_m_form_26 : decode b_m_form 26 = .ok (.iload 4, 2) := by decide +kernel
theorem d_m_form_28 : decode b_m_form 28 = .ok (.ishr, 1) := by decide +kernel
theorem d_m_form_29 : decode b_m_form 29 = .ok (.iconst 1, 1) := by decide +kernel
theorem d_m_form_30 : decode b_m_form 30 = .ok (.iand, 1) := by decide +kernel
theorem d_m_form_31 : decode b_m_form 31 = .ok (.iconst 1, 1) := by decide +kernel
theorem d_m_form_32 : decode b_m_form 32 = .ok (.if_icmp .ne 17, 3) := by decide +kernel
theorem d_m_form_35 : decode b_m_form 35 = .ok (.iload_n 3, 1) := by decide +kernel
theorem d_m_form_36 : decode b_m_form 36 = .ok (.sipush 1335, 3) := by decide +kernel
theorem d_m_form_39 : decode b_m_form 39 = .ok (.iload 4, 2) := by decide +kernel
theorem d_m_form_41 : decode b_m_form 41 = .ok (.bipush 10, 2) := by decide +kernel
theorem d_m_form_43 : decode b_m_form 43 = .ok (.isub, 1) := by decide +kernel
theorem d_m_form_44 : decode b_m_form 44 = .ok (.ishl, 1) := by decide +kernel
theorem d_m_form_45 : decode b_m_form 45 = .ok (.ixor, 1) := by decide +kernel
theorem d_m_form_46 : decode b_m_form 46 = .ok (.goto 4, 3) := by decide +kernel
theorem d_m_form_49 : decode b_m_form 49 = .ok (.iload_n 3, 1) := by decide +kernel
theorem d_m_form_50 : decode b_m_form 50 = .ok (.istore_n 3, 1) := by decide +kernel
theorem d_m_form_51 : decode b_m_form 51 = .ok (.iinc 4 (-1), 3) := by decide +kernel
theorem d_m_form_54 : decode b_m_form 54 = .ok (.goto (-36), 3) := by decide +kernel
theorem d_m_form_57 : decode b_m_form 57 = .ok (.iload_n 2, 1) := by decide +kernel
theorem d_m_form_58 : decode b_m_form 58 = .ok (.bipush 10, 2) := by decide +kernel
theorem d_m_form_60 : decode b_m_form 60 = .ok (.ishl, 1) := by decide +kernel
theorem d_m_form_61 : decode b_m_form 61 = .ok (.iload_n 3, 1) := by decide +kernel
theorem d_m_form_62 : decode b_m_form 62 = .ok (.ior, 1) := by decide +kernel
theorem d_m_form_63 : decode b_m_form 63 = .ok (.sipush 21522, 3) := by decide +kernel
theorem d_m_form_66 : decode b_m_form 66 = .ok (.ixor, 1) := by decide +kernel
theorem d_m_form_67 : decode b_m_form 67 = .ok (.ireturn, 1) := by decide +kernel
end
section
variable {p : Program} {l : Launch} {e : Env} {R : Room} {s : State} {m : MethodId} {args : Array Value} {below : List Frame} {meth : Method} {c : Code} {cells slots : Nat} {Q : State → Prop} {A : Nat → Prop} {H0 : Heap} {D : va_G}
set_option maxHeartbeats 1000000 in
set_option maxRecDepth 100000 in
theorem lp_m_form_18 (lv mk : Nat) (hlv : lv < 4) (hmk : mk < 8) (S : CallFix p m c b_m_form 5 s args (cd_m_form :: WS) R_Model) (hRf : 0 ≤ R.frames) (hRl : 0 ≤ R.locals) (hRc : cells ≤ R.cells ∧ slots ≤ R.slots) (kx : ∀ (ls : Array Slot) (H : Heap) (locs : List Loc), lv_has ls 5 [(0, .int (nI lv)), (1, .int (nI mk)), (2, .int (nI (8 * (lv ^^^ 1) + mk))), (3, .int (nI (fmL ((8 * (lv ^^^ 1) + mk) * 2 ^ 10) 5))), (4, .int (nI (14 - 5)))] → va_S A H0 H locs → W p l e R s m args below meth c H locs cells slots Q (F0 m 57 ls [])) :
    ∀ k, k ≤ 5 → ∀ (ls : Array Slot) (H : Heap) (locs : List Loc), lv_has ls 5 [(0, .int (nI lv)), (1, .int (nI mk)), (2, .int (nI (8 * (lv ^^^ 1) + mk))), (3, .int (nI (fmL ((8 * (lv ^^^ 1) + mk) * 2 ^ 10) k))), (4, .int (nI (14 - k)))] → va_S A H0 H locs → W p l e R s m args below meth c H locs cells slots Q (F0 m 18 ls []) := by
  obtain ⟨hx, hb, hml, hown, hts⟩ := id S
  refine up_loop (fun k hkk ih => ?_)
  intro ls H locs hl hS
  have hx8 : lv ^^^ 1 < 4 := Nat.xor_lt_two_pow (n := 2) hlv (by decide)
  have hq := fmL_lt (r := (8 * (lv ^^^ 1) + mk) * 2 ^ 10) (by omega) k (by omega)
  refine lv_iload hx hb d_m_form_18 (lv_at hl 4 rfl) ?_
  refine lv_bipush (v := nI 10) hx hb d_m_form_20 (by decide) ?_
  refine n_icmp_lt hx hb d_m_form_22 (tgt := 57) rfl (by omega) (by omega) (fun g22 => ?_) (fun g22 => ?_)
  · skip
    obtain rfl : k = 5 := by omega
    exact kx ls H locs (lv_sub hl [0, 1, 2, 3, 4] rfl) hS
  · skip
    refine lv_iload_n hx hb d_m_form_25 rfl (lv_at hl 3 rfl) ?_
    refine lv_iload hx hb d_m_form_26 (lv_at hl 4 rfl) ?_
    refine n_ishr hx hb d_m_form_28 (by omega) (by omega) ?_
    refine lv_iconst (v := nI 1) hx hb d_m_form_29 (by decide) ?_
    refine n_and1 hx hb d_m_form_30 ?_
    refine lv_iconst (v := nI 1) hx hb d_m_form_31 (by decide) ?_
    refine n_icmp_ne hx hb d_m_form_32 (tgt := 49) rfl (by omega) (by omega) (fun g32 => ?_) (fun g32 => ?_)
    · skip
      refine lv_iload_n hx hb d_m_form_49 rfl (lv_at hl 3 rfl) ?_
      refine n_topn (show fmL ((8 * (lv ^^^ 1) + mk) * 2 ^ 10) k = fmL ((8 * (lv ^^^ 1) + mk) * 2 ^ 10) (k + 1) from (by first | exact (fmL_t g32).symm | exact (fmL_f g32).symm)) ?_
      refine lv_istore_n hx hb d_m_form_50 rfl hl (Nat.le_of_ble_eq_true rfl) rfl (fun ls hl => ?_)
      have hl : lv_has ls 5 [(3, .int (nI (fmL ((8 * (lv ^^^ 1) + mk) * 2 ^ 10) (k + 1)))), (0, .int (nI lv)), (1, .int (nI mk)), (2, .int (nI (8 * (lv ^^^ 1) + mk))), (4, .int (nI (14 - k)))] := hl
      refine lv_iinc (k := 4) (v := nI (14 - (k + 1))) hx hb d_m_form_51 hl rfl (nx_decN (by omega)) (Nat.le_of_ble_eq_true rfl) rfl (fun ls hl => ?_)
      have hl : lv_has ls 5 [(4, .int (nI (14 - (k + 1)))), (3, .int (nI (fmL ((8 * (lv ^^^ 1) + mk) * 2 ^ 10) (k + 1)))), (0, .int (nI lv)), (1, .int (nI mk)), (2, .int (nI (8 * (lv ^^^ 1) + mk)))] := hl
      refine lv_goto hx hb d_m_form_54 (tgt := 18) rfl ?_
      exact ih (by omega) ls H locs (lv_sub hl [2, 3, 4, 1, 0] rfl) hS
    · skip
      refine lv_iload_n hx hb d_m_form_35 rfl (lv_at hl 3 rfl) ?_
      refine lv_sipush (v := nI 1335) hx hb d_m_form_36 (by decide) ?_
      refine lv_iload hx hb d_m_form_39 (lv_at hl 4 rfl) ?_
      refine lv_bipush (v := nI 10) hx hb d_m_form_41 (by decide) ?_
      refine n_isub hx hb d_m_form_43 (by omega) ?_
      refine n_topn (show (14 - k) - 10 = 4 - k from (by omega)) ?_
      refine n_ishl hx hb d_m_form_44 (by omega) ?_
      refine n_ixor hx hb d_m_form_45 ?_
      refine lv_goto hx hb d_m_form_46 (tgt := 50) rfl ?_
      refine n_topn (show (fmL ((8 * (lv ^^^ 1) + mk) * 2 ^ 10) k) ^^^ (1335 * 2 ^ (4 - k)) = fmL ((8 * (lv ^^^ 1) + mk) * 2 ^ 10) (k + 1) from (by first | exact (fmL_t g32).symm | exact (fmL_f g32).symm)) ?_
      refine lv_istore_n hx hb d_m_form_50 rfl hl (Nat.le_of_ble_eq_true rfl) rfl (fun ls hl => ?_)
      have hl : lv_has ls 5 [(3, .int (nI (fmL ((8 * (lv ^^^ 1) + mk) * 2 ^ 10) (k + 1)))), (0, .int (nI lv)), (1, .int (nI mk)), (2, .int (nI (8 * (lv ^^^ 1) + mk))), (4, .int (nI (14 - k)))] := hl
      refine lv_iinc (k := 4) (v := nI (14 - (k + 1))) hx hb d_m_form_51 hl rfl (nx_decN (by omega)) (Nat.le_of_ble_eq_true rfl) rfl (fun ls hl => ?_)
      have hl : lv_has ls 5 [(4, .int (nI (14 - (k + 1)))), (3, .int (nI (fmL ((8 * (lv ^^^ 1) + mk) * 2 ^ 10) (k + 1)))), (0, .int (nI lv)), (1, .int (nI mk)), (2, .int (nI (8 * (lv ^^^ 1) + mk)))] := hl
      refine lv_goto hx hb d_m_form_54 (tgt := 18) rfl ?_
      exact ih (by omega) ls H locs (lv_sub hl [2, 3, 4, 1, 0] rfl) hS
set_option maxHeartbeats 1000000 in
set_option maxRecDepth 100000 in
theorem bd_m_form (lv mk : Nat) (hlv : lv < 4) (hmk : mk < 8) (S : CallFix p m c b_m_form 5 s args (cd_m_form :: WS) R_Model) (hRf : 0 ≤ R.frames) (hRl : 0 ≤ R.locals) (hRc : cells ≤ R.cells ∧ slots ≤ R.slots) (kr : ∀ (pc : Nat) (ls : Array Slot) (H : Heap) (locs : List Loc), decode b_m_form pc = .ok (.ireturn, 1) → va_S A H0 H locs → W p l e R s m args below meth c H locs cells slots Q (F0 m pc ls [.int (nI (fmN lv mk))])) : ∀ (ls : Array Slot) (H : Heap) (locs : List Loc), lv_has ls 5 [(0, .int (nI lv)), (1, .int (nI mk))] → va_S A H0 H locs → W p l e R s m args below meth c H locs cells slots Q (F0 m 0 ls []) := by
  obtain ⟨hx, hb, hml, hown, hts⟩ := id S
  intro ls H locs hl hS
  have hx8 : lv ^^^ 1 < 4 := Nat.xor_lt_two_pow (n := 2) hlv (by decide)
  refine lv_bipush (v := nI 8) hx hb d_m_form_0 (by decide) ?_
  refine lv_iload_n hx hb d_m_form_2 rfl (lv_at hl 0 rfl) ?_
  refine lv_iconst (v := nI 1) hx hb d_m_form_3 (by decide) ?_
  refine n_ixor hx hb d_m_form_4 ?_
  refine n_imul hx hb d_m_form_5 ?_
  refine lv_iload_n hx hb d_m_form_6 rfl (lv_at hl 1 rfl) ?_
  refine n_iadd hx hb d_m_form_7 ?_
  refine lv_istore_n hx hb d_m_form_8 rfl hl (Nat.le_of_ble_eq_true rfl) rfl (fun ls hl => ?_)
  have hl : lv_has ls 5 [(2, .int (nI ((8 * (lv ^^^ 1)) + mk))), (0, .int (nI lv)), (1, .int (nI mk))] := hl
  refine lv_iload_n hx hb d_m_form_9 rfl (lv_at hl 0 rfl) ?_
  refine lv_bipush (v := nI 10) hx hb d_m_form_10 (by decide) ?_
  refine n_ishl hx hb d_m_form_12 (by omega) ?_
  refine lv_istore_n hx hb d_m_form_13 rfl hl (Nat.le_of_ble_eq_true rfl) rfl (fun ls hl => ?_)
  have hl : lv_has ls 5 [(3, .int (nI (((8 * (lv ^^^ 1)) + mk) * 2 ^ 10))), (2, .int (nI ((8 * (lv ^^^ 1)) + mk))), (0, .int (nI lv)), (1, .int (nI mk))] := hl
  refine lv_bipush (v := nI 14) hx hb d_m_form_14 (by decide) ?_
  refine lv_istore hx hb d_m_form_16 hl (Nat.le_of_ble_eq_true rfl) rfl (fun ls hl => ?_)
  have hl : lv_has ls 5 [(4, .int (nI 14)), (3, .int (nI (((8 * (lv ^^^ 1)) + mk) * 2 ^ 10))), (2, .int (nI ((8 * (lv ^^^ 1)) + mk))), (0, .int (nI lv)), (1, .int (nI mk))] := hl
  refine lp_m_form_18 lv mk hlv hmk S hRf hRl hRc  (fun ls H locs hl hS => ?_) 0 (by omega) ls H locs (lv_sub hl [3, 4, 2, 1, 0] rfl) hS
  refine lv_iload_n hx hb d_m_form_57 rfl (lv_at hl 2 rfl) ?_
  refine lv_bipush (v := nI 10) hx hb d_m_form_58 (by decide) ?_
  refine n_ishl hx hb d_m_form_60 (by omega) ?_
  refine lv_iload_n hx hb d_m_form_61 rfl (lv_at hl 3 rfl) ?_
  refine n_ior hx hb d_m_form_62 ?_
  refine lv_sipush (v := nI 21522) hx hb d_m_form_63 (by decide) ?_
  refine n_ixor hx hb d_m_form_66 ?_
  refine n_topn (show (((8 * (lv ^^^ 1) + mk) * 2 ^ 10) ||| (fmL ((8 * (lv ^^^ 1) + mk) * 2 ^ 10) 5)) ^^^ 21522 = fmN lv mk from rfl) ?_
  exact kr _ ls H locs d_m_form_67 hS
set_option maxHeartbeats 1000000 in
set_option maxRecDepth 100000 in
theorem c_m_form (l : Launch) (lv mk : Nat) (hlv : lv < 4) (hmk : mk < 8) : Met l y_m_form (cd_m_form :: WS) { frames := 0, cells := 0, slots := 0, locals := 0 } (va_Pc [.int (nI lv), .int (nI mk)] (fun _ => True)) (pQ ((nI (fmN lv mk)))) 0 0 noA := by
  refine Met.ofW (cc := b_m_form) (maxL := 5) (ret := (some .int)) (by decide) rfl ?_
  intro p e s m args below meth c s₁ B hml hv0
  obtain ⟨rfl, -⟩ := hv0
  have hts := atoms_spec (ws := cd_m_form :: WS) B.pre
  have hown : s.vm.findClass R_Model = some m.cls := findClass_of_methodNamed B.named
  have hlocks := B.notSynchronized
  have hl := lv_entry ([.int (nI lv), .int (nI mk)]) (n := 5) (Nat.le_of_ble_eq_true rfl)
  rw [lg_entry_eq]
  generalize (lg_sl ([.int (nI lv), .int (nI mk)]) ++ List.replicate (5 - (lg_sl ([.int (nI lv), .int (nI mk)])).length) Slot.unset).toArray = ls at hl ⊢
  refine bd_m_form lv mk hlv hmk ⟨B.exec, B.bytes, hml, hown, hts⟩ (Nat.le_refl _) (Nat.le_refl _) ⟨Nat.le_refl _, Nat.le_refl _⟩ (fun pc ls H locs hd hS => ?_) ls _ _ hl (va_S.rf (A := noA))
  exact W.iret B.exec B.bytes B.returns (fun t ht _ => ⟨⟨_, (), rfl, rfl, trivial⟩, hS.F ht⟩) hS.2.2 hd
end
section
theorem d_m_inverse_0 : decode b_m_inverse 0 = .ok (.iconst 1, 1) := by decide +kernel
theorem d_m_inverse_1 : decode b_m_inverse 1 = .ok (.istore_n 1, 1) := by decide +kernel
theorem d_m_inverse_2 : decode b_m_inverse 2 = .ok (.iload_n 0, 1) := by decide +kernel
theorem d_m_inverse_3 : decode b_m_inverse 3 = .ok (.iload_n 1, 1) := by decide +kernel
theorem d_m_inverse_4 : decode b_m_inverse 4 = .ok (.invokestatic 72, 3) := by decide +kernel
theorem d_m_inverse_7 : decode b_m_inverse 7 = .ok (.iconst 1, 1) := by decide +kernel
theorem d_m_inverse_8 : decode b_m_inverse 8 = .ok (.if_icmp .eq 9, 3) := by decide +kernel
theorem d_m_inverse_11 : decode b_m_inverse 11 = .ok (.iinc 1 1, 3) := by decide +kernel
theorem d_m_inverse_14 : decode b_m_inverse 14 = .ok (.goto (-12), 3) := by decide +kernel
theorem d_m_inverse_17 : decode b_m_inverse 17 = .ok (.iload_n 1, 1) := by decide +kernel
theorem d_m_inverse_18 : decode b_m_inverse 18 = .ok (.ireturn, 1) := by decide +kernel
end
section
variable {p : Program} {l : Launch} {e : Env} {R : Room} {s : State} {m : MethodId} {args : Array Value} {below : List Frame} {meth : Method} {c : Code} {cells slots : Nat} {Q : State → Prop} {A : Nat → Prop} {H0 : Heap} {D : va_G}
set_option maxHeartbeats 1000000 in
set_option maxRecDepth 100000 in
theorem lp_m_inverse_2 (a : Nat) (ha : a < 256) (ha0 : a ≠ 0) (S : CallFix p m c b_m_inverse 2 s args (cd_m_inverse :: WS) R_Model) (hRf : 1 ≤ R.frames) (hRl : 24 ≤ R.locals) (hRc : cells ≤ R.cells ∧ slots ≤ R.slots) (kx : ∀ (ls : Array Slot) (H : Heap) (locs : List Loc), lv_has ls 2 [(0, .int (nI a)), (1, .int (nI (ivN a)))] → va_S A H0 H locs → W p l e R s m args below meth c H locs cells slots Q (F0 m 17 ls [])) :
    ∀ k, k ≤ ivN a → ∀ (ls : Array Slot) (H : Heap) (locs : List Loc), lv_has ls 2 [(0, .int (nI a)), (1, .int (nI k))] → va_S A H0 H locs → W p l e R s m args below meth c H locs cells slots Q (F0 m 2 ls []) := by
  obtain ⟨hx, hb, hml, hown, hts⟩ := id S
  refine up_loop (fun k hkk ih => ?_)
  intro ls H locs hl hS
  have hiv := ivN_lt a
  have hgk := gm_lt k ha
  refine lv_iload_n hx hb d_m_inverse_2 rfl (lv_at hl 0 rfl) ?_
  refine lv_iload_n hx hb d_m_inverse_3 rfl (lv_at hl 1 rfl) ?_
  refine q_pureS (n := 2) (As := [.int (nI a), .int (nI k)]) (rest := []) S (c_m_times l a k (by omega) (by omega)) (q_goodS kw_890 kw_891 kw_10 kw_892) (by decide +kernel) rfl rfl ⟨Nat.le_trans (Nat.le_of_ble_eq_true rfl) hRf, Nat.le_trans (Nat.le_of_ble_eq_true rfl) hRl⟩ rfl hl.1 rfl (Nat.le_of_ble_eq_true rfl) d_m_inverse_4 hRc hS (fun H locs hkp hS => ?_)
  refine lv_iconst (v := nI 1) hx hb d_m_inverse_7 (by decide) ?_
  refine n_icmp_eq hx hb d_m_inverse_8 (tgt := 17) rfl (by omega) (by omega) (fun g8 => ?_) (fun g8 => ?_)
  · skip
    have hke : k = ivN a := ivN_uniq ha ha0 (by omega) g8
    obtain rfl : k = ivN a := by omega
    exact kx ls H locs (lv_sub hl [0, 1] rfl) hS
  · skip
    refine lv_iinc (k := 1) (v := nI (k + 1)) hx hb d_m_inverse_11 hl rfl (nx_inc k 1) (Nat.le_of_ble_eq_true rfl) rfl (fun ls hl => ?_)
    have hl : lv_has ls 2 [(1, .int (nI (k + 1))), (0, .int (nI a))] := hl
    refine lv_goto hx hb d_m_inverse_14 (tgt := 2) rfl ?_
    have hke : k ≠ ivN a := fun h => g8 (h ▸ gm_iv ha ha0)
    exact ih (by omega) ls H locs (lv_sub hl [1, 0] rfl) hS
set_option maxHeartbeats 1000000 in
set_option maxRecDepth 100000 in
theorem bd_m_inverse (a : Nat) (ha : a < 256) (ha0 : a ≠ 0) (S : CallFix p m c b_m_inverse 2 s args (cd_m_inverse :: WS) R_Model) (hRf : 1 ≤ R.frames) (hRl : 24 ≤ R.locals) (hRc : cells ≤ R.cells ∧ slots ≤ R.slots) (kr : ∀ (pc : Nat) (ls : Array Slot) (H : Heap) (locs : List Loc), decode b_m_inverse pc = .ok (.ireturn, 1) → va_S A H0 H locs → W p l e R s m args below meth c H locs cells slots Q (F0 m pc ls [.int (nI (ivN a))])) : ∀ (ls : Array Slot) (H : Heap) (locs : List Loc), lv_has ls 2 [(0, .int (nI a))] → va_S A H0 H locs → W p l e R s m args below meth c H locs cells slots Q (F0 m 0 ls []) := by
  obtain ⟨hx, hb, hml, hown, hts⟩ := id S
  intro ls H locs hl hS
  refine lv_iconst (v := nI 1) hx hb d_m_inverse_0 (by decide) ?_
  refine lv_istore_n hx hb d_m_inverse_1 rfl hl (Nat.le_of_ble_eq_true rfl) rfl (fun ls hl => ?_)
  have hl : lv_has ls 2 [(1, .int (nI 1)), (0, .int (nI a))] := hl
  refine lp_m_inverse_2 a ha ha0 S hRf hRl hRc  (fun ls H locs hl hS => ?_) 1 (ivN_pos ha ha0) ls H locs (lv_sub hl [1, 0] rfl) hS
  refine lv_iload_n hx hb d_m_inverse_17 rfl (lv_at hl 1 rfl) ?_
  refine n_topn (show (ivN a) = ivN a from rfl) ?_
  exact kr _ ls H locs d_m_inverse_18 hS
set_option maxHeartbeats 1000000 in
set_option maxRecDepth 100000 in
theorem c_m_inverse (l : Launch) (a : Nat) (ha : a < 256) (ha0 : a ≠ 0) : Met l y_m_inverse (cd_m_inverse :: WS) { frames := 1, cells := 0, slots := 0, locals := 24 } (va_Pc [.int (nI a)] (fun _ => True)) (pQ ((nI (ivN a)))) 0 0 noA := by
  refine Met.ofW (cc := b_m_inverse) (maxL := 2) (ret := (some .int)) (by decide) rfl ?_
  intro p e s m args below meth c s₁ B hml hv0
  obtain ⟨rfl, -⟩ := hv0
  have hts := atoms_spec (ws := cd_m_inverse :: WS) B.pre
  have hown : s.vm.findClass R_Model = some m.cls := findClass_of_methodNamed B.named
  have hlocks := B.notSynchronized
  have hl := lv_entry ([.int (nI a)]) (n := 2) (Nat.le_of_ble_eq_true rfl)
  rw [lg_entry_eq]
  generalize (lg_sl ([.int (nI a)]) ++ List.replicate (2 - (lg_sl ([.int (nI a)])).length) Slot.unset).toArray = ls at hl ⊢
  refine bd_m_inverse a ha ha0 ⟨B.exec, B.bytes, hml, hown, hts⟩ (Nat.le_refl _) (Nat.le_refl _) ⟨Nat.le_refl _, Nat.le_refl _⟩ (fun pc ls H locs hd hS => ?_) ls _ _ hl (va_S.rf (A := noA))
  exact W.iret B.exec B.bytes B.returns (fun t ht _ => ⟨⟨_, (), rfl, rfl, trivial⟩, hS.F ht⟩) hS.2.2 hd
end
