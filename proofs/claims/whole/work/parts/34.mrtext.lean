theorem kw_984 : (Jvm.Cond.methodLink "SquareCodesModel" (171 : Nat) ({ cls := "SquareCodesModel", name := "characters", desc := "(II)Z" } : Jvm.MethodName)) ∈ WS := WS_tbl 984 (by decide +kernel) rfl
theorem kw_986 : (Jvm.Cond.instanceMethod ({ cls := "SquareCodesModel", name := "characters", desc := "(II)Z" } : Jvm.MethodName)) ∈ WS := WS_tbl 986 (by decide +kernel) rfl
theorem ks_39 : Cond.selects R_Model y_m_characters y_m_characters ∈ WS := WS_sel 39 (by decide +kernel) rfl
set_option maxRecDepth 1000000 in
theorem kw_987 : cd_m_characters ∈ WS := WS_tbl 987 rfl rfl
section
theorem d_m_readText_0 : decode b_m_readText 0 = .ok (.aload_n 0, 1) := by decide +kernel
theorem d_m_readText_1 : decode b_m_readText 1 = .ok (.iconst 0, 1) := by decide +kernel
theorem d_m_readText_2 : decode b_m_readText 2 = .ok (.putfield 155, 3) := by decide +kernel
theorem d_m_readText_5 : decode b_m_readText 5 = .ok (.aload_n 0, 1) := by decide +kernel
theorem d_m_readText_6 : decode b_m_readText 6 = .ok (.iconst 0, 1) := by decide +kernel
theorem d_m_readText_7 : decode b_m_readText 7 = .ok (.putfield 161, 3) := by decide +kernel
theorem d_m_readText_10 : decode b_m_readText 10 = .ok (.iconst 1, 1) := by decide +kernel
theorem d_m_readText_11 : decode b_m_readText 11 = .ok (.istore_n 2, 1) := by decide +kernel
theorem d_m_readText_12 : decode b_m_readText 12 = .ok (.iconst 1, 1) := by decide +kernel
theorem d_m_readText_13 : decode b_m_readText 13 = .ok (.istore_n 3, 1) := by decide +kernel
theorem d_m_readText_14 : decode b_m_readText 14 = .ok (.iload_n 2, 1) := by decide +kernel
theorem d_m_readText_15 : decode b_m_readText 15 = .ok (.ifCond .eq 79, 3) := by decide +kernel
theorem d_m_readText_18 : decode b_m_readText 18 = .ok (.iload_n 3, 1) := by decide +kernel
theorem d_m_readText_19 : decode b_m_readText 19 = .ok (.ifCond .eq 75, 3) := by decide +kernel
theorem d_m_readText_22 : decode b_m_readText 22 = .ok (.bipush 8, 2) := by decide +kernel
theorem d_m_readText_24 : decode b_m_readText 24 = .ok (.iload_n 1, 1) := by decide +kernel
theorem d_m_readText_25 : decode b_m_readText 25 = .ok (.imul, 1) := by decide +kernel
theorem d_m_readText_26 : decode b_m_readText 26 = .ok (.aload_n 0, 1) := by decide +kernel
theorem d_m_readText_27 : decode b_m_readText 27 = .ok (.getfield 155, 3) := by decide +kernel
theorem d_m_readText_30 : decode b_m_readText 30 = .ok (.isub, 1) := by decide +kernel
theorem d_m_readText_31 : decode b_m_readText 31 = .ok (.iconst 4, 1) := by decide +kernel
theorem d_m_readText_32 : decode b_m_readText 32 = .ok (.if_icmp .lt 62, 3) := by decide +kernel
theorem d_m_readText_35 : decode b_m_readText 35 = .ok (.aload_n 0, 1) := by decide +kernel
theorem d_m_readText_36 : decode b_m_readText 36 = .ok (.iconst 4, 1) := by decide +kernel
theorem d_m_readText_37 : decode b_m_readText 37 = .ok (.invokevirtual 158, 3) := by decide +kernel
theorem d_m_readText_40 : decode b_m_readText 40 = .ok (.istore 4, 2) := by decide +kernel
theorem d_m_readText_42 : decode b_m_readText 42 = .ok (.iload 4, 2) := by decide +kernel
theorem d_m_readText_44 : decode b_m_readText 44 = .ok (.ifCond .eq 7, 3) := by decide +kernel
theorem d_m_readText_47 : decode b_m_readText 47 = .ok (.iconst 1, 1) := by decide +kernel
theorem d_m_readText_48 : decode b_m_readText 48 = .ok (.goto 4, 3) := by decide +kernel
theorem d_m_readText_51 : decode b_m_readText 51 = .ok (.iconst 0, 1) := by decide +kernel
theorem d_m_readText_52 : decode b_m_readText 52 = .ok (.istore_n 3, 1) := by decide +kernel
theorem d_m_readText_53 : decode b_m_readText 53 = .ok (.iload_n 3, 1) := by decide +kernel
theorem d_m_readText_54 : decode b_m_readText 54 = .ok (.ifCond .eq 31, 3) := by decide +kernel
theorem d_m_readText_57 : decode b_m_readText 57 = .ok (.iload 4, 2) := by decide +kernel
theorem d_m_readText_59 : decode b_m_readText 59 = .ok (.iconst 1, 1) := by decide +kernel
theorem d_m_readText_60 : decode b_m_readText 60 = .ok (.if_icmp .eq 15, 3) := by decide +kernel
theorem d_m_readText_63 : decode b_m_readText 63 = .ok (.iload 4, 2) := by decide +kernel
theorem d_m_readText_65 : decode b_m_readText 65 = .ok (.iconst 2, 1) := by decide +kernel
theorem d_m_readText_66 : decode b_m_readText 66 = .ok (.if_icmp .eq 9, 3) := by decide +kernel
theorem d_m_readText_69 : decode b_m_readText 69 = .ok (.iload 4, 2) := by decide +kernel
theorem d_m_readText_71 : decode b_m_readText 71 = .ok (.iconst 4, 1) := by decide +kernel
theorem d_m_readText_72 : decode b_m_readText 72 = .ok (.if_icmp .ne 17, 3) := by decide +kernel
theorem d_m_readText_75 : decode b_m_readText 75 = .ok (.aload_n 0, 1) := by decide +kernel
theorem d_m_readText_76 : decode b_m_readText 76 = .ok (.iload 4, 2) := by decide +kernel
theorem d_m_readText_78 : decode b_m_readText 78 = .ok (.iload_n 1, 1) := by decide +kernel
theorem d_m_readText_79 : decode b_m_readText 79 = .ok (.invokevirtual 171, 3) := by decide +kernel
theorem d_m_readText_82 : decode b_m_readText 82 = .ok (.ifCond .eq 7, 3) := by decide +kernel
theorem d_m_readText_85 : decode b_m_readText 85 = .ok (.iconst 1, 1) := by decide +kernel
theorem d_m_readText_86 : decode b_m_readText 86 = .ok (.goto 4, 3) := by decide +kernel
theorem d_m_readText_89 : decode b_m_readText 89 = .ok (.iconst 0, 1) := by decide +kernel
theorem d_m_readText_90 : decode b_m_readText 90 = .ok (.istore_n 2, 1) := by decide +kernel
theorem d_m_readText_91 : decode b_m_readText 91 = .ok (.goto (-77), 3) := by decide +kernel
theorem d_m_readText_94 : decode b_m_readText 94 = .ok (.iload_n 2, 1) := by decide +kernel
theorem d_m_readText_95 : decode b_m_readText 95 = .ok (.ireturn, 1) := by decide +kernel
end
section
variable {p : Program} {l : Launch} {e : Env} {R : Room} {s : State} {m : MethodId} {args : Array Value} {below : List Frame} {meth : Method} {c : Code} {cells slots : Nat} {Q : State → Prop} {A : Nat → Prop} {H0 : Heap} {D : va_G}
set_option maxHeartbeats 1000000 in
set_option maxRecDepth 100000 in
theorem lw_m_readText_14 (cI cC : ClassId) (h i0 i1 a2 a3 a4 a5 a6 a7 a8 i9 a10 a11 a12 a13 a14 a15 i16 i17 a18 i19 a20 a21 i22 a23 : Nat) (tr re : Nat → Nat) (dt : Nat) (hdt : dt ≤ 19) (htr : ∀ j, j < 26 → tr j < 256) (S : CallFix p m c b_m_readText 5 s args (cd_m_readText :: WS) R_Model) (hRf : 3 ≤ R.frames) (hRl : 78 ≤ R.locals) (hRc : cells ≤ R.cells ∧ slots ≤ R.slots) (hK : va_K D classes [(cI, .int), (cC, .char)] s) (hA : ∀ q, H0.size ≤ q → A q) :
    ∀ (n : Nat) (pl : Nat) (fd : Nat) (rd : Nat → Nat), (8 * dt - pl ≤ n) → (10 * fd ≤ 3 * pl) → (pl ≤ 8 * dt) → (∀ (ls : Array Slot) (H : Heap) (locs : List Loc), lv_has ls 5 [(0, .ref h), (2, .int (nI ((rtW tr dt n pl fd rd).1)))] → va_P D classes [(h, .inr (8, [.int (nI i0), .int (nI i1), .ref a2, .ref a3, .ref a4, .ref a5, .ref a6, .ref a7, .ref a8, .int (nI i9), .ref a10, .ref a11, .ref a12, .ref a13, .ref a14, .ref a15, .int (nI ((rtW tr dt n pl fd rd).2.1)), .int (nI ((rtW tr dt n pl fd rd).2.2.1)), .ref a18, .int (nI i19), .ref a20, .ref a21, .int (nI i22), .ref a23])), (a11, .inl (cI, 26, .inl (fun j => nI (tr j)))), (a18, .inl (cI, 64, .inl (fun j => nI (((rtW tr dt n pl fd rd).2.2.2) j))))] H → va_D A [(h, .inr (8, [.int (nI i0), .int (nI i1), .ref a2, .ref a3, .ref a4, .ref a5, .ref a6, .ref a7, .ref a8, .int (nI i9), .ref a10, .ref a11, .ref a12, .ref a13, .ref a14, .ref a15, .int (nI ((rtW tr dt n pl fd rd).2.1)), .int (nI ((rtW tr dt n pl fd rd).2.2.1)), .ref a18, .int (nI i19), .ref a20, .ref a21, .int (nI i22), .ref a23])), (a11, .inl (cI, 26, .inl (fun j => nI (tr j)))), (a18, .inl (cI, 64, .inl (fun j => nI (((rtW tr dt n pl fd rd).2.2.2) j))))] → va_S A H0 H locs → W p l e R s m args below meth c H locs cells slots Q (F0 m 94 ls [])) → ∀ (ls : Array Slot) (H : Heap) (locs : List Loc), lv_has ls 5 [(0, .ref h), (1, .int (nI dt)), (2, .int (nI 1)), (3, .int (nI 1))] → va_P D classes [(h, .inr (8, [.int (nI i0), .int (nI i1), .ref a2, .ref a3, .ref a4, .ref a5, .ref a6, .ref a7, .ref a8, .int (nI i9), .ref a10, .ref a11, .ref a12, .ref a13, .ref a14, .ref a15, .int (nI pl), .int (nI fd), .ref a18, .int (nI i19), .ref a20, .ref a21, .int (nI i22), .ref a23])), (a11, .inl (cI, 26, .inl (fun j => nI (tr j)))), (a18, .inl (cI, 64, .inl (fun j => nI (rd j))))] H → va_D A [(h, .inr (8, [.int (nI i0), .int (nI i1), .ref a2, .ref a3, .ref a4, .ref a5, .ref a6, .ref a7, .ref a8, .int (nI i9), .ref a10, .ref a11, .ref a12, .ref a13, .ref a14, .ref a15, .int (nI pl), .int (nI fd), .ref a18, .int (nI i19), .ref a20, .ref a21, .int (nI i22), .ref a23])), (a11, .inl (cI, 26, .inl (fun j => nI (tr j)))), (a18, .inl (cI, 64, .inl (fun j => nI (rd j))))] → va_S A H0 H locs → W p l e R s m args below meth c H locs cells slots Q (F0 m 14 ls []) := by
  obtain ⟨hx, hb, hml, hown, hts⟩ := id S
  refine fuel_ind (fun n ih => ?_)
  intro pl fd rd hln hi1 hi2 kx ls H locs hl hP hD hS
  have hn4 := nxL_lt htr pl 4
  refine lv_iload_n hx hb d_m_readText_14 rfl (lv_at hl 2 rfl) ?_
  refine n_if_eq hx hb d_m_readText_15 (tgt := 94) rfl (by omega) (fun g15 => absurd g15 (by decide)) (fun g15 => ?_)
  refine lv_iload_n hx hb d_m_readText_18 rfl (lv_at hl 3 rfl) ?_
  refine n_if_eq hx hb d_m_readText_19 (tgt := 94) rfl (by omega) (fun g19 => absurd g19 (by decide)) (fun g19 => ?_)
  refine lv_bipush (v := nI 8) hx hb d_m_readText_22 (by decide) ?_
  refine lv_iload_n hx hb d_m_readText_24 rfl (lv_at hl 1 rfl) ?_
  refine n_imul hx hb d_m_readText_25 ?_
  refine lv_aload_n hx hb d_m_readText_26 rfl (lv_at hl 0 rfl) ?_
  refine n_get (C := R_Model) (T := F_Model) (N := 24) (v := .int (nI pl)) hx hb hts u_Model_in hown hK hP 0 rfl rfl 16 (by decide) kw_792 rfl d_m_readText_27 ?_
  refine n_isub hx hb d_m_readText_30 (by omega) ?_
  refine lv_iconst (v := nI 4) hx hb d_m_readText_31 (by decide) ?_
  refine n_icmp_lt hx hb d_m_readText_32 (tgt := 94) rfl (by omega) (by omega) (fun g32 => ?_) (fun g32 => ?_)
  · skip
    rw [rtW_e (by omega)] at kx
    exact kx ls H locs (lv_sub hl [0, 2] rfl) hP hD hS
  · skip
    refine lv_aload_n hx hb d_m_readText_35 rfl (lv_at hl 0 rfl) ?_
    refine lv_iconst (v := nI 4) hx hb d_m_readText_36 (by decide) ?_
    refine q_writeVi (n := 1) (As := [.int (nI 4)]) (rest := []) (wc := [(h, .inr (8, [.int (nI i0), .int (nI i1), .ref a2, .ref a3, .ref a4, .ref a5, .ref a6, .ref a7, .ref a8, .int (nI i9), .ref a10, .ref a11, .ref a12, .ref a13, .ref a14, .ref a15, .int (nI pl), .int (nI fd), .ref a18, .int (nI i19), .ref a20, .ref a21, .int (nI i22), .ref a23])), (a11, .inl (cI, 26, .inl (fun j => nI (tr j))))]) (wr := [(a18, .inl (cI, 64, .inl (fun j => nI (rd j))))]) (w1 := [(h, .inr (8, [.int (nI i0), .int (nI i1), .ref a2, .ref a3, .ref a4, .ref a5, .ref a6, .ref a7, .ref a8, .int (nI i9), .ref a10, .ref a11, .ref a12, .ref a13, .ref a14, .ref a15, .int (nI (pl + 4)), .int (nI fd), .ref a18, .int (nI i19), .ref a20, .ref a21, .int (nI i22), .ref a23])), (a11, .inl (cI, 26, .inl (fun j => nI (tr j))))]) S (c_m_next l D cI cC h i0 i1 a2 a3 a4 a5 a6 a7 a8 i9 a10 a11 a12 a13 a14 a15 pl fd a18 i19 a20 a21 i22 a23 tr 4 (by omega) htr H.size) hK hP hD hA (q0 := 0) rfl rfl [0, 1] [2] rfl rfl rfl rfl (by decide) rfl (q_goodV kw_980 kw_982 ks_38 kw_10 kw_983) (by decide +kernel) rfl rfl rfl ⟨Nat.le_trans (Nat.le_of_ble_eq_true rfl) hRf, Nat.le_trans (Nat.le_of_ble_eq_true rfl) hRl⟩ rfl hl.1 rfl (Nat.le_of_ble_eq_true rfl) d_m_readText_37 hRc hS (fun H locs hP hD hS => ?_)
    replace hP : va_P D classes [(h, .inr (8, [.int (nI i0), .int (nI i1), .ref a2, .ref a3, .ref a4, .ref a5, .ref a6, .ref a7, .ref a8, .int (nI i9), .ref a10, .ref a11, .ref a12, .ref a13, .ref a14, .ref a15, .int (nI (pl + 4)), .int (nI fd), .ref a18, .int (nI i19), .ref a20, .ref a21, .int (nI i22), .ref a23])), (a11, .inl (cI, 26, .inl (fun j => nI (tr j)))), (a18, .inl (cI, 64, .inl (fun j => nI (rd j))))] H := hP.sub [1, 2, 0] rfl
    replace hD : va_D A [(h, .inr (8, [.int (nI i0), .int (nI i1), .ref a2, .ref a3, .ref a4, .ref a5, .ref a6, .ref a7, .ref a8, .int (nI i9), .ref a10, .ref a11, .ref a12, .ref a13, .ref a14, .ref a15, .int (nI (pl + 4)), .int (nI fd), .ref a18, .int (nI i19), .ref a20, .ref a21, .int (nI i22), .ref a23])), (a11, .inl (cI, 26, .inl (fun j => nI (tr j)))), (a18, .inl (cI, 64, .inl (fun j => nI (rd j))))] := hD.sub [1, 2, 0] rfl rfl
    refine lv_istore hx hb d_m_readText_40 hl (Nat.le_of_ble_eq_true rfl) rfl (fun ls hl => ?_)
    have hl : lv_has ls 5 [(4, .int (nI (nxL tr pl 4))), (0, .ref h), (1, .int (nI dt)), (2, .int (nI 1)), (3, .int (nI 1))] := hl
    rcases (show nxL tr pl 4 = 0 ∨ nxL tr pl 4 = 1 ∨ nxL tr pl 4 = 2 ∨ nxL tr pl 4 = 4 ∨ (nxL tr pl 4 ≠ 0 ∧ nxL tr pl 4 ≠ 1 ∧ nxL tr pl 4 ≠ 2 ∧ nxL tr pl 4 ≠ 4) by omega) with hk | hk | hk | hk | hk
    · skip
      have hl : lv_has ls 5 [(4, .int (nI 0)), (0, .ref h), (1, .int (nI dt)), (2, .int (nI 1)), (3, .int (nI 1))] := lv_re hl (by rw [hk])
      refine lv_iload hx hb d_m_readText_42 (lv_at hl 0 rfl) ?_
      refine n_if_eq hx hb d_m_readText_44 (tgt := 51) rfl (by omega) (fun g44 => ?_) (fun g44 => absurd g44 (by decide))
      refine lv_iconst (v := nI 0) hx hb d_m_readText_51 (by decide) ?_
      refine lv_istore_n hx hb d_m_readText_52 rfl hl (Nat.le_of_ble_eq_true rfl) rfl (fun ls hl => ?_)
      have hl : lv_has ls 5 [(3, .int (nI 0)), (4, .int (nI 0)), (0, .ref h), (1, .int (nI dt)), (2, .int (nI 1))] := hl
      refine lv_iload_n hx hb d_m_readText_53 rfl (lv_at hl 0 rfl) ?_
      refine n_if_eq hx hb d_m_readText_54 (tgt := 85) rfl (by omega) (fun g54 => ?_) (fun g54 => absurd g54 (by decide))
      refine lv_iconst (v := nI 1) hx hb d_m_readText_85 (by decide) ?_
      refine lv_goto hx hb d_m_readText_86 (tgt := 90) rfl ?_
      refine lv_istore_n hx hb d_m_readText_90 rfl hl (Nat.le_of_ble_eq_true rfl) rfl (fun ls hl => ?_)
      have hl : lv_has ls 5 [(2, .int (nI 1)), (3, .int (nI 0)), (4, .int (nI 0)), (0, .ref h), (1, .int (nI dt))] := hl
      refine lv_goto hx hb d_m_readText_91 (tgt := 14) rfl ?_
      refine lv_iload_n hx hb d_m_readText_14 rfl (lv_at hl 0 rfl) ?_
      refine n_if_eq hx hb d_m_readText_15 (tgt := 94) rfl (by omega) (fun g15 => absurd g15 (by decide)) (fun g15 => ?_)
      refine lv_iload_n hx hb d_m_readText_18 rfl (lv_at hl 1 rfl) ?_
      refine n_if_eq hx hb d_m_readText_19 (tgt := 94) rfl (by omega) (fun g19 => ?_) (fun g19 => absurd g19 (by decide))
      obtain ⟨m9, rfl⟩ : ∃ m9, n = m9 + 1 := ⟨n - 1, by omega⟩
      first | rw [rtW_z (by omega) hk] at kx | rw [rtW_k (by omega) hk] at kx | rw [rtW_n (by omega) (Or.inl hk) (wd := 10) (by rw [hk]; rfl) hrm] at kx | rw [rtW_n (by omega) (Or.inr (Or.inl hk)) (wd := 9) (by rw [hk]; rfl) hrm] at kx | rw [rtW_n (by omega) (Or.inr (Or.inr hk)) (wd := 8) (by rw [hk]; rfl) hrm] at kx | rw [rtW_b (by omega) hk (Or.inl rfl) (wd := 10) rfl hrm g82] at kx | rw [rtW_b (by omega) hk (Or.inr (Or.inl rfl)) (wd := 9) rfl hrm g82] at kx | rw [rtW_b (by omega) hk (Or.inr (Or.inr rfl)) (wd := 8) rfl hrm g82] at kx
      exact kx ls H locs (lv_sub hl [3, 0] rfl) hP hD hS
    · skip
      have hl : lv_has ls 5 [(4, .int (nI 1)), (0, .ref h), (1, .int (nI dt)), (2, .int (nI 1)), (3, .int (nI 1))] := lv_re hl (by rw [hk])
      refine lv_iload hx hb d_m_readText_42 (lv_at hl 0 rfl) ?_
      refine n_if_eq hx hb d_m_readText_44 (tgt := 51) rfl (by omega) (fun g44 => absurd g44 (by decide)) (fun g44 => ?_)
      refine lv_iconst (v := nI 1) hx hb d_m_readText_47 (by decide) ?_
      refine lv_goto hx hb d_m_readText_48 (tgt := 52) rfl ?_
      refine lv_istore_n hx hb d_m_readText_52 rfl hl (Nat.le_of_ble_eq_true rfl) rfl (fun ls hl => ?_)
      have hl : lv_has ls 5 [(3, .int (nI 1)), (4, .int (nI 1)), (0, .ref h), (1, .int (nI dt)), (2, .int (nI 1))] := hl
      refine lv_iload_n hx hb d_m_readText_53 rfl (lv_at hl 0 rfl) ?_
      refine n_if_eq hx hb d_m_readText_54 (tgt := 85) rfl (by omega) (fun g54 => absurd g54 (by decide)) (fun g54 => ?_)
      refine lv_iload hx hb d_m_readText_57 (lv_at hl 1 rfl) ?_
      refine lv_iconst (v := nI 1) hx hb d_m_readText_59 (by decide) ?_
      refine n_icmp_eq hx hb d_m_readText_60 (tgt := 75) rfl (by omega) (by omega) (fun g60 => ?_) (fun g60 => absurd g60 (by decide))
      rcases Nat.lt_or_ge (8 * dt) (pl + 4 + 10) with hrm | hrm
      · skip
        refine lv_aload_n hx hb d_m_readText_75 rfl (lv_at hl 2 rfl) ?_
        refine lv_iload hx hb d_m_readText_76 (lv_at hl 1 rfl) ?_
        refine lv_iload_n hx hb d_m_readText_78 rfl (lv_at hl 3 rfl) ?_
        refine q_writeVi (n := 2) (As := [.int (nI 1), .int (nI dt)]) (rest := []) (wc := [(h, .inr (8, [.int (nI i0), .int (nI i1), .ref a2, .ref a3, .ref a4, .ref a5, .ref a6, .ref a7, .ref a8, .int (nI i9), .ref a10, .ref a11, .ref a12, .ref a13, .ref a14, .ref a15, .int (nI (pl + 4)), .int (nI fd), .ref a18, .int (nI i19), .ref a20, .ref a21, .int (nI i22), .ref a23])), (a11, .inl (cI, 26, .inl (fun j => nI (tr j)))), (a18, .inl (cI, 64, .inl (fun j => nI (rd j))))]) (wr := []) (w1 := [(h, .inr (8, [.int (nI i0), .int (nI i1), .ref a2, .ref a3, .ref a4, .ref a5, .ref a6, .ref a7, .ref a8, .int (nI i9), .ref a10, .ref a11, .ref a12, .ref a13, .ref a14, .ref a15, .int (nI (pl + 4)), .int (nI fd), .ref a18, .int (nI i19), .ref a20, .ref a21, .int (nI i22), .ref a23])), (a11, .inl (cI, 26, .inl (fun j => nI (tr j)))), (a18, .inl (cI, 64, .inl (fun j => nI (rd j))))]) S (c_m_characters_1_no l D cI cC h i0 i1 a2 a3 a4 a5 a6 a7 a8 i9 a10 a11 a12 a13 a14 a15 (pl + 4) fd a18 i19 a20 a21 i22 a23 tr rd dt (by omega) (by omega) (by omega) H.size) hK hP hD hA (q0 := 0) rfl rfl [0, 1, 2] [] rfl rfl rfl rfl (by decide) rfl (q_goodV kw_984 kw_986 ks_39 kw_10 kw_987) (by decide +kernel) rfl rfl rfl ⟨Nat.le_trans (Nat.le_of_ble_eq_true rfl) hRf, Nat.le_trans (Nat.le_of_ble_eq_true rfl) hRl⟩ rfl hl.1 rfl (Nat.le_of_ble_eq_true rfl) d_m_readText_79 hRc hS (fun H locs hP hD hS => ?_)
        replace hP : va_P D classes [(h, .inr (8, [.int (nI i0), .int (nI i1), .ref a2, .ref a3, .ref a4, .ref a5, .ref a6, .ref a7, .ref a8, .int (nI i9), .ref a10, .ref a11, .ref a12, .ref a13, .ref a14, .ref a15, .int (nI (pl + 4)), .int (nI fd), .ref a18, .int (nI i19), .ref a20, .ref a21, .int (nI i22), .ref a23])), (a11, .inl (cI, 26, .inl (fun j => nI (tr j)))), (a18, .inl (cI, 64, .inl (fun j => nI (rd j))))] H := hP.sub [0, 1, 2] rfl
        replace hD : va_D A [(h, .inr (8, [.int (nI i0), .int (nI i1), .ref a2, .ref a3, .ref a4, .ref a5, .ref a6, .ref a7, .ref a8, .int (nI i9), .ref a10, .ref a11, .ref a12, .ref a13, .ref a14, .ref a15, .int (nI (pl + 4)), .int (nI fd), .ref a18, .int (nI i19), .ref a20, .ref a21, .int (nI i22), .ref a23])), (a11, .inl (cI, 26, .inl (fun j => nI (tr j)))), (a18, .inl (cI, 64, .inl (fun j => nI (rd j))))] := hD.sub [0, 1, 2] rfl rfl
        refine n_if_eq hx hb d_m_readText_82 (tgt := 89) rfl (by omega) (fun g82 => ?_) (fun g82 => absurd g82 (by decide))
        refine lv_iconst (v := nI 0) hx hb d_m_readText_89 (by decide) ?_
        refine lv_istore_n hx hb d_m_readText_90 rfl hl (Nat.le_of_ble_eq_true rfl) rfl (fun ls hl => ?_)
        have hl : lv_has ls 5 [(2, .int (nI 0)), (3, .int (nI 1)), (4, .int (nI 1)), (0, .ref h), (1, .int (nI dt))] := hl
        refine lv_goto hx hb d_m_readText_91 (tgt := 14) rfl ?_
        refine lv_iload_n hx hb d_m_readText_14 rfl (lv_at hl 0 rfl) ?_
        refine n_if_eq hx hb d_m_readText_15 (tgt := 94) rfl (by omega) (fun g15 => ?_) (fun g15 => absurd g15 (by decide))
        obtain ⟨m9, rfl⟩ : ∃ m9, n = m9 + 1 := ⟨n - 1, by omega⟩
        first | rw [rtW_z (by omega) hk] at kx | rw [rtW_k (by omega) hk] at kx | rw [rtW_n (by omega) (Or.inl hk) (wd := 10) (by rw [hk]; rfl) hrm] at kx | rw [rtW_n (by omega) (Or.inr (Or.inl hk)) (wd := 9) (by rw [hk]; rfl) hrm] at kx | rw [rtW_n (by omega) (Or.inr (Or.inr hk)) (wd := 8) (by rw [hk]; rfl) hrm] at kx | rw [rtW_b (by omega) hk (Or.inl rfl) (wd := 10) rfl hrm g82] at kx | rw [rtW_b (by omega) hk (Or.inr (Or.inl rfl)) (wd := 9) rfl hrm g82] at kx | rw [rtW_b (by omega) hk (Or.inr (Or.inr rfl)) (wd := 8) rfl hrm g82] at kx
        exact kx ls H locs (lv_sub hl [3, 0] rfl) hP hD hS
      · skip
        refine lv_aload_n hx hb d_m_readText_75 rfl (lv_at hl 2 rfl) ?_
        refine lv_iload hx hb d_m_readText_76 (lv_at hl 1 rfl) ?_
        refine lv_iload_n hx hb d_m_readText_78 rfl (lv_at hl 3 rfl) ?_
        refine q_writeVi (n := 2) (As := [.int (nI 1), .int (nI dt)]) (rest := []) (wc := [(h, .inr (8, [.int (nI i0), .int (nI i1), .ref a2, .ref a3, .ref a4, .ref a5, .ref a6, .ref a7, .ref a8, .int (nI i9), .ref a10, .ref a11, .ref a12, .ref a13, .ref a14, .ref a15, .int (nI (pl + 4)), .int (nI fd), .ref a18, .int (nI i19), .ref a20, .ref a21, .int (nI i22), .ref a23])), (a11, .inl (cI, 26, .inl (fun j => nI (tr j)))), (a18, .inl (cI, 64, .inl (fun j => nI (rd j))))]) (wr := []) (w1 := [(h, .inr (8, [.int (nI i0), .int (nI i1), .ref a2, .ref a3, .ref a4, .ref a5, .ref a6, .ref a7, .ref a8, .int (nI i9), .ref a10, .ref a11, .ref a12, .ref a13, .ref a14, .ref a15, .int (nI ((chW tr 1 dt (nxL tr (pl + 4) 10) (nxL tr (pl + 4) 10) ((pl + 4) + 10) fd rd).2.1)), .int (nI ((chW tr 1 dt (nxL tr (pl + 4) 10) (nxL tr (pl + 4) 10) ((pl + 4) + 10) fd rd).2.2.1)), .ref a18, .int (nI i19), .ref a20, .ref a21, .int (nI i22), .ref a23])), (a11, .inl (cI, 26, .inl (fun j => nI (tr j)))), (a18, .inl (cI, 64, .inl (fun j => nI (((chW tr 1 dt (nxL tr (pl + 4) 10) (nxL tr (pl + 4) 10) ((pl + 4) + 10) fd rd).2.2.2) j))))]) S (c_m_characters_1_ok l D cI cC h i0 i1 a2 a3 a4 a5 a6 a7 a8 i9 a10 a11 a12 a13 a14 a15 (pl + 4) fd a18 i19 a20 a21 i22 a23 tr rd dt (by omega) (by omega) (by omega) htr H.size) hK hP hD hA (q0 := 0) rfl rfl [0, 1, 2] [] rfl rfl rfl rfl (by decide) rfl (q_goodV kw_984 kw_986 ks_39 kw_10 kw_987) (by decide +kernel) rfl rfl rfl ⟨Nat.le_trans (Nat.le_of_ble_eq_true rfl) hRf, Nat.le_trans (Nat.le_of_ble_eq_true rfl) hRl⟩ rfl hl.1 rfl (Nat.le_of_ble_eq_true rfl) d_m_readText_79 hRc hS (fun H locs hP hD hS => ?_)
        replace hP : va_P D classes [(h, .inr (8, [.int (nI i0), .int (nI i1), .ref a2, .ref a3, .ref a4, .ref a5, .ref a6, .ref a7, .ref a8, .int (nI i9), .ref a10, .ref a11, .ref a12, .ref a13, .ref a14, .ref a15, .int (nI ((chW tr 1 dt (nxL tr (pl + 4) 10) (nxL tr (pl + 4) 10) ((pl + 4) + 10) fd rd).2.1)), .int (nI ((chW tr 1 dt (nxL tr (pl + 4) 10) (nxL tr (pl + 4) 10) ((pl + 4) + 10) fd rd).2.2.1)), .ref a18, .int (nI i19), .ref a20, .ref a21, .int (nI i22), .ref a23])), (a11, .inl (cI, 26, .inl (fun j => nI (tr j)))), (a18, .inl (cI, 64, .inl (fun j => nI (((chW tr 1 dt (nxL tr (pl + 4) 10) (nxL tr (pl + 4) 10) ((pl + 4) + 10) fd rd).2.2.2) j))))] H := hP.sub [0, 1, 2] rfl
        replace hD : va_D A [(h, .inr (8, [.int (nI i0), .int (nI i1), .ref a2, .ref a3, .ref a4, .ref a5, .ref a6, .ref a7, .ref a8, .int (nI i9), .ref a10, .ref a11, .ref a12, .ref a13, .ref a14, .ref a15, .int (nI ((chW tr 1 dt (nxL tr (pl + 4) 10) (nxL tr (pl + 4) 10) ((pl + 4) + 10) fd rd).2.1)), .int (nI ((chW tr 1 dt (nxL tr (pl + 4) 10) (nxL tr (pl + 4) 10) ((pl + 4) + 10) fd rd).2.2.1)), .ref a18, .int (nI i19), .ref a20, .ref a21, .int (nI i22), .ref a23])), (a11, .inl (cI, 26, .inl (fun j => nI (tr j)))), (a18, .inl (cI, 64, .inl (fun j => nI (((chW tr 1 dt (nxL tr (pl + 4) 10) (nxL tr (pl + 4) 10) ((pl + 4) + 10) fd rd).2.2.2) j))))] := hD.sub [0, 1, 2] rfl rfl
        refine n_if_eq hx hb d_m_readText_82 (tgt := 89) rfl (Nat.lt_of_le_of_lt (chW_le _ _ _ _ _ _ _ _) (by decide)) (fun g82 => ?_) (fun g82 => ?_)
        · skip
          refine lv_iconst (v := nI 0) hx hb d_m_readText_89 (by decide) ?_
          refine lv_istore_n hx hb d_m_readText_90 rfl hl (Nat.le_of_ble_eq_true rfl) rfl (fun ls hl => ?_)
          have hl : lv_has ls 5 [(2, .int (nI 0)), (3, .int (nI 1)), (4, .int (nI 1)), (0, .ref h), (1, .int (nI dt))] := hl
          refine lv_goto hx hb d_m_readText_91 (tgt := 14) rfl ?_
          refine lv_iload_n hx hb d_m_readText_14 rfl (lv_at hl 0 rfl) ?_
          refine n_if_eq hx hb d_m_readText_15 (tgt := 94) rfl (by omega) (fun g15 => ?_) (fun g15 => absurd g15 (by decide))
          obtain ⟨m9, rfl⟩ : ∃ m9, n = m9 + 1 := ⟨n - 1, by omega⟩
          first | rw [rtW_z (by omega) hk] at kx | rw [rtW_k (by omega) hk] at kx | rw [rtW_n (by omega) (Or.inl hk) (wd := 10) (by rw [hk]; rfl) hrm] at kx | rw [rtW_n (by omega) (Or.inr (Or.inl hk)) (wd := 9) (by rw [hk]; rfl) hrm] at kx | rw [rtW_n (by omega) (Or.inr (Or.inr hk)) (wd := 8) (by rw [hk]; rfl) hrm] at kx | rw [rtW_b (by omega) hk (Or.inl rfl) (wd := 10) rfl hrm g82] at kx | rw [rtW_b (by omega) hk (Or.inr (Or.inl rfl)) (wd := 9) rfl hrm g82] at kx | rw [rtW_b (by omega) hk (Or.inr (Or.inr rfl)) (wd := 8) rfl hrm g82] at kx
          exact kx ls H locs (lv_sub hl [3, 0] rfl) hP hD hS
        · skip
          refine lv_iconst (v := nI 1) hx hb d_m_readText_85 (by decide) ?_
          refine lv_goto hx hb d_m_readText_86 (tgt := 90) rfl ?_
          refine lv_istore_n hx hb d_m_readText_90 rfl hl (Nat.le_of_ble_eq_true rfl) rfl (fun ls hl => ?_)
          have hl : lv_has ls 5 [(2, .int (nI 1)), (3, .int (nI 1)), (4, .int (nI 1)), (0, .ref h), (1, .int (nI dt))] := hl
          refine lv_goto hx hb d_m_readText_91 (tgt := 14) rfl ?_
          obtain ⟨m9, rfl⟩ : ∃ m9, n = m9 + 1 := ⟨n - 1, by omega⟩
          have hci := chW_inv tr 1 dt hdt (Or.inl rfl) (nxL tr (pl + 4) 10) (nxL tr (pl + 4) 10) (pl + 4 + 10) fd rd (by omega) (by omega)
          rw [rtW_s (by omega) hk (Or.inl rfl) (wd := 10) rfl hrm g82] at kx
          exact ih _ rfl ((chW tr 1 dt (nxL tr (pl + 4) 10) (nxL tr (pl + 4) 10) ((pl + 4) + 10) fd rd).2.1) ((chW tr 1 dt (nxL tr (pl + 4) 10) (nxL tr (pl + 4) 10) ((pl + 4) + 10) fd rd).2.2.1) ((chW tr 1 dt (nxL tr (pl + 4) 10) (nxL tr (pl + 4) 10) ((pl + 4) + 10) fd rd).2.2.2) (by omega) hci.2.1 hci.1 kx ls H locs (lv_sub hl [3, 4, 0, 1] rfl) hP hD hS
    · skip
      have hl : lv_has ls 5 [(4, .int (nI 2)), (0, .ref h), (1, .int (nI dt)), (2, .int (nI 1)), (3, .int (nI 1))] := lv_re hl (by rw [hk])
      refine lv_iload hx hb d_m_readText_42 (lv_at hl 0 rfl) ?_
      refine n_if_eq hx hb d_m_readText_44 (tgt := 51) rfl (by omega) (fun g44 => absurd g44 (by decide)) (fun g44 => ?_)
      refine lv_iconst (v := nI 1) hx hb d_m_readText_47 (by decide) ?_
      refine lv_goto hx hb d_m_readText_48 (tgt := 52) rfl ?_
      refine lv_istore_n hx hb d_m_readText_52 rfl hl (Nat.le_of_ble_eq_true rfl) rfl (fun ls hl => ?_)
      have hl : lv_has ls 5 [(3, .int (nI 1)), (4, .int (nI 2)), (0, .ref h), (1, .int (nI dt)), (2, .int (nI 1))] := hl
      refine lv_iload_n hx hb d_m_readText_53 rfl (lv_at hl 0 rfl) ?_
      refine n_if_eq hx hb d_m_readText_54 (tgt := 85) rfl (by omega) (fun g54 => absurd g54 (by decide)) (fun g54 => ?_)
      refine lv_iload hx hb d_m_readText_57 (lv_at hl 1 rfl) ?_
      refine lv_iconst (v := nI 1) hx hb d_m_readText_59 (by decide) ?_
      refine n_icmp_eq hx hb d_m_readText_60 (tgt := 75) rfl (by omega) (by omega) (fun g60 => absurd g60 (by decide)) (fun g60 => ?_)
      refine lv_iload hx hb d_m_readText_63 (lv_at hl 1 rfl) ?_
      refine lv_iconst (v := nI 2) hx hb d_m_readText_65 (by decide) ?_
      refine n_icmp_eq hx hb d_m_readText_66 (tgt := 75) rfl (by omega) (by omega) (fun g66 => ?_) (fun g66 => absurd g66 (by decide))
      rcases Nat.lt_or_ge (8 * dt) (pl + 4 + 9) with hrm | hrm
      · skip
        refine lv_aload_n hx hb d_m_readText_75 rfl (lv_at hl 2 rfl) ?_
        refine lv_iload hx hb d_m_readText_76 (lv_at hl 1 rfl) ?_
        refine lv_iload_n hx hb d_m_readText_78 rfl (lv_at hl 3 rfl) ?_
        refine q_writeVi (n := 2) (As := [.int (nI 2), .int (nI dt)]) (rest := []) (wc := [(h, .inr (8, [.int (nI i0), .int (nI i1), .ref a2, .ref a3, .ref a4, .ref a5, .ref a6, .ref a7, .ref a8, .int (nI i9), .ref a10, .ref a11, .ref a12, .ref a13, .ref a14, .ref a15, .int (nI (pl + 4)), .int (nI fd), .ref a18, .int (nI i19), .ref a20, .ref a21, .int (nI i22), .ref a23])), (a11, .inl (cI, 26, .inl (fun j => nI (tr j)))), (a18, .inl (cI, 64, .inl (fun j => nI (rd j))))]) (wr := []) (w1 := [(h, .inr (8, [.int (nI i0), .int (nI i1), .ref a2, .ref a3, .ref a4, .ref a5, .ref a6, .ref a7, .ref a8, .int (nI i9), .ref a10, .ref a11, .ref a12, .ref a13, .ref a14, .ref a15, .int (nI (pl + 4)), .int (nI fd), .ref a18, .int (nI i19), .ref a20, .ref a21, .int (nI i22), .ref a23])), (a11, .inl (cI, 26, .inl (fun j => nI (tr j)))), (a18, .inl (cI, 64, .inl (fun j => nI (rd j))))]) S (c_m_characters_2_no l D cI cC h i0 i1 a2 a3 a4 a5 a6 a7 a8 i9 a10 a11 a12 a13 a14 a15 (pl + 4) fd a18 i19 a20 a21 i22 a23 tr rd dt (by omega) (by omega) (by omega) H.size) hK hP hD hA (q0 := 0) rfl rfl [0, 1, 2] [] rfl rfl rfl rfl (by decide) rfl (q_goodV kw_984 kw_986 ks_39 kw_10 kw_987) (by decide +kernel) rfl rfl rfl ⟨Nat.le_trans (Nat.le_of_ble_eq_true rfl) hRf, Nat.le_trans (Nat.le_of_ble_eq_true rfl) hRl⟩ rfl hl.1 rfl (Nat.le_of_ble_eq_true rfl) d_m_readText_79 hRc hS (fun H locs hP hD hS => ?_)
        replace hP : va_P D classes [(h, .inr (8, [.int (nI i0), .int (nI i1), .ref a2, .ref a3, .ref a4, .ref a5, .ref a6, .ref a7, .ref a8, .int (nI i9), .ref a10, .ref a11, .ref a12, .ref a13, .ref a14, .ref a15, .int (nI (pl + 4)), .int (nI fd), .ref a18, .int (nI i19), .ref a20, .ref a21, .int (nI i22), .ref a23])), (a11, .inl (cI, 26, .inl (fun j => nI (tr j)))), (a18, .inl (cI, 64, .inl (fun j => nI (rd j))))] H := hP.sub [0, 1, 2] rfl
        replace hD : va_D A [(h, .inr (8, [.int (nI i0), .int (nI i1), .ref a2, .ref a3, .ref a4, .ref a5, .ref a6, .ref a7, .ref a8, .int (nI i9), .ref a10, .ref a11, .ref a12, .ref a13, .ref a14, .ref a15, .int (nI (pl + 4)), .int (nI fd), .ref a18, .int (nI i19), .ref a20, .ref a21, .int (nI i22), .ref a23])), (a11, .inl (cI, 26, .inl (fun j => nI (tr j)))), (a18, .inl (cI, 64, .inl (fun j => nI (rd j))))] := hD.sub [0, 1, 2] rfl rfl
        refine n_if_eq hx hb d_m_readText_82 (tgt := 89) rfl (by omega) (fun g82 => ?_) (fun g82 => absurd g82 (by decide))
        refine lv_iconst (v := nI 0) hx hb d_m_readText_89 (by decide) ?_
        refine lv_istore_n hx hb d_m_readText_90 rfl hl (Nat.le_of_ble_eq_true rfl) rfl (fun ls hl => ?_)
        have hl : lv_has ls 5 [(2, .int (nI 0)), (3, .int (nI 1)), (4, .int (nI 2)), (0, .ref h), (1, .int (nI dt))] := hl
        refine lv_goto hx hb d_m_readText_91 (tgt := 14) rfl ?_
        refine lv_iload_n hx hb d_m_readText_14 rfl (lv_at hl 0 rfl) ?_
        refine n_if_eq hx hb d_m_readText_15 (tgt := 94) rfl (by omega) (fun g15 => ?_) (fun g15 => absurd g15 (by decide))
        obtain ⟨m9, rfl⟩ : ∃ m9, n = m9 + 1 := ⟨n - 1, by omega⟩
        first | rw [rtW_z (by omega) hk] at kx | rw [rtW_k (by omega) hk] at kx | rw [rtW_n (by omega) (Or.inl hk) (wd := 10) (by rw [hk]; rfl) hrm] at kx | rw [rtW_n (by omega) (Or.inr (Or.inl hk)) (wd := 9) (by rw [hk]; rfl) hrm] at kx | rw [rtW_n (by omega) (Or.inr (Or.inr hk)) (wd := 8) (by rw [hk]; rfl) hrm] at kx | rw [rtW_b (by omega) hk (Or.inl rfl) (wd := 10) rfl hrm g82] at kx | rw [rtW_b (by omega) hk (Or.inr (Or.inl rfl)) (wd := 9) rfl hrm g82] at kx | rw [rtW_b (by omega) hk (Or.inr (Or.inr rfl)) (wd := 8) rfl hrm g82] at kx
        exact kx ls H locs (lv_sub hl [3, 0] rfl) hP hD hS
      · skip
        refine lv_aload_n hx hb d_m_readText_75 rfl (lv_at hl 2 rfl) ?_
        refine lv_iload hx hb d_m_readText_76 (lv_at hl 1 rfl) ?_
        refine lv_iload_n hx hb d_m_readText_78 rfl (lv_at hl 3 rfl) ?_
        refine q_writeVi (n := 2) (As := [.int (nI 2), .int (nI dt)]) (rest := []) (wc := [(h, .inr (8, [.int (nI i0), .int (nI i1), .ref a2, .ref a3, .ref a4, .ref a5, .ref a6, .ref a7, .ref a8, .int (nI i9), .ref a10, .ref a11, .ref a12, .ref a13, .ref a14, .ref a15, .int (nI (pl + 4)), .int (nI fd), .ref a18, .int (nI i19), .ref a20, .ref a21, .int (nI i22), .ref a23])), (a11, .inl (cI, 26, .inl (fun j => nI (tr j)))), (a18, .inl (cI, 64, .inl (fun j => nI (rd j))))]) (wr := []) (w1 := [(h, .inr (8, [.int (nI i0), .int (nI i1), .ref a2, .ref a3, .ref a4, .ref a5, .ref a6, .ref a7, .ref a8, .int (nI i9), .ref a10, .ref a11, .ref a12, .ref a13, .ref a14, .ref a15, .int (nI ((chW tr 2 dt (nxL tr (pl + 4) 9) (nxL tr (pl + 4) 9) ((pl + 4) + 9) fd rd).2.1)), .int (nI ((chW tr 2 dt (nxL tr (pl + 4) 9) (nxL tr (pl + 4) 9) ((pl + 4) + 9) fd rd).2.2.1)), .ref a18, .int (nI i19), .ref a20, .ref a21, .int (nI i22), .ref a23])), (a11, .inl (cI, 26, .inl (fun j => nI (tr j)))), (a18, .inl (cI, 64, .inl (fun j => nI (((chW tr 2 dt (nxL tr (pl + 4) 9) (nxL tr (pl + 4) 9) ((pl + 4) + 9) fd rd).2.2.2) j))))]) S (c_m_characters_2_ok l D cI cC h i0 i1 a2 a3 a4 a5 a6 a7 a8 i9 a10 a11 a12 a13 a14 a15 (pl + 4) fd a18 i19 a20 a21 i22 a23 tr rd dt (by omega) (by omega) (by omega) htr H.size) hK hP hD hA (q0 := 0) rfl rfl [0, 1, 2] [] rfl rfl rfl rfl (by decide) rfl (q_goodV kw_984 kw_986 ks_39 kw_10 kw_987) (by decide +kernel) rfl rfl rfl ⟨Nat.le_trans (Nat.le_of_ble_eq_true rfl) hRf, Nat.le_trans (Nat.le_of_ble_eq_true rfl) hRl⟩ rfl hl.1 rfl (Nat.le_of_ble_eq_true rfl) d_m_readText_79 hRc hS (fun H locs hP hD hS => ?_)
        replace hP : va_P D classes [(h, .inr (8, [.int (nI i0), .int (nI i1), .ref a2, .ref a3, .ref a4, .ref a5, .ref a6, .ref a7, .ref a8, .int (nI i9), .ref a10, .ref a11, .ref a12, .ref a13, .ref a14, .ref a15, .int (nI ((chW tr 2 dt (nxL tr (pl + 4) 9) (nxL tr (pl + 4) 9) ((pl + 4) + 9) fd rd).2.1)), .int (nI ((chW tr 2 dt (nxL tr (pl + 4) 9) (nxL tr (pl + 4) 9) ((pl + 4) + 9) fd rd).2.2.1)), .ref a18, .int (nI i19), .ref a20, .ref a21, .int (nI i22), .ref a23])), (a11, .inl (cI, 26, .inl (fun j => nI (tr j)))), (a18, .inl (cI, 64, .inl (fun j => nI (((chW tr 2 dt (nxL tr (pl + 4) 9) (nxL tr (pl + 4) 9) ((pl + 4) + 9) fd rd).2.2.2) j))))] H := hP.sub [0, 1, 2] rfl
        replace hD : va_D A [(h, .inr (8, [.int (nI i0), .int (nI i1), .ref a2, .ref a3, .ref a4, .ref a5, .ref a6, .ref a7, .ref a8, .int (nI i9), .ref a10, .ref a11, .ref a12, .ref a13, .ref a14, .ref a15, .int (nI ((chW tr 2 dt (nxL tr (pl + 4) 9) (nxL tr (pl + 4) 9) ((pl + 4) + 9) fd rd).2.1)), .int (nI ((chW tr 2 dt (nxL tr (pl + 4) 9) (nxL tr (pl + 4) 9) ((pl + 4) + 9) fd rd).2.2.1)), .ref a18, .int (nI i19), .ref a20, .ref a21, .int (nI i22), .ref a23])), (a11, .inl (cI, 26, .inl (fun j => nI (tr j)))), (a18, .inl (cI, 64, .inl (fun j => nI (((chW tr 2 dt (nxL tr (pl + 4) 9) (nxL tr (pl + 4) 9) ((pl + 4) + 9) fd rd).2.2.2) j))))] := hD.sub [0, 1, 2] rfl rfl
        refine n_if_eq hx hb d_m_readText_82 (tgt := 89) rfl (Nat.lt_of_le_of_lt (chW_le _ _ _ _ _ _ _ _) (by decide)) (fun g82 => ?_) (fun g82 => ?_)
        · skip
          refine lv_iconst (v := nI 0) hx hb d_m_readText_89 (by decide) ?_
          refine lv_istore_n hx hb d_m_readText_90 rfl hl (Nat.le_of_ble_eq_true rfl) rfl (fun ls hl => ?_)
          have hl : lv_has ls 5 [(2, .int (nI 0)), (3, .int (nI 1)), (4, .int (nI 2)), (0, .ref h), (1, .int (nI dt))] := hl
          refine lv_goto hx hb d_m_readText_91 (tgt := 14) rfl ?_
          refine lv_iload_n hx hb d_m_readText_14 rfl (lv_at hl 0 rfl) ?_
          refine n_if_eq hx hb d_m_readText_15 (tgt := 94) rfl (by omega) (fun g15 => ?_) (fun g15 => absurd g15 (by decide))
          obtain ⟨m9, rfl⟩ : ∃ m9, n = m9 + 1 := ⟨n - 1, by omega⟩
          first | rw [rtW_z (by omega) hk] at kx | rw [rtW_k (by omega) hk] at kx | rw [rtW_n (by omega) (Or.inl hk) (wd := 10) (by rw [hk]; rfl) hrm] at kx | rw [rtW_n (by omega) (Or.inr (Or.inl hk)) (wd := 9) (by rw [hk]; rfl) hrm] at kx | rw [rtW_n (by omega) (Or.inr (Or.inr hk)) (wd := 8) (by rw [hk]; rfl) hrm] at kx | rw [rtW_b (by omega) hk (Or.inl rfl) (wd := 10) rfl hrm g82] at kx | rw [rtW_b (by omega) hk (Or.inr (Or.inl rfl)) (wd := 9) rfl hrm g82] at kx | rw [rtW_b (by omega) hk (Or.inr (Or.inr rfl)) (wd := 8) rfl hrm g82] at kx
          exact kx ls H locs (lv_sub hl [3, 0] rfl) hP hD hS
        · skip
          refine lv_iconst (v := nI 1) hx hb d_m_readText_85 (by decide) ?_
          refine lv_goto hx hb d_m_readText_86 (tgt := 90) rfl ?_
          refine lv_istore_n hx hb d_m_readText_90 rfl hl (Nat.le_of_ble_eq_true rfl) rfl (fun ls hl => ?_)
          have hl : lv_has ls 5 [(2, .int (nI 1)), (3, .int (nI 1)), (4, .int (nI 2)), (0, .ref h), (1, .int (nI dt))] := hl
          refine lv_goto hx hb d_m_readText_91 (tgt := 14) rfl ?_
          obtain ⟨m9, rfl⟩ : ∃ m9, n = m9 + 1 := ⟨n - 1, by omega⟩
          have hci := chW_inv tr 2 dt hdt (Or.inr (Or.inl rfl)) (nxL tr (pl + 4) 9) (nxL tr (pl + 4) 9) (pl + 4 + 9) fd rd (by omega) (by omega)
          rw [rtW_s (by omega) hk (Or.inr (Or.inl rfl)) (wd := 9) rfl hrm g82] at kx
          exact ih _ rfl ((chW tr 2 dt (nxL tr (pl + 4) 9) (nxL tr (pl + 4) 9) ((pl + 4) + 9) fd rd).2.1) ((chW tr 2 dt (nxL tr (pl + 4) 9) (nxL tr (pl + 4) 9) ((pl + 4) + 9) fd rd).2.2.1) ((chW tr 2 dt (nxL tr (pl + 4) 9) (nxL tr (pl + 4) 9) ((pl + 4) + 9) fd rd).2.2.2) (by omega) hci.2.1 hci.1 kx ls H locs (lv_sub hl [3, 4, 0, 1] rfl) hP hD hS
    · skip
      have hl : lv_has ls 5 [(4, .int (nI 4)), (0, .ref h), (1, .int (nI dt)), (2, .int (nI 1)), (3, .int (nI 1))] := lv_re hl (by rw [hk])
      refine lv_iload hx hb d_m_readText_42 (lv_at hl 0 rfl) ?_
      refine n_if_eq hx hb d_m_readText_44 (tgt := 51) rfl (by omega) (fun g44 => absurd g44 (by decide)) (fun g44 => ?_)
      refine lv_iconst (v := nI 1) hx hb d_m_readText_47 (by decide) ?_
      refine lv_goto hx hb d_m_readText_48 (tgt := 52) rfl ?_
      refine lv_istore_n hx hb d_m_readText_52 rfl hl (Nat.le_of_ble_eq_true rfl) rfl (fun ls hl => ?_)
      have hl : lv_has ls 5 [(3, .int (nI 1)), (4, .int (nI 4)), (0, .ref h), (1, .int (nI dt)), (2, .int (nI 1))] := hl
      refine lv_iload_n hx hb d_m_readText_53 rfl (lv_at hl 0 rfl) ?_
      refine n_if_eq hx hb d_m_readText_54 (tgt := 85) rfl (by omega) (fun g54 => absurd g54 (by decide)) (fun g54 => ?_)
      refine lv_iload hx hb d_m_readText_57 (lv_at hl 1 rfl) ?_
      refine lv_iconst (v := nI 1) hx hb d_m_readText_59 (by decide) ?_
      refine n_icmp_eq hx hb d_m_readText_60 (tgt := 75) rfl (by omega) (by omega) (fun g60 => absurd g60 (by decide)) (fun g60 => ?_)
      refine lv_iload hx hb d_m_readText_63 (lv_at hl 1 rfl) ?_
      refine lv_iconst (v := nI 2) hx hb d_m_readText_65 (by decide) ?_
      refine n_icmp_eq hx hb d_m_readText_66 (tgt := 75) rfl (by omega) (by omega) (fun g66 => absurd g66 (by decide)) (fun g66 => ?_)
      refine lv_iload hx hb d_m_readText_69 (lv_at hl 1 rfl) ?_
      refine lv_iconst (v := nI 4) hx hb d_m_readText_71 (by decide) ?_
      refine n_icmp_ne hx hb d_m_readText_72 (tgt := 89) rfl (by omega) (by omega) (fun g72 => absurd g72 (by decide)) (fun g72 => ?_)
      rcases Nat.lt_or_ge (8 * dt) (pl + 4 + 8) with hrm | hrm
      · skip
        refine lv_aload_n hx hb d_m_readText_75 rfl (lv_at hl 2 rfl) ?_
        refine lv_iload hx hb d_m_readText_76 (lv_at hl 1 rfl) ?_
        refine lv_iload_n hx hb d_m_readText_78 rfl (lv_at hl 3 rfl) ?_
        refine q_writeVi (n := 2) (As := [.int (nI 4), .int (nI dt)]) (rest := []) (wc := [(h, .inr (8, [.int (nI i0), .int (nI i1), .ref a2, .ref a3, .ref a4, .ref a5, .ref a6, .ref a7, .ref a8, .int (nI i9), .ref a10, .ref a11, .ref a12, .ref a13, .ref a14, .ref a15, .int (nI (pl + 4)), .int (nI fd), .ref a18, .int (nI i19), .ref a20, .ref a21, .int (nI i22), .ref a23])), (a11, .inl (cI, 26, .inl (fun j => nI (tr j)))), (a18, .inl (cI, 64, .inl (fun j => nI (rd j))))]) (wr := []) (w1 := [(h, .inr (8, [.int (nI i0), .int (nI i1), .ref a2, .ref a3, .ref a4, .ref a5, .ref a6, .ref a7, .ref a8, .int (nI i9), .ref a10, .ref a11, .ref a12, .ref a13, .ref a14, .ref a15, .int (nI (pl + 4)), .int (nI fd), .ref a18, .int (nI i19), .ref a20, .ref a21, .int (nI i22), .ref a23])), (a11, .inl (cI, 26, .inl (fun j => nI (tr j)))), (a18, .inl (cI, 64, .inl (fun j => nI (rd j))))]) S (c_m_characters_4_no l D cI cC h i0 i1 a2 a3 a4 a5 a6 a7 a8 i9 a10 a11 a12 a13 a14 a15 (pl + 4) fd a18 i19 a20 a21 i22 a23 tr rd dt (by omega) (by omega) (by omega) H.size) hK hP hD hA (q0 := 0) rfl rfl [0, 1, 2] [] rfl rfl rfl rfl (by decide) rfl (q_goodV kw_984 kw_986 ks_39 kw_10 kw_987) (by decide +kernel) rfl rfl rfl ⟨Nat.le_trans (Nat.le_of_ble_eq_true rfl) hRf, Nat.le_trans (Nat.le_of_ble_eq_true rfl) hRl⟩ rfl hl.1 rfl (Nat.le_of_ble_eq_true rfl) d_m_readText_79 hRc hS (fun H locs hP hD hS => ?_)
        replace hP : va_P D classes [(h, .inr (8, [.int (nI i0), .int (nI i1), .ref a2, .ref a3, .ref a4, .ref a5, .ref a6, .ref a7, .ref a8, .int (nI i9), .ref a10, .ref a11, .ref a12, .ref a13, .ref a14, .ref a15, .int (nI (pl + 4)), .int (nI fd), .ref a18, .int (nI i19), .ref a20, .ref a21, .int (nI i22), .ref a23])), (a11, .inl (cI, 26, .inl (fun j => nI (tr j)))), (a18, .inl (cI, 64, .inl (fun j => nI (rd j))))] H := hP.sub [0, 1, 2] rfl
        replace hD : va_D A [(h, .inr (8, [.int (nI i0), .int (nI i1), .ref a2, .ref a3, .ref a4, .ref a5, .ref a6, .ref a7, .ref a8, .int (nI i9), .ref a10, .ref a11, .ref a12, .ref a13, .ref a14, .ref a15, .int (nI (pl + 4)), .int (nI fd), .ref a18, .int (nI i19), .ref a20, .ref a21, .int (nI i22), .ref a23])), (a11, .inl (cI, 26, .inl (fun j => nI (tr j)))), (a18, .inl (cI, 64, .inl (fun j => nI (rd j))))] := hD.sub [0, 1, 2] rfl rfl
        refine n_if_eq hx hb d_m_readText_82 (tgt := 89) rfl (by omega) (fun g82 => ?_) (fun g82 => absurd g82 (by decide))
        refine lv_iconst (v := nI 0) hx hb d_m_readText_89 (by decide) ?_
        refine lv_istore_n hx hb d_m_readText_90 rfl hl (Nat.le_of_ble_eq_true rfl) rfl (fun ls hl => ?_)
        have hl : lv_has ls 5 [(2, .int (nI 0)), (3, .int (nI 1)), (4, .int (nI 4)), (0, .ref h), (1, .int (nI dt))] := hl
        refine lv_goto hx hb d_m_readText_91 (tgt := 14) rfl ?_
        refine lv_iload_n hx hb d_m_readText_14 rfl (lv_at hl 0 rfl) ?_
        refine n_if_eq hx hb d_m_readText_15 (tgt := 94) rfl (by omega) (fun g15 => ?_) (fun g15 => absurd g15 (by decide))
        obtain ⟨m9, rfl⟩ : ∃ m9, n = m9 + 1 := ⟨n - 1, by omega⟩
        first | rw [rtW_z (by omega) hk] at kx | rw [rtW_k (by omega) hk] at kx | rw [rtW_n (by omega) (Or.inl hk) (wd := 10) (by rw [hk]; rfl) hrm] at kx | rw [rtW_n (by omega) (Or.inr (Or.inl hk)) (wd := 9) (by rw [hk]; rfl) hrm] at kx | rw [rtW_n (by omega) (Or.inr (Or.inr hk)) (wd := 8) (by rw [hk]; rfl) hrm] at kx | rw [rtW_b (by omega) hk (Or.inl rfl) (wd := 10) rfl hrm g82] at kx | rw [rtW_b (by omega) hk (Or.inr (Or.inl rfl)) (wd := 9) rfl hrm g82] at kx | rw [rtW_b (by omega) hk (Or.inr (Or.inr rfl)) (wd := 8) rfl hrm g82] at kx
        exact kx ls H locs (lv_sub hl [3, 0] rfl) hP hD hS
      · skip
        refine lv_aload_n hx hb d_m_readText_75 rfl (lv_at hl 2 rfl) ?_
        refine lv_iload hx hb d_m_readText_76 (lv_at hl 1 rfl) ?_
        refine lv_iload_n hx hb d_m_readText_78 rfl (lv_at hl 3 rfl) ?_
        refine q_writeVi (n := 2) (As := [.int (nI 4), .int (nI dt)]) (rest := []) (wc := [(h, .inr (8, [.int (nI i0), .int (nI i1), .ref a2, .ref a3, .ref a4, .ref a5, .ref a6, .ref a7, .ref a8, .int (nI i9), .ref a10, .ref a11, .ref a12, .ref a13, .ref a14, .ref a15, .int (nI (pl + 4)), .int (nI fd), .ref a18, .int (nI i19), .ref a20, .ref a21, .int (nI i22), .ref a23])), (a11, .inl (cI, 26, .inl (fun j => nI (tr j)))), (a18, .inl (cI, 64, .inl (fun j => nI (rd j))))]) (wr := []) (w1 := [(h, .inr (8, [.int (nI i0), .int (nI i1), .ref a2, .ref a3, .ref a4, .ref a5, .ref a6, .ref a7, .ref a8, .int (nI i9), .ref a10, .ref a11, .ref a12, .ref a13, .ref a14, .ref a15, .int (nI ((chW tr 4 dt (nxL tr (pl + 4) 8) (nxL tr (pl + 4) 8) ((pl + 4) + 8) fd rd).2.1)), .int (nI ((chW tr 4 dt (nxL tr (pl + 4) 8) (nxL tr (pl + 4) 8) ((pl + 4) + 8) fd rd).2.2.1)), .ref a18, .int (nI i19), .ref a20, .ref a21, .int (nI i22), .ref a23])), (a11, .inl (cI, 26, .inl (fun j => nI (tr j)))), (a18, .inl (cI, 64, .inl (fun j => nI (((chW tr 4 dt (nxL tr (pl + 4) 8) (nxL tr (pl + 4) 8) ((pl + 4) + 8) fd rd).2.2.2) j))))]) S (c_m_characters_4_ok l D cI cC h i0 i1 a2 a3 a4 a5 a6 a7 a8 i9 a10 a11 a12 a13 a14 a15 (pl + 4) fd a18 i19 a20 a21 i22 a23 tr rd dt (by omega) (by omega) (by omega) htr H.size) hK hP hD hA (q0 := 0) rfl rfl [0, 1, 2] [] rfl rfl rfl rfl (by decide) rfl (q_goodV kw_984 kw_986 ks_39 kw_10 kw_987) (by decide +kernel) rfl rfl rfl ⟨Nat.le_trans (Nat.le_of_ble_eq_true rfl) hRf, Nat.le_trans (Nat.le_of_ble_eq_true rfl) hRl⟩ rfl hl.1 rfl (Nat.le_of_ble_eq_true rfl) d_m_readText_79 hRc hS (fun H locs hP hD hS => ?_)
        replace hP : va_P D classes [(h, .inr (8, [.int (nI i0), .int (nI i1), .ref a2, .ref a3, .ref a4, .ref a5, .ref a6, .ref a7, .ref a8, .int (nI i9), .ref a10, .ref a11, .ref a12, .ref a13, .ref a14, .ref a15, .int (nI ((chW tr 4 dt (nxL tr (pl + 4) 8) (nxL tr (pl + 4) 8) ((pl + 4) + 8) fd rd).2.1)), .int (nI ((chW tr 4 dt (nxL tr (pl + 4) 8) (nxL tr (pl + 4) 8) ((pl + 4) + 8) fd rd).2.2.1)), .ref a18, .int (nI i19), .ref a20, .ref a21, .int (nI i22), .ref a23])), (a11, .inl (cI, 26, .inl (fun j => nI (tr j)))), (a18, .inl (cI, 64, .inl (fun j => nI (((chW tr 4 dt (nxL tr (pl + 4) 8) (nxL tr (pl + 4) 8) ((pl + 4) + 8) fd rd).2.2.2) j))))] H := hP.sub [0, 1, 2] rfl
        replace hD : va_D A [(h, .inr (8, [.int (nI i0), .int (nI i1), .ref a2, .ref a3, .ref a4, .ref a5, .ref a6, .ref a7, .ref a8, .int (nI i9), .ref a10, .ref a11, .ref a12, .ref a13, .ref a14, .ref a15, .int (nI ((chW tr 4 dt (nxL tr (pl + 4) 8) (nxL tr (pl + 4) 8) ((pl + 4) + 8) fd rd).2.1)), .int (nI ((chW tr 4 dt (nxL tr (pl + 4) 8) (nxL tr (pl + 4) 8) ((pl + 4) + 8) fd rd).2.2.1)), .ref a18, .int (nI i19), .ref a20, .ref a21, .int (nI i22), .ref a23])), (a11, .inl (cI, 26, .inl (fun j => nI (tr j)))), (a18, .inl (cI, 64, .inl (fun j => nI (((chW tr 4 dt (nxL tr (pl + 4) 8) (nxL tr (pl + 4) 8) ((pl + 4) + 8) fd rd).2.2.2) j))))] := hD.sub [0, 1, 2] rfl rfl
        refine n_if_eq hx hb d_m_readText_82 (tgt := 89) rfl (Nat.lt_of_le_of_lt (chW_le _ _ _ _ _ _ _ _) (by decide)) (fun g82 => ?_) (fun g82 => ?_)
        · skip
          refine lv_iconst (v := nI 0) hx hb d_m_readText_89 (by decide) ?_
          refine lv_istore_n hx hb d_m_readText_90 rfl hl (Nat.le_of_ble_eq_true rfl) rfl (fun ls hl => ?_)
          have hl : lv_has ls 5 [(2, .int (nI 0)), (3, .int (nI 1)), (4, .int (nI 4)), (0, .ref h), (1, .int (nI dt))] := hl
          refine lv_goto hx hb d_m_readText_91 (tgt := 14) rfl ?_
          refine lv_iload_n hx hb d_m_readText_14 rfl (lv_at hl 0 rfl) ?_
          refine n_if_eq hx hb d_m_readText_15 (tgt := 94) rfl (by omega) (fun g15 => ?_) (fun g15 => absurd g15 (by decide))
          obtain ⟨m9, rfl⟩ : ∃ m9, n = m9 + 1 := ⟨n - 1, by omega⟩
          first | rw [rtW_z (by omega) hk] at kx | rw [rtW_k (by omega) hk] at kx | rw [rtW_n (by omega) (Or.inl hk) (wd := 10) (by rw [hk]; rfl) hrm] at kx | rw [rtW_n (by omega) (Or.inr (Or.inl hk)) (wd := 9) (by rw [hk]; rfl) hrm] at kx | rw [rtW_n (by omega) (Or.inr (Or.inr hk)) (wd := 8) (by rw [hk]; rfl) hrm] at kx | rw [rtW_b (by omega) hk (Or.inl rfl) (wd := 10) rfl hrm g82] at kx | rw [rtW_b (by omega) hk (Or.inr (Or.inl rfl)) (wd := 9) rfl hrm g82] at kx | rw [rtW_b (by omega) hk (Or.inr (Or.inr rfl)) (wd := 8) rfl hrm g82] at kx
          exact kx ls H locs (lv_sub hl [3, 0] rfl) hP hD hS
        · skip
          refine lv_iconst (v := nI 1) hx hb d_m_readText_85 (by decide) ?_
          refine lv_goto hx hb d_m_readText_86 (tgt := 90) rfl ?_
          refine lv_istore_n hx hb d_m_readText_90 rfl hl (Nat.le_of_ble_eq_true rfl) rfl (fun ls hl => ?_)
          have hl : lv_has ls 5 [(2, .int (nI 1)), (3, .int (nI 1)), (4, .int (nI 4)), (0, .ref h), (1, .int (nI dt))] := hl
          refine lv_goto hx hb d_m_readText_91 (tgt := 14) rfl ?_
          obtain ⟨m9, rfl⟩ : ∃ m9, n = m9 + 1 := ⟨n - 1, by omega⟩
          have hci := chW_inv tr 4 dt hdt (Or.inr (Or.inr rfl)) (nxL tr (pl + 4) 8) (nxL tr (pl + 4) 8) (pl + 4 + 8) fd rd (by omega) (by omega)
          rw [rtW_s (by omega) hk (Or.inr (Or.inr rfl)) (wd := 8) rfl hrm g82] at kx
          exact ih _ rfl ((chW tr 4 dt (nxL tr (pl + 4) 8) (nxL tr (pl + 4) 8) ((pl + 4) + 8) fd rd).2.1) ((chW tr 4 dt (nxL tr (pl + 4) 8) (nxL tr (pl + 4) 8) ((pl + 4) + 8) fd rd).2.2.1) ((chW tr 4 dt (nxL tr (pl + 4) 8) (nxL tr (pl + 4) 8) ((pl + 4) + 8) fd rd).2.2.2) (by omega) hci.2.1 hci.1 kx ls H locs (lv_sub hl [3, 4, 0, 1] rfl) hP hD hS
    · skip
      refine lv_iload hx hb d_m_readText_42 (lv_at hl 0 rfl) ?_
      refine n_if_eq hx hb d_m_readText_44 (tgt := 51) rfl (by omega) (fun g44 => absurd g44 (by omega)) (fun g44 => ?_)
      refine lv_iconst (v := nI 1) hx hb d_m_readText_47 (by decide) ?_
      refine lv_goto hx hb d_m_readText_48 (tgt := 52) rfl ?_
      refine lv_istore_n hx hb d_m_readText_52 rfl hl (Nat.le_of_ble_eq_true rfl) rfl (fun ls hl => ?_)
      have hl : lv_has ls 5 [(3, .int (nI 1)), (4, .int (nI (nxL tr pl 4))), (0, .ref h), (1, .int (nI dt)), (2, .int (nI 1))] := hl
      refine lv_iload_n hx hb d_m_readText_53 rfl (lv_at hl 0 rfl) ?_
      refine n_if_eq hx hb d_m_readText_54 (tgt := 85) rfl (by omega) (fun g54 => absurd g54 (by decide)) (fun g54 => ?_)
      refine lv_iload hx hb d_m_readText_57 (lv_at hl 1 rfl) ?_
      refine lv_iconst (v := nI 1) hx hb d_m_readText_59 (by decide) ?_
      refine n_icmp_eq hx hb d_m_readText_60 (tgt := 75) rfl (by omega) (by omega) (fun g60 => absurd g60 (by omega)) (fun g60 => ?_)
      refine lv_iload hx hb d_m_readText_63 (lv_at hl 1 rfl) ?_
      refine lv_iconst (v := nI 2) hx hb d_m_readText_65 (by decide) ?_
      refine n_icmp_eq hx hb d_m_readText_66 (tgt := 75) rfl (by omega) (by omega) (fun g66 => absurd g66 (by omega)) (fun g66 => ?_)
      refine lv_iload hx hb d_m_readText_69 (lv_at hl 1 rfl) ?_
      refine lv_iconst (v := nI 4) hx hb d_m_readText_71 (by decide) ?_
      refine n_icmp_ne hx hb d_m_readText_72 (tgt := 89) rfl (by omega) (by omega) (fun g72 => ?_) (fun g72 => absurd g72 (by omega))
      refine lv_iconst (v := nI 0) hx hb d_m_readText_89 (by decide) ?_
      refine lv_istore_n hx hb d_m_readText_90 rfl hl (Nat.le_of_ble_eq_true rfl) rfl (fun ls hl => ?_)
      have hl : lv_has ls 5 [(2, .int (nI 0)), (3, .int (nI 1)), (4, .int (nI (nxL tr pl 4))), (0, .ref h), (1, .int (nI dt))] := hl
      refine lv_goto hx hb d_m_readText_91 (tgt := 14) rfl ?_
      refine lv_iload_n hx hb d_m_readText_14 rfl (lv_at hl 0 rfl) ?_
      refine n_if_eq hx hb d_m_readText_15 (tgt := 94) rfl (by omega) (fun g15 => ?_) (fun g15 => absurd g15 (by decide))
      obtain ⟨m9, rfl⟩ : ∃ m9, n = m9 + 1 := ⟨n - 1, by omega⟩
      first | rw [rtW_z (by omega) hk] at kx | rw [rtW_k (by omega) hk] at kx | rw [rtW_n (by omega) (Or.inl hk) (wd := 10) (by rw [hk]; rfl) hrm] at kx | rw [rtW_n (by omega) (Or.inr (Or.inl hk)) (wd := 9) (by rw [hk]; rfl) hrm] at kx | rw [rtW_n (by omega) (Or.inr (Or.inr hk)) (wd := 8) (by rw [hk]; rfl) hrm] at kx | rw [rtW_b (by omega) hk (Or.inl rfl) (wd := 10) rfl hrm g82] at kx | rw [rtW_b (by omega) hk (Or.inr (Or.inl rfl)) (wd := 9) rfl hrm g82] at kx | rw [rtW_b (by omega) hk (Or.inr (Or.inr rfl)) (wd := 8) rfl hrm g82] at kx
      exact kx ls H locs (lv_sub hl [3, 0] rfl) hP hD hS
set_option maxHeartbeats 1000000 in
set_option maxRecDepth 100000 in
theorem bd_m_readText (cI cC : ClassId) (h i0 i1 a2 a3 a4 a5 a6 a7 a8 i9 a10 a11 a12 a13 a14 a15 i16 i17 a18 i19 a20 a21 i22 a23 : Nat) (tr re : Nat → Nat) (dt : Nat) (hdt : dt ≤ 19) (htr : ∀ j, j < 26 → tr j < 256) (S : CallFix p m c b_m_readText 5 s args (cd_m_readText :: WS) R_Model) (hRf : 3 ≤ R.frames) (hRl : 78 ≤ R.locals) (hRc : cells ≤ R.cells ∧ slots ≤ R.slots) (hK : va_K D classes [(cI, .int), (cC, .char)] s) (hA : ∀ q, H0.size ≤ q → A q) (kr : ∀ (pc : Nat) (ls : Array Slot) (H : Heap) (locs : List Loc), decode b_m_readText pc = .ok (.ireturn, 1) → va_P D classes [(h, .inr (8, [.int (nI i0), .int (nI i1), .ref a2, .ref a3, .ref a4, .ref a5, .ref a6, .ref a7, .ref a8, .int (nI i9), .ref a10, .ref a11, .ref a12, .ref a13, .ref a14, .ref a15, .int (nI ((rtW tr dt (8 * dt) 0 0 re).2.1)), .int (nI ((rtW tr dt (8 * dt) 0 0 re).2.2.1)), .ref a18, .int (nI i19), .ref a20, .ref a21, .int (nI i22), .ref a23])), (a11, .inl (cI, 26, .inl (fun j => nI (tr j)))), (a18, .inl (cI, 64, .inl (fun j => nI (((rtW tr dt (8 * dt) 0 0 re).2.2.2) j))))] H → va_D A [(h, .inr (8, [.int (nI i0), .int (nI i1), .ref a2, .ref a3, .ref a4, .ref a5, .ref a6, .ref a7, .ref a8, .int (nI i9), .ref a10, .ref a11, .ref a12, .ref a13, .ref a14, .ref a15, .int (nI ((rtW tr dt (8 * dt) 0 0 re).2.1)), .int (nI ((rtW tr dt (8 * dt) 0 0 re).2.2.1)), .ref a18, .int (nI i19), .ref a20, .ref a21, .int (nI i22), .ref a23])), (a11, .inl (cI, 26, .inl (fun j => nI (tr j)))), (a18, .inl (cI, 64, .inl (fun j => nI (((rtW tr dt (8 * dt) 0 0 re).2.2.2) j))))] → va_S A H0 H locs → W p l e R s m args below meth c H locs cells slots Q (F0 m pc ls [.int (nI ((rtW tr dt (8 * dt) 0 0 re).1))])) : ∀ (ls : Array Slot) (H : Heap) (locs : List Loc), lv_has ls 5 [(0, .ref h), (1, .int (nI dt))] → va_P D classes [(h, .inr (8, [.int (nI i0), .int (nI i1), .ref a2, .ref a3, .ref a4, .ref a5, .ref a6, .ref a7, .ref a8, .int (nI i9), .ref a10, .ref a11, .ref a12, .ref a13, .ref a14, .ref a15, .int (nI i16), .int (nI i17), .ref a18, .int (nI i19), .ref a20, .ref a21, .int (nI i22), .ref a23])), (a11, .inl (cI, 26, .inl (fun j => nI (tr j)))), (a18, .inl (cI, 64, .inl (fun j => nI (re j))))] H → va_D A [(h, .inr (8, [.int (nI i0), .int (nI i1), .ref a2, .ref a3, .ref a4, .ref a5, .ref a6, .ref a7, .ref a8, .int (nI i9), .ref a10, .ref a11, .ref a12, .ref a13, .ref a14, .ref a15, .int (nI i16), .int (nI i17), .ref a18, .int (nI i19), .ref a20, .ref a21, .int (nI i22), .ref a23])), (a11, .inl (cI, 26, .inl (fun j => nI (tr j)))), (a18, .inl (cI, 64, .inl (fun j => nI (re j))))] → va_S A H0 H locs → W p l e R s m args below meth c H locs cells slots Q (F0 m 0 ls []) := by
  obtain ⟨hx, hb, hml, hown, hts⟩ := id S
  intro ls H locs hl hP hD hS
  refine lv_aload_n hx hb d_m_readText_0 rfl (lv_at hl 0 rfl) ?_
  refine lv_iconst (v := nI 0) hx hb d_m_readText_1 (by decide) ?_
  refine n_put (C := R_Model) (T := F_Model) (N := 24) (v := .int (nI 0)) hx hb hts u_Model_in t_Model t_Model_ok n_Model hown hK hP hD hS 0 rfl rfl 16 (by decide) kw_792 rfl rfl rfl (Nat.le_of_ble_eq_true rfl) d_m_readText_2 (fun H locs hP hD hS => ?_)
  have hP : va_P D classes [(h, .inr (8, [.int (nI i0), .int (nI i1), .ref a2, .ref a3, .ref a4, .ref a5, .ref a6, .ref a7, .ref a8, .int (nI i9), .ref a10, .ref a11, .ref a12, .ref a13, .ref a14, .ref a15, .int (nI 0), .int (nI i17), .ref a18, .int (nI i19), .ref a20, .ref a21, .int (nI i22), .ref a23])), (a11, .inl (cI, 26, .inl (fun j => nI (tr j)))), (a18, .inl (cI, 64, .inl (fun j => nI (re j))))] H := hP
  have hD : va_D A [(h, .inr (8, [.int (nI i0), .int (nI i1), .ref a2, .ref a3, .ref a4, .ref a5, .ref a6, .ref a7, .ref a8, .int (nI i9), .ref a10, .ref a11, .ref a12, .ref a13, .ref a14, .ref a15, .int (nI 0), .int (nI i17), .ref a18, .int (nI i19), .ref a20, .ref a21, .int (nI i22), .ref a23])), (a11, .inl (cI, 26, .inl (fun j => nI (tr j)))), (a18, .inl (cI, 64, .inl (fun j => nI (re j))))] := hD
  refine lv_aload_n hx hb d_m_readText_5 rfl (lv_at hl 0 rfl) ?_
  refine lv_iconst (v := nI 0) hx hb d_m_readText_6 (by decide) ?_
  refine n_put (C := R_Model) (T := F_Model) (N := 24) (v := .int (nI 0)) hx hb hts u_Model_in t_Model t_Model_ok n_Model hown hK hP hD hS 0 rfl rfl 17 (by decide) kw_793 rfl rfl rfl (Nat.le_of_ble_eq_true rfl) d_m_readText_7 (fun H locs hP hD hS => ?_)
  have hP : va_P D classes [(h, .inr (8, [.int (nI i0), .int (nI i1), .ref a2, .ref a3, .ref a4, .ref a5, .ref a6, .ref a7, .ref a8, .int (nI i9), .ref a10, .ref a11, .ref a12, .ref a13, .ref a14, .ref a15, .int (nI 0), .int (nI 0), .ref a18, .int (nI i19), .ref a20, .ref a21, .int (nI i22), .ref a23])), (a11, .inl (cI, 26, .inl (fun j => nI (tr j)))), (a18, .inl (cI, 64, .inl (fun j => nI (re j))))] H := hP
  have hD : va_D A [(h, .inr (8, [.int (nI i0), .int (nI i1), .ref a2, .ref a3, .ref a4, .ref a5, .ref a6, .ref a7, .ref a8, .int (nI i9), .ref a10, .ref a11, .ref a12, .ref a13, .ref a14, .ref a15, .int (nI 0), .int (nI 0), .ref a18, .int (nI i19), .ref a20, .ref a21, .int (nI i22), .ref a23])), (a11, .inl (cI, 26, .inl (fun j => nI (tr j)))), (a18, .inl (cI, 64, .inl (fun j => nI (re j))))] := hD
  refine lv_iconst (v := nI 1) hx hb d_m_readText_10 (by decide) ?_
  refine lv_istore_n hx hb d_m_readText_11 rfl hl (Nat.le_of_ble_eq_true rfl) rfl (fun ls hl => ?_)
  have hl : lv_has ls 5 [(2, .int (nI 1)), (0, .ref h), (1, .int (nI dt))] := hl
  refine lv_iconst (v := nI 1) hx hb d_m_readText_12 (by decide) ?_
  refine lv_istore_n hx hb d_m_readText_13 rfl hl (Nat.le_of_ble_eq_true rfl) rfl (fun ls hl => ?_)
  have hl : lv_has ls 5 [(3, .int (nI 1)), (2, .int (nI 1)), (0, .ref h), (1, .int (nI dt))] := hl
  refine lw_m_readText_14 cI cC h i0 i1 a2 a3 a4 a5 a6 a7 a8 i9 a10 a11 a12 a13 a14 a15 i16 i17 a18 i19 a20 a21 i22 a23 tr re dt hdt htr S hRf hRl hRc hK hA  (8 * dt) 0 0 re (Nat.le_refl _) (by omega) (by omega) (fun ls H locs hl hP hD hS => ?_) ls H locs (lv_sub hl [2, 3, 1, 0] rfl) hP hD hS
  refine lv_iload_n hx hb d_m_readText_94 rfl (lv_at hl 1 rfl) ?_
  exact kr _ ls H locs d_m_readText_95 hP hD hS
set_option maxHeartbeats 1000000 in
set_option maxRecDepth 100000 in
theorem c_m_readText (l : Launch) (D : va_G) (cI cC : ClassId) (h i0 i1 a2 a3 a4 a5 a6 a7 a8 i9 a10 a11 a12 a13 a14 a15 i16 i17 a18 i19 a20 a21 i22 a23 : Nat) (tr re : Nat → Nat) (dt : Nat) (hdt : dt ≤ 19) (htr : ∀ j, j < 26 → tr j < 256) (sz : Nat) : Met l y_m_readText (cd_m_readText :: WS) { frames := 3, cells := 0, slots := 0, locals := 78 } (va_Pc [.ref h, .int (nI dt)] (wP D [(h, .inr (8, [.int (nI i0), .int (nI i1), .ref a2, .ref a3, .ref a4, .ref a5, .ref a6, .ref a7, .ref a8, .int (nI i9), .ref a10, .ref a11, .ref a12, .ref a13, .ref a14, .ref a15, .int (nI i16), .int (nI i17), .ref a18, .int (nI i19), .ref a20, .ref a21, .int (nI i22), .ref a23])), (a11, .inl (cI, 26, .inl (fun j => nI (tr j)))), (a18, .inl (cI, 64, .inl (fun j => nI (re j))))] [(cI, .int), (cC, .char)] sz)) (wQi D (nI ((rtW tr dt (8 * dt) 0 0 re).1)) [(h, .inr (8, [.int (nI i0), .int (nI i1), .ref a2, .ref a3, .ref a4, .ref a5, .ref a6, .ref a7, .ref a8, .int (nI i9), .ref a10, .ref a11, .ref a12, .ref a13, .ref a14, .ref a15, .int (nI i16), .int (nI i17), .ref a18, .int (nI i19), .ref a20, .ref a21, .int (nI i22), .ref a23])), (a11, .inl (cI, 26, .inl (fun j => nI (tr j)))), (a18, .inl (cI, 64, .inl (fun j => nI (re j))))] [(h, .inr (8, [.int (nI i0), .int (nI i1), .ref a2, .ref a3, .ref a4, .ref a5, .ref a6, .ref a7, .ref a8, .int (nI i9), .ref a10, .ref a11, .ref a12, .ref a13, .ref a14, .ref a15, .int (nI ((rtW tr dt (8 * dt) 0 0 re).2.1)), .int (nI ((rtW tr dt (8 * dt) 0 0 re).2.2.1)), .ref a18, .int (nI i19), .ref a20, .ref a21, .int (nI i22), .ref a23])), (a11, .inl (cI, 26, .inl (fun j => nI (tr j)))), (a18, .inl (cI, 64, .inl (fun j => nI (((rtW tr dt (8 * dt) 0 0 re).2.2.2) j))))] sz) 0 0 (va_A [(h, .inr (8, [.int (nI i0), .int (nI i1), .ref a2, .ref a3, .ref a4, .ref a5, .ref a6, .ref a7, .ref a8, .int (nI i9), .ref a10, .ref a11, .ref a12, .ref a13, .ref a14, .ref a15, .int (nI i16), .int (nI i17), .ref a18, .int (nI i19), .ref a20, .ref a21, .int (nI i22), .ref a23])), (a11, .inl (cI, 26, .inl (fun j => nI (tr j)))), (a18, .inl (cI, 64, .inl (fun j => nI (re j))))] sz) := by
  refine Met.ofW (cc := b_m_readText) (maxL := 5) (ret := (some .boolean)) (by decide) rfl ?_
  intro p e s m args below meth c s₁ B hml hv0
  obtain ⟨rfl, hP, hK, hD0, hsz⟩ := hv0
  have hts := atoms_spec (ws := cd_m_readText :: WS) B.pre
  have hown : s.vm.findClass R_Model = some m.cls := findClass_of_methodNamed B.named
  have hlocks := B.notSynchronized
  subst hsz
  have hD := hD0.self (sz := s.heap.size)
  have hl := lv_entry ([.ref h, .int (nI dt)]) (n := 5) (Nat.le_of_ble_eq_true rfl)
  rw [lg_entry_eq]
  generalize (lg_sl ([.ref h, .int (nI dt)]) ++ List.replicate (5 - (lg_sl ([.ref h, .int (nI dt)])).length) Slot.unset).toArray = ls at hl ⊢
  refine bd_m_readText cI cC h i0 i1 a2 a3 a4 a5 a6 a7 a8 i9 a10 a11 a12 a13 a14 a15 i16 i17 a18 i19 a20 a21 i22 a23 tr re dt hdt htr ⟨B.exec, B.bytes, hml, hown, hts⟩ (Nat.le_refl _) (Nat.le_refl _) ⟨Nat.le_refl _, Nat.le_refl _⟩ hK (fun q h => Or.inr h) (fun pc ls H locs hd hP hD hS => ?_) ls _ _ hl hP hD (va_S.rf)
  exact W.zret B.exec B.bytes B.returns (rtW_fit _ _ _ _ _ _) (fun t ht _ => ⟨⟨_, (), rfl, rfl, (by have h9 := hP; rw [← ht] at h9; exact h9)⟩, hS.F ht⟩) hS.2.2 hd
end
