theorem kw_94 : (Jvm.Cond.methodLink "SquareCodes$Checks" (3 : Nat) ({ cls := "java/lang/Object", name := "<init>", desc := "()V" } : Jvm.MethodName)) ∈ WS := WS_tbl 94 (by decide +kernel) rfl
theorem kw_95 : (Jvm.Cond.classLink "SquareCodes$Checks" (9 : Nat) "SquareCodes$Field") ∈ WS := WS_tbl 95 (by decide +kernel) rfl
theorem kw_96 : (Jvm.Cond.instantiable "SquareCodes$Field" (2 : Nat)) ∈ WS := WS_tbl 96 (by decide +kernel) rfl
theorem kw_97 : (Jvm.Cond.methodLink "SquareCodes$Checks" (11 : Nat) ({ cls := "SquareCodes$Field", name := "<init>", desc := "()V" } : Jvm.MethodName)) ∈ WS := WS_tbl 97 (by decide +kernel) rfl
set_option maxRecDepth 1000000 in
theorem kw_99 : cd_q_Field_init ∈ WS := WS_tbl 99 rfl rfl
theorem kw_98 : (Jvm.Cond.instanceMethod ({ cls := "SquareCodes$Field", name := "<init>", desc := "()V" } : Jvm.MethodName)) ∈ WS := WS_tbl 98 (by decide +kernel) rfl
theorem kw_69 : (Jvm.Cond.methodLink "SquareCodes$Layout" (26 : Nat) ({ cls := "SquareCodes$Grid", name := "rowBits", desc := "(I)I" } : Jvm.MethodName)) ∈ WS := WS_tbl 69 (by decide +kernel) rfl
theorem kw_53 : (Jvm.Cond.methodLink "SquareCodes$Layout" (3 : Nat) ({ cls := "java/lang/Object", name := "<init>", desc := "()V" } : Jvm.MethodName)) ∈ WS := WS_tbl 53 (by decide +kernel) rfl
theorem kw_54 : (Jvm.Cond.classLink "SquareCodes$Layout" (9 : Nat) "SquareCodes$Grid") ∈ WS := WS_tbl 54 (by decide +kernel) rfl
theorem kw_37 : (Jvm.Cond.instantiable "SquareCodes$Grid" (1 : Nat)) ∈ WS := WS_tbl 37 (by decide +kernel) rfl
theorem kw_55 : (Jvm.Cond.methodLink "SquareCodes$Layout" (11 : Nat) ({ cls := "SquareCodes$Grid", name := "<init>", desc := "()V" } : Jvm.MethodName)) ∈ WS := WS_tbl 55 (by decide +kernel) rfl
set_option maxRecDepth 1000000 in
theorem kw_40 : cd_q_Grid_init ∈ WS := WS_tbl 40 rfl rfl
theorem kw_39 : (Jvm.Cond.instanceMethod ({ cls := "SquareCodes$Grid", name := "<init>", desc := "()V" } : Jvm.MethodName)) ∈ WS := WS_tbl 39 (by decide +kernel) rfl
theorem kw_56 : (Jvm.Cond.methodLink "SquareCodes$Layout" (12 : Nat) ({ cls := "SquareCodes$Layout", name := "drawEye", desc := "(LSquareCodes$Grid;II)V" } : Jvm.MethodName)) ∈ WS := WS_tbl 56 (by decide +kernel) rfl
theorem kw_57 : (Jvm.Cond.static ({ cls := "SquareCodes$Layout", name := "drawEye", desc := "(LSquareCodes$Grid;II)V" } : Jvm.MethodName)) ∈ WS := WS_tbl 57 (by decide +kernel) rfl
set_option maxRecDepth 1000000 in
theorem kw_58 : cd_q_Layout_drawEye ∈ WS := WS_tbl 58 rfl rfl
theorem kw_66 : (Jvm.Cond.methodLink "SquareCodes$Layout" (18 : Nat) ({ cls := "SquareCodes$Layout", name := "drawDots", desc := "(LSquareCodes$Grid;)V" } : Jvm.MethodName)) ∈ WS := WS_tbl 66 (by decide +kernel) rfl
theorem kw_67 : (Jvm.Cond.static ({ cls := "SquareCodes$Layout", name := "drawDots", desc := "(LSquareCodes$Grid;)V" } : Jvm.MethodName)) ∈ WS := WS_tbl 67 (by decide +kernel) rfl
set_option maxRecDepth 1000000 in
theorem kw_68 : cd_q_Layout_drawDots ∈ WS := WS_tbl 68 rfl rfl
theorem kw_73 : (Jvm.Cond.methodLink "SquareCodes$Layout" (36 : Nat) ({ cls := "SquareCodes$Layout", name := "fillOrder", desc := "([I[I)V" } : Jvm.MethodName)) ∈ WS := WS_tbl 73 (by decide +kernel) rfl
theorem kw_74 : (Jvm.Cond.static ({ cls := "SquareCodes$Layout", name := "fillOrder", desc := "([I[I)V" } : Jvm.MethodName)) ∈ WS := WS_tbl 74 (by decide +kernel) rfl
set_option maxRecDepth 1000000 in
theorem kw_75 : cd_q_Layout_fillOrder ∈ WS := WS_tbl 75 rfl rfl
section
theorem d_q_Checks_init_0 : decode b_q_Checks_init 0 = .ok (.aload_n 0, 1) := by decide +kernel
theorem d_q_Checks_init_1 : decode b_q_Checks_init 1 = .ok (.invokespecial 3, 3) := by decide +kernel
theorem d_q_Checks_init_4 : decode b_q_Checks_init 4 = .ok (.aload_n 0, 1) := by decide +kernel
theorem d_q_Checks_init_5 : decode b_q_Checks_init 5 = .ok (.new 9, 3) := by decide +kernel
theorem d_q_Checks_init_8 : decode b_q_Checks_init 8 = .ok (.dup, 1) := by decide +kernel
theorem d_q_Checks_init_9 : decode b_q_Checks_init 9 = .ok (.invokespecial 11, 3) := by decide +kernel
theorem d_q_Checks_init_12 : decode b_q_Checks_init 12 = .ok (.putfield 12, 3) := by decide +kernel
theorem d_q_Checks_init_15 : decode b_q_Checks_init 15 = .ok (.aload_n 0, 1) := by decide +kernel
theorem d_q_Checks_init_16 : decode b_q_Checks_init 16 = .ok (.bipush 18, 2) := by decide +kernel
theorem d_q_Checks_init_18 : decode b_q_Checks_init 18 = .ok (.newarray .int, 2) := by decide +kernel
theorem d_q_Checks_init_20 : decode b_q_Checks_init 20 = .ok (.putfield 18, 3) := by decide +kernel
theorem d_q_Checks_init_23 : decode b_q_Checks_init 23 = .ok (.aload_n 0, 1) := by decide +kernel
theorem d_q_Checks_init_24 : decode b_q_Checks_init 24 = .ok (.bipush 26, 2) := by decide +kernel
theorem d_q_Checks_init_26 : decode b_q_Checks_init 26 = .ok (.newarray .int, 2) := by decide +kernel
theorem d_q_Checks_init_28 : decode b_q_Checks_init 28 = .ok (.putfield 22, 3) := by decide +kernel
theorem d_q_Checks_init_31 : decode b_q_Checks_init 31 = .ok (.aload_n 0, 1) := by decide +kernel
theorem d_q_Checks_init_32 : decode b_q_Checks_init 32 = .ok (.bipush 17, 2) := by decide +kernel
theorem d_q_Checks_init_34 : decode b_q_Checks_init 34 = .ok (.newarray .int, 2) := by decide +kernel
theorem d_q_Checks_init_36 : decode b_q_Checks_init 36 = .ok (.putfield 25, 3) := by decide +kernel
theorem d_q_Checks_init_39 : decode b_q_Checks_init 39 = .ok (.aload_n 0, 1) := by decide +kernel
theorem d_q_Checks_init_40 : decode b_q_Checks_init 40 = .ok (.bipush 18, 2) := by decide +kernel
theorem d_q_Checks_init_42 : decode b_q_Checks_init 42 = .ok (.newarray .int, 2) := by decide +kernel
theorem d_q_Checks_init_44 : decode b_q_Checks_init 44 = .ok (.putfield 28, 3) := by decide +kernel
theorem d_q_Checks_init_47 : decode b_q_Checks_init 47 = .ok (.aload_n 0, 1) := by decide +kernel
theorem d_q_Checks_init_48 : decode b_q_Checks_init 48 = .ok (.bipush 18, 2) := by decide +kernel
theorem d_q_Checks_init_50 : decode b_q_Checks_init 50 = .ok (.newarray .int, 2) := by decide +kernel
theorem d_q_Checks_init_52 : decode b_q_Checks_init 52 = .ok (.putfield 31, 3) := by decide +kernel
theorem d_q_Checks_init_55 : decode b_q_Checks_init 55 = .ok (.aload_n 0, 1) := by decide +kernel
theorem d_q_Checks_init_56 : decode b_q_Checks_init 56 = .ok (.bipush 18, 2) := by decide +kernel
theorem d_q_Checks_init_58 : decode b_q_Checks_init 58 = .ok (.newarray .int, 2) := by decide +kernel
theorem d_q_Checks_init_60 : decode b_q_Checks_init 60 = .ok (.putfield 34, 3) := by decide +kernel
theorem d_q_Checks_init_63 : decode b_q_Checks_init 63 = .ok (.aload_n 0, 1) := by decide +kernel
theorem d_q_Checks_init_64 : decode b_q_Checks_init 64 = .ok (.bipush 17, 2) := by decide +kernel
theorem d_q_Checks_init_66 : decode b_q_Checks_init 66 = .ok (.newarray .int, 2) := by decide +kernel
theorem d_q_Checks_init_68 : decode b_q_Checks_init 68 = .ok (.putfield 37, 3) := by decide +kernel
theorem d_q_Checks_init_71 : decode b_q_Checks_init 71 = .ok (.return_, 1) := by decide +kernel
end
section
variable {p : Program} {l : Launch} {e : Env} {R : Room} {s : State} {m : MethodId} {args : Array Value} {below : List Frame} {meth : Method} {c : Code} {cells slots : Nat} {Q : State → Prop} {A : Nat → Prop} {H0 : Heap} {D : va_G}
set_option maxHeartbeats 4000000 in
set_option maxRecDepth 100000 in
theorem bd_q_Checks_init (cI cC : ClassId) (h : Nat) (S : CallFix p m c b_q_Checks_init 1 s args (cd_q_Checks_init :: WS) R_Checks) (hRf : 2 ≤ R.frames) (hRl : 34 ≤ R.locals) (hRm : cells + 10 ≤ R.cells ∧ slots + 645 ≤ R.slots) (hin : meth.name = "<init>") (hK : va_K D classes [(cI, .int), (cC, .char)] s) (hA : ∀ q, H0.size ≤ q → A q) (kr : ∀ (q5 q9_0 q9_1 q18 q26 q34 q42 q50 q58 q66 : Nat) (pc : Nat) (ls : Array Slot) (H : Heap) (locs : List Loc), decode b_q_Checks_init pc = .ok (.return_, 1) → va_P D classes [(h, .inr (0, [.ref q5, .ref q18, .ref q26, .ref q34, .ref q42, .ref q50, .ref q58, .ref q66])), (q5, .inr (1, [.ref q9_0, .ref q9_1])), (q9_0, .inl (cI, 255, .inl (fun j => nI ((fpo 255) j)))), (q9_1, .inl (cI, 256, .inl (fun j => nI ((flo 255) j)))), (q18, .inl (cI, 18, .inl (fun j => nI (z0 j)))), (q26, .inl (cI, 26, .inl (fun j => nI (z0 j)))), (q34, .inl (cI, 17, .inl (fun j => nI (z0 j)))), (q42, .inl (cI, 18, .inl (fun j => nI (z0 j)))), (q50, .inl (cI, 18, .inl (fun j => nI (z0 j)))), (q58, .inl (cI, 18, .inl (fun j => nI (z0 j)))), (q66, .inl (cI, 17, .inl (fun j => nI (z0 j))))] H → va_D A [(h, .inr (0, [.ref q5, .ref q18, .ref q26, .ref q34, .ref q42, .ref q50, .ref q58, .ref q66])), (q5, .inr (1, [.ref q9_0, .ref q9_1])), (q9_0, .inl (cI, 255, .inl (fun j => nI ((fpo 255) j)))), (q9_1, .inl (cI, 256, .inl (fun j => nI ((flo 255) j)))), (q18, .inl (cI, 18, .inl (fun j => nI (z0 j)))), (q26, .inl (cI, 26, .inl (fun j => nI (z0 j)))), (q34, .inl (cI, 17, .inl (fun j => nI (z0 j)))), (q42, .inl (cI, 18, .inl (fun j => nI (z0 j)))), (q50, .inl (cI, 18, .inl (fun j => nI (z0 j)))), (q58, .inl (cI, 18, .inl (fun j => nI (z0 j)))), (q66, .inl (cI, 17, .inl (fun j => nI (z0 j))))] → va_S A H0 H locs → W p l e R s m args below meth c H locs (cells + 10) (slots + 645) Q (F0 m pc ls [])) : ∀ (ls : Array Slot) (H : Heap) (locs : List Loc), lv_has ls 1 [(0, .ref h)] → va_P D classes [(h, .inr (0, [.null, .null, .null, .null, .null, .null, .null, .null]))] H → va_D A [(h, .inr (0, [.null, .null, .null, .null, .null, .null, .null, .null]))] → va_S A H0 H locs → W p l e R s m args below meth c H locs cells slots Q (F0 m 0 ls []) := by
  obtain ⟨hx, hb, hml, hown, hts⟩ := id S
  have hRc : cells ≤ R.cells ∧ slots ≤ R.slots := ⟨by omega, by omega⟩
  intro ls H locs hl hP hD hS
  refine lv_aload_n hx hb d_q_Checks_init_0 rfl (lv_at hl 0 rfl) ?_
  refine W.objInit hx hb hown (hts _ (List.mem_cons_of_mem _ kw_94)) (hts _ (List.mem_cons_of_mem _ kw_34)) (hts _ (List.mem_cons_of_mem _ kw_35)) rfl (by rw [hml]; exact hl.1) rfl d_q_Checks_init_1 (Nat.le_trans (Nat.le_of_ble_eq_true rfl) hRf) (Nat.le_trans (Nat.le_of_ble_eq_true rfl) hRl) ?_
  refine W.eq (g2 := F0 m 4 ls []) rfl ?_
  refine lv_aload_n hx hb d_q_Checks_init_4 rfl (lv_at hl 0 rfl) ?_
  refine va_new (D := D) (ci := 1) (fs := [.null, .null]) (C := R_Field) (T := F_Field) (N := 2) hx hb hts (fun w h => List.mem_cons_of_mem _ (u_Field_in w h)) t_Field t_Field_ok hown (hts _ (List.mem_cons_of_mem _ kw_95)) (hts _ (List.mem_cons_of_mem _ kw_96)) (hts _ (List.mem_cons_of_mem _ kw_5)) hK hP hD hS hA rfl (fun j hj => by rcases (show j = 0 ∨ j = 1 by omega) with rfl | rfl <;> rfl) (by omega) (by omega) d_q_Checks_init_5 (fun q5 H hP hD hS => ?_)
  have hP : va_P D classes [(h, .inr (0, [.null, .null, .null, .null, .null, .null, .null, .null])), (q5, .inr (1, [.null, .null]))] H := hP
  have hD : va_D A [(h, .inr (0, [.null, .null, .null, .null, .null, .null, .null, .null])), (q5, .inr (1, [.null, .null]))] := hD
  have hRc : cells + 1 ≤ R.cells ∧ slots + 2 ≤ R.slots := ⟨by omega, by omega⟩
  refine lv_dup hx hb d_q_Checks_init_8 rfl ?_
  refine q_init (wc := [(q5, .inr (1, [.null, .null]))]) (wr := [(h, .inr (0, [.null, .null, .null, .null, .null, .null, .null, .null]))]) S (c_q_Field_init l D cI cC q5 H.size) hK hP hD hA [1] [0] rfl rfl rfl rfl (by decide) kw_99 kw_5 (kw_97) kw_98 rfl (by decide +kernel) rfl rfl ⟨Nat.le_trans (Nat.le_of_ble_eq_true rfl) hRf, Nat.le_trans (Nat.le_of_ble_eq_true rfl) hRl⟩ hl.1 (Nat.le_of_ble_eq_true rfl) d_q_Checks_init_9 ⟨by omega, by omega⟩ hS (fun u9 H locs hP hD hS => ?_)
  have hP : va_P D classes [(h, .inr (0, [.null, .null, .null, .null, .null, .null, .null, .null])), (q5, .inr (1, [.ref (u9 0), .ref (u9 1)])), ((u9 0), .inl (cI, 255, .inl (fun j => nI ((fpo 255) j)))), ((u9 1), .inl (cI, 256, .inl (fun j => nI ((flo 255) j))))] H := hP
  have hD : va_D A [(h, .inr (0, [.null, .null, .null, .null, .null, .null, .null, .null])), (q5, .inr (1, [.ref (u9 0), .ref (u9 1)])), ((u9 0), .inl (cI, 255, .inl (fun j => nI ((fpo 255) j)))), ((u9 1), .inl (cI, 256, .inl (fun j => nI ((flo 255) j))))] := hD
  generalize u9 0 = q9_0 at hP hD
  generalize u9 1 = q9_1 at hP hD
  have hP : va_P D classes [(h, .inr (0, [.null, .null, .null, .null, .null, .null, .null, .null])), (q5, .inr (1, [.ref q9_0, .ref q9_1])), (q9_0, .inl (cI, 255, .inl (fun j => nI ((fpo 255) j)))), (q9_1, .inl (cI, 256, .inl (fun j => nI ((flo 255) j))))] H := hP
  have hD : va_D A [(h, .inr (0, [.null, .null, .null, .null, .null, .null, .null, .null])), (q5, .inr (1, [.ref q9_0, .ref q9_1])), (q9_0, .inl (cI, 255, .inl (fun j => nI ((fpo 255) j)))), (q9_1, .inl (cI, 256, .inl (fun j => nI ((flo 255) j))))] := hD
  have hRc : cells + 3 ≤ R.cells ∧ slots + 513 ≤ R.slots := ⟨by omega, by omega⟩
  refine va_putF (D := D) (ci := 0) (v := .ref q5) (ty := (.object "SquareCodes$Field")) (C := R_Checks) (T := F_Checks) (N := 8) hx hb hts (fun w h => List.mem_cons_of_mem _ (u_Checks_in w h)) t_Checks t_Checks_ok n_Checks hown hK hP hD hS 0 rfl rfl 0 (by decide) (hts _ (List.mem_cons_of_mem _ kw_108)) (fun _ h9 => h9) rfl hin rfl (by decide +kernel) rfl rfl (Nat.le_of_ble_eq_true rfl) d_q_Checks_init_12 (fun H locs hP hD hS => ?_)
  have hP : va_P D classes [(h, .inr (0, [.ref q5, .null, .null, .null, .null, .null, .null, .null])), (q5, .inr (1, [.ref q9_0, .ref q9_1])), (q9_0, .inl (cI, 255, .inl (fun j => nI ((fpo 255) j)))), (q9_1, .inl (cI, 256, .inl (fun j => nI ((flo 255) j))))] H := hP
  have hD : va_D A [(h, .inr (0, [.ref q5, .null, .null, .null, .null, .null, .null, .null])), (q5, .inr (1, [.ref q9_0, .ref q9_1])), (q9_0, .inl (cI, 255, .inl (fun j => nI ((fpo 255) j)))), (q9_1, .inl (cI, 256, .inl (fun j => nI ((flo 255) j))))] := hD
  refine lv_aload_n hx hb d_q_Checks_init_15 rfl (lv_at hl 0 rfl) ?_
  refine lv_bipush (v := nI 18) hx hb d_q_Checks_init_16 (by decide) ?_
  refine n_newi hx hb hts kw_47 hK hP hD hS hA (by decide) (by omega) (by omega) d_q_Checks_init_18 (fun q18 H hP hD hS => ?_)
  have hP : va_P D classes [(h, .inr (0, [.ref q5, .null, .null, .null, .null, .null, .null, .null])), (q5, .inr (1, [.ref q9_0, .ref q9_1])), (q9_0, .inl (cI, 255, .inl (fun j => nI ((fpo 255) j)))), (q9_1, .inl (cI, 256, .inl (fun j => nI ((flo 255) j)))), (q18, .inl (cI, 18, .inl (fun j => nI (z0 j))))] H := hP
  have hD : va_D A [(h, .inr (0, [.ref q5, .null, .null, .null, .null, .null, .null, .null])), (q5, .inr (1, [.ref q9_0, .ref q9_1])), (q9_0, .inl (cI, 255, .inl (fun j => nI ((fpo 255) j)))), (q9_1, .inl (cI, 256, .inl (fun j => nI ((flo 255) j)))), (q18, .inl (cI, 18, .inl (fun j => nI (z0 j))))] := hD
  have hRc : cells + 4 ≤ R.cells ∧ slots + 531 ≤ R.slots := ⟨by omega, by omega⟩
  refine va_putF (D := D) (ci := 0) (v := .ref q18) (ty := (.array .int)) (C := R_Checks) (T := F_Checks) (N := 8) hx hb hts (fun w h => List.mem_cons_of_mem _ (u_Checks_in w h)) t_Checks t_Checks_ok n_Checks hown hK hP hD hS 0 rfl rfl 1 (by decide) (hts _ (List.mem_cons_of_mem _ kw_109)) (fun _ h9 => h9) rfl hin rfl (by decide +kernel) rfl rfl (Nat.le_of_ble_eq_true rfl) d_q_Checks_init_20 (fun H locs hP hD hS => ?_)
  have hP : va_P D classes [(h, .inr (0, [.ref q5, .ref q18, .null, .null, .null, .null, .null, .null])), (q5, .inr (1, [.ref q9_0, .ref q9_1])), (q9_0, .inl (cI, 255, .inl (fun j => nI ((fpo 255) j)))), (q9_1, .inl (cI, 256, .inl (fun j => nI ((flo 255) j)))), (q18, .inl (cI, 18, .inl (fun j => nI (z0 j))))] H := hP
  have hD : va_D A [(h, .inr (0, [.ref q5, .ref q18, .null, .null, .null, .null, .null, .null])), (q5, .inr (1, [.ref q9_0, .ref q9_1])), (q9_0, .inl (cI, 255, .inl (fun j => nI ((fpo 255) j)))), (q9_1, .inl (cI, 256, .inl (fun j => nI ((flo 255) j)))), (q18, .inl (cI, 18, .inl (fun j => nI (z0 j))))] := hD
  refine lv_aload_n hx hb d_q_Checks_init_23 rfl (lv_at hl 0 rfl) ?_
  refine lv_bipush (v := nI 26) hx hb d_q_Checks_init_24 (by decide) ?_
  refine n_newi hx hb hts kw_47 hK hP hD hS hA (by decide) (by omega) (by omega) d_q_Checks_init_26 (fun q26 H hP hD hS => ?_)
  have hP : va_P D classes [(h, .inr (0, [.ref q5, .ref q18, .null, .null, .null, .null, .null, .null])), (q5, .inr (1, [.ref q9_0, .ref q9_1])), (q9_0, .inl (cI, 255, .inl (fun j => nI ((fpo 255) j)))), (q9_1, .inl (cI, 256, .inl (fun j => nI ((flo 255) j)))), (q18, .inl (cI, 18, .inl (fun j => nI (z0 j)))), (q26, .inl (cI, 26, .inl (fun j => nI (z0 j))))] H := hP
  have hD : va_D A [(h, .inr (0, [.ref q5, .ref q18, .null, .null, .null, .null, .null, .null])), (q5, .inr (1, [.ref q9_0, .ref q9_1])), (q9_0, .inl (cI, 255, .inl (fun j => nI ((fpo 255) j)))), (q9_1, .inl (cI, 256, .inl (fun j => nI ((flo 255) j)))), (q18, .inl (cI, 18, .inl (fun j => nI (z0 j)))), (q26, .inl (cI, 26, .inl (fun j => nI (z0 j))))] := hD
  have hRc : cells + 5 ≤ R.cells ∧ slots + 557 ≤ R.slots := ⟨by omega, by omega⟩
  refine va_putF (D := D) (ci := 0) (v := .ref q26) (ty := (.array .int)) (C := R_Checks) (T := F_Checks) (N := 8) hx hb hts (fun w h => List.mem_cons_of_mem _ (u_Checks_in w h)) t_Checks t_Checks_ok n_Checks hown hK hP hD hS 0 rfl rfl 2 (by decide) (hts _ (List.mem_cons_of_mem _ kw_110)) (fun _ h9 => h9) rfl hin rfl (by decide +kernel) rfl rfl (Nat.le_of_ble_eq_true rfl) d_q_Checks_init_28 (fun H locs hP hD hS => ?_)
  have hP : va_P D classes [(h, .inr (0, [.ref q5, .ref q18, .ref q26, .null, .null, .null, .null, .null])), (q5, .inr (1, [.ref q9_0, .ref q9_1])), (q9_0, .inl (cI, 255, .inl (fun j => nI ((fpo 255) j)))), (q9_1, .inl (cI, 256, .inl (fun j => nI ((flo 255) j)))), (q18, .inl (cI, 18, .inl (fun j => nI (z0 j)))), (q26, .inl (cI, 26, .inl (fun j => nI (z0 j))))] H := hP
  have hD : va_D A [(h, .inr (0, [.ref q5, .ref q18, .ref q26, .null, .null, .null, .null, .null])), (q5, .inr (1, [.ref q9_0, .ref q9_1])), (q9_0, .inl (cI, 255, .inl (fun j => nI ((fpo 255) j)))), (q9_1, .inl (cI, 256, .inl (fun j => nI ((flo 255) j)))), (q18, .inl (cI, 18, .inl (fun j => nI (z0 j)))), (q26, .inl (cI, 26, .inl (fun j => nI (z0 j))))] := hD
  refine lv_aload_n hx hb d_q_Checks_init_31 rfl (lv_at hl 0 rfl) ?_
  refine lv_bipush (v := nI 17) hx hb d_q_Checks_init_32 (by decide) ?_
  refine n_newi hx hb hts kw_47 hK hP hD hS hA (by decide) (by omega) (by omega) d_q_Checks_init_34 (fun q34 H hP hD hS => ?_)
  have hP : va_P D classes [(h, .inr (0, [.ref q5, .ref q18, .ref q26, .null, .null, .null, .null, .null])), (q5, .inr (1, [.ref q9_0, .ref q9_1])), (q9_0, .inl (cI, 255, .inl (fun j => nI ((fpo 255) j)))), (q9_1, .inl (cI, 256, .inl (fun j => nI ((flo 255) j)))), (q18, .inl (cI, 18, .inl (fun j => nI (z0 j)))), (q26, .inl (cI, 26, .inl (fun j => nI (z0 j)))), (q34, .inl (cI, 17, .inl (fun j => nI (z0 j))))] H := hP
  have hD : va_D A [(h, .inr (0, [.ref q5, .ref q18, .ref q26, .null, .null, .null, .null, .null])), (q5, .inr (1, [.ref q9_0, .ref q9_1])), (q9_0, .inl (cI, 255, .inl (fun j => nI ((fpo 255) j)))), (q9_1, .inl (cI, 256, .inl (fun j => nI ((flo 255) j)))), (q18, .inl (cI, 18, .inl (fun j => nI (z0 j)))), (q26, .inl (cI, 26, .inl (fun j => nI (z0 j)))), (q34, .inl (cI, 17, .inl (fun j => nI (z0 j))))] := hD
  have hRc : cells + 6 ≤ R.cells ∧ slots + 574 ≤ R.slots := ⟨by omega, by omega⟩
  refine va_putF (D := D) (ci := 0) (v := .ref q34) (ty := (.array .int)) (C := R_Checks) (T := F_Checks) (N := 8) hx hb hts (fun w h => List.mem_cons_of_mem _ (u_Checks_in w h)) t_Checks t_Checks_ok n_Checks hown hK hP hD hS 0 rfl rfl 3 (by decide) (hts _ (List.mem_cons_of_mem _ kw_111)) (fun _ h9 => h9) rfl hin rfl (by decide +kernel) rfl rfl (Nat.le_of_ble_eq_true rfl) d_q_Checks_init_36 (fun H locs hP hD hS => ?_)
  have hP : va_P D classes [(h, .inr (0, [.ref q5, .ref q18, .ref q26, .ref q34, .null, .null, .null, .null])), (q5, .inr (1, [.ref q9_0, .ref q9_1])), (q9_0, .inl (cI, 255, .inl (fun j => nI ((fpo 255) j)))), (q9_1, .inl (cI, 256, .inl (fun j => nI ((flo 255) j)))), (q18, .inl (cI, 18, .inl (fun j => nI (z0 j)))), (q26, .inl (cI, 26, .inl (fun j => nI (z0 j)))), (q34, .inl (cI, 17, .inl (fun j => nI (z0 j))))] H := hP
  have hD : va_D A [(h, .inr (0, [.ref q5, .ref q18, .ref q26, .ref q34, .null, .null, .null, .null])), (q5, .inr (1, [.ref q9_0, .ref q9_1])), (q9_0, .inl (cI, 255, .inl (fun j => nI ((fpo 255) j)))), (q9_1, .inl (cI, 256, .inl (fun j => nI ((flo 255) j)))), (q18, .inl (cI, 18, .inl (fun j => nI (z0 j)))), (q26, .inl (cI, 26, .inl (fun j => nI (z0 j)))), (q34, .inl (cI, 17, .inl (fun j => nI (z0 j))))] := hD
  refine lv_aload_n hx hb d_q_Checks_init_39 rfl (lv_at hl 0 rfl) ?_
  refine lv_bipush (v := nI 18) hx hb d_q_Checks_init_40 (by decide) ?_
  refine n_newi hx hb hts kw_47 hK hP hD hS hA (by decide) (by omega) (by omega) d_q_Checks_init_42 (fun q42 H hP hD hS => ?_)
  have hP : va_P D classes [(h, .inr (0, [.ref q5, .ref q18, .ref q26, .ref q34, .null, .null, .null, .null])), (q5, .inr (1, [.ref q9_0, .ref q9_1])), (q9_0, .inl (cI, 255, .inl (fun j => nI ((fpo 255) j)))), (q9_1, .inl (cI, 256, .inl (fun j => nI ((flo 255) j)))), (q18, .inl (cI, 18, .inl (fun j => nI (z0 j)))), (q26, .inl (cI, 26, .inl (fun j => nI (z0 j)))), (q34, .inl (cI, 17, .inl (fun j => nI (z0 j)))), (q42, .inl (cI, 18, .inl (fun j => nI (z0 j))))] H := hP
  have hD : va_D A [(h, .inr (0, [.ref q5, .ref q18, .ref q26, .ref q34, .null, .null, .null, .null])), (q5, .inr (1, [.ref q9_0, .ref q9_1])), (q9_0, .inl (cI, 255, .inl (fun j => nI ((fpo 255) j)))), (q9_1, .inl (cI, 256, .inl (fun j => nI ((flo 255) j)))), (q18, .inl (cI, 18, .inl (fun j => nI (z0 j)))), (q26, .inl (cI, 26, .inl (fun j => nI (z0 j)))), (q34, .inl (cI, 17, .inl (fun j => nI (z0 j)))), (q42, .inl (cI, 18, .inl (fun j => nI (z0 j))))] := hD
  have hRc : cells + 7 ≤ R.cells ∧ slots + 592 ≤ R.slots := ⟨by omega, by omega⟩
  refine va_putF (D := D) (ci := 0) (v := .ref q42) (ty := (.array .int)) (C := R_Checks) (T := F_Checks) (N := 8) hx hb hts (fun w h => List.mem_cons_of_mem _ (u_Checks_in w h)) t_Checks t_Checks_ok n_Checks hown hK hP hD hS 0 rfl rfl 4 (by decide) (hts _ (List.mem_cons_of_mem _ kw_112)) (fun _ h9 => h9) rfl hin rfl (by decide +kernel) rfl rfl (Nat.le_of_ble_eq_true rfl) d_q_Checks_init_44 (fun H locs hP hD hS => ?_)
  have hP : va_P D classes [(h, .inr (0, [.ref q5, .ref q18, .ref q26, .ref q34, .ref q42, .null, .null, .null])), (q5, .inr (1, [.ref q9_0, .ref q9_1])), (q9_0, .inl (cI, 255, .inl (fun j => nI ((fpo 255) j)))), (q9_1, .inl (cI, 256, .inl (fun j => nI ((flo 255) j)))), (q18, .inl (cI, 18, .inl (fun j => nI (z0 j)))), (q26, .inl (cI, 26, .inl (fun j => nI (z0 j)))), (q34, .inl (cI, 17, .inl (fun j => nI (z0 j)))), (q42, .inl (cI, 18, .inl (fun j => nI (z0 j))))] H := hP
  have hD : va_D A [(h, .inr (0, [.ref q5, .ref q18, .ref q26, .ref q34, .ref q42, .null, .null, .null])), (q5, .inr (1, [.ref q9_0, .ref q9_1])), (q9_0, .inl (cI, 255, .inl (fun j => nI ((fpo 255) j)))), (q9_1, .inl (cI, 256, .inl (fun j => nI ((flo 255) j)))), (q18, .inl (cI, 18, .inl (fun j => nI (z0 j)))), (q26, .inl (cI, 26, .inl (fun j => nI (z0 j)))), (q34, .inl (cI, 17, .inl (fun j => nI (z0 j)))), (q42, .inl (cI, 18, .inl (fun j => nI (z0 j))))] := hD
  refine lv_aload_n hx hb d_q_Checks_init_47 rfl (lv_at hl 0 rfl) ?_
  refine lv_bipush (v := nI 18) hx hb d_q_Checks_init_48 (by decide) ?_
  refine n_newi hx hb hts kw_47 hK hP hD hS hA (by decide) (by omega) (by omega) d_q_Checks_init_50 (fun q50 H hP hD hS => ?_)
  have hP : va_P D classes [(h, .inr (0, [.ref q5, .ref q18, .ref q26, .ref q34, .ref q42, .null, .null, .null])), (q5, .inr (1, [.ref q9_0, .ref q9_1])), (q9_0, .inl (cI, 255, .inl (fun j => nI ((fpo 255) j)))), (q9_1, .inl (cI, 256, .inl (fun j => nI ((flo 255) j)))), (q18, .inl (cI, 18, .inl (fun j => nI (z0 j)))), (q26, .inl (cI, 26, .inl (fun j => nI (z0 j)))), (q34, .inl (cI, 17, .inl (fun j => nI (z0 j)))), (q42, .inl (cI, 18, .inl (fun j => nI (z0 j)))), (q50, .inl (cI, 18, .inl (fun j => nI (z0 j))))] H := hP
  have hD : va_D A [(h, .inr (0, [.ref q5, .ref q18, .ref q26, .ref q34, .ref q42, .null, .null, .null])), (q5, .inr (1, [.ref q9_0, .ref q9_1])), (q9_0, .inl (cI, 255, .inl (fun j => nI ((fpo 255) j)))), (q9_1, .inl (cI, 256, .inl (fun j => nI ((flo 255) j)))), (q18, .inl (cI, 18, .inl (fun j => nI (z0 j)))), (q26, .inl (cI, 26, .inl (fun j => nI (z0 j)))), (q34, .inl (cI, 17, .inl (fun j => nI (z0 j)))), (q42, .inl (cI, 18, .inl (fun j => nI (z0 j)))), (q50, .inl (cI, 18, .inl (fun j => nI (z0 j))))] := hD
  have hRc : cells + 8 ≤ R.cells ∧ slots + 610 ≤ R.slots := ⟨by omega, by omega⟩
  refine va_putF (D := D) (ci := 0) (v := .ref q50) (ty := (.array .int)) (C := R_Checks) (T := F_Checks) (N := 8) hx hb hts (fun w h => List.mem_cons_of_mem _ (u_Checks_in w h)) t_Checks t_Checks_ok n_Checks hown hK hP hD hS 0 rfl rfl 5 (by decide) (hts _ (List.mem_cons_of_mem _ kw_113)) (fun _ h9 => h9) rfl hin rfl (by decide +kernel) rfl rfl (Nat.le_of_ble_eq_true rfl) d_q_Checks_init_52 (fun H locs hP hD hS => ?_)
  have hP : va_P D classes [(h, .inr (0, [.ref q5, .ref q18, .ref q26, .ref q34, .ref q42, .ref q50, .null, .null])), (q5, .inr (1, [.ref q9_0, .ref q9_1])), (q9_0, .inl (cI, 255, .inl (fun j => nI ((fpo 255) j)))), (q9_1, .inl (cI, 256, .inl (fun j => nI ((flo 255) j)))), (q18, .inl (cI, 18, .inl (fun j => nI (z0 j)))), (q26, .inl (cI, 26, .inl (fun j => nI (z0 j)))), (q34, .inl (cI, 17, .inl (fun j => nI (z0 j)))), (q42, .inl (cI, 18, .inl (fun j => nI (z0 j)))), (q50, .inl (cI, 18, .inl (fun j => nI (z0 j))))] H := hP
  have hD : va_D A [(h, .inr (0, [.ref q5, .ref q18, .ref q26, .ref q34, .ref q42, .ref q50, .null, .null])), (q5, .inr (1, [.ref q9_0, .ref q9_1])), (q9_0, .inl (cI, 255, .inl (fun j => nI ((fpo 255) j)))), (q9_1, .inl (cI, 256, .inl (fun j => nI ((flo 255) j)))), (q18, .inl (cI, 18, .inl (fun j => nI (z0 j)))), (q26, .inl (cI, 26, .inl (fun j => nI (z0 j)))), (q34, .inl (cI, 17, .inl (fun j => nI (z0 j)))), (q42, .inl (cI, 18, .inl (fun j => nI (z0 j)))), (q50, .inl (cI, 18, .inl (fun j => nI (z0 j))))] := hD
  refine lv_aload_n hx hb d_q_Checks_init_55 rfl (lv_at hl 0 rfl) ?_
  refine lv_bipush (v := nI 18) hx hb d_q_Checks_init_56 (by decide) ?_
  refine n_newi hx hb hts kw_47 hK hP hD hS hA (by decide) (by omega) (by omega) d_q_Checks_init_58 (fun q58 H hP hD hS => ?_)
  have hP : va_P D classes [(h, .inr (0, [.ref q5, .ref q18, .ref q26, .ref q34, .ref q42, .ref q50, .null, .null])), (q5, .inr (1, [.ref q9_0, .ref q9_1])), (q9_0, .inl (cI, 255, .inl (fun j => nI ((fpo 255) j)))), (q9_1, .inl (cI, 256, .inl (fun j => nI ((flo 255) j)))), (q18, .inl (cI, 18, .inl (fun j => nI (z0 j)))), (q26, .inl (cI, 26, .inl (fun j => nI (z0 j)))), (q34, .inl (cI, 17, .inl (fun j => nI (z0 j)))), (q42, .inl (cI, 18, .inl (fun j => nI (z0 j)))), (q50, .inl (cI, 18, .inl (fun j => nI (z0 j)))), (q58, .inl (cI, 18, .inl (fun j => nI (z0 j))))] H := hP
  have hD : va_D A [(h, .inr (0, [.ref q5, .ref q18, .ref q26, .ref q34, .ref q42, .ref q50, .null, .null])), (q5, .inr (1, [.ref q9_0, .ref q9_1])), (q9_0, .inl (cI, 255, .inl (fun j => nI ((fpo 255) j)))), (q9_1, .inl (cI, 256, .inl (fun j => nI ((flo 255) j)))), (q18, .inl (cI, 18, .inl (fun j => nI (z0 j)))), (q26, .inl (cI, 26, .inl (fun j => nI (z0 j)))), (q34, .inl (cI, 17, .inl (fun j => nI (z0 j)))), (q42, .inl (cI, 18, .inl (fun j => nI (z0 j)))), (q50, .inl (cI, 18, .inl (fun j => nI (z0 j)))), (q58, .inl (cI, 18, .inl (fun j => nI (z0 j))))] := hD
  have hRc : cells + 9 ≤ R.cells ∧ slots + 628 ≤ R.slots := ⟨by omega, by omega⟩
  refine va_putF (D := D) (ci := 0) (v := .ref q58) (ty := (.array .int)) (C := R_Checks) (T := F_Checks) (N := 8) hx hb hts (fun w h => List.mem_cons_of_mem _ (u_Checks_in w h)) t_Checks t_Checks_ok n_Checks hown hK hP hD hS 0 rfl rfl 6 (by decide) (hts _ (List.mem_cons_of_mem _ kw_114)) (fun _ h9 => h9) rfl hin rfl (by decide +kernel) rfl rfl (Nat.le_of_ble_eq_true rfl) d_q_Checks_init_60 (fun H locs hP hD hS => ?_)
  have hP : va_P D classes [(h, .inr (0, [.ref q5, .ref q18, .ref q26, .ref q34, .ref q42, .ref q50, .ref q58, .null])), (q5, .inr (1, [.ref q9_0, .ref q9_1])), (q9_0, .inl (cI, 255, .inl (fun j => nI ((fpo 255) j)))), (q9_1, .inl (cI, 256, .inl (fun j => nI ((flo 255) j)))), (q18, .inl (cI, 18, .inl (fun j => nI (z0 j)))), (q26, .inl (cI, 26, .inl (fun j => nI (z0 j)))), (q34, .inl (cI, 17, .inl (fun j => nI (z0 j)))), (q42, .inl (cI, 18, .inl (fun j => nI (z0 j)))), (q50, .inl (cI, 18, .inl (fun j => nI (z0 j)))), (q58, .inl (cI, 18, .inl (fun j => nI (z0 j))))] H := hP
  have hD : va_D A [(h, .inr (0, [.ref q5, .ref q18, .ref q26, .ref q34, .ref q42, .ref q50, .ref q58, .null])), (q5, .inr (1, [.ref q9_0, .ref q9_1])), (q9_0, .inl (cI, 255, .inl (fun j => nI ((fpo 255) j)))), (q9_1, .inl (cI, 256, .inl (fun j => nI ((flo 255) j)))), (q18, .inl (cI, 18, .inl (fun j => nI (z0 j)))), (q26, .inl (cI, 26, .inl (fun j => nI (z0 j)))), (q34, .inl (cI, 17, .inl (fun j => nI (z0 j)))), (q42, .inl (cI, 18, .inl (fun j => nI (z0 j)))), (q50, .inl (cI, 18, .inl (fun j => nI (z0 j)))), (q58, .inl (cI, 18, .inl (fun j => nI (z0 j))))] := hD
  refine lv_aload_n hx hb d_q_Checks_init_63 rfl (lv_at hl 0 rfl) ?_
  refine lv_bipush (v := nI 17) hx hb d_q_Checks_init_64 (by decide) ?_
  refine n_newi hx hb hts kw_47 hK hP hD hS hA (by decide) (by omega) (by omega) d_q_Checks_init_66 (fun q66 H hP hD hS => ?_)
  have hP : va_P D classes [(h, .inr (0, [.ref q5, .ref q18, .ref q26, .ref q34, .ref q42, .ref q50, .ref q58, .null])), (q5, .inr (1, [.ref q9_0, .ref q9_1])), (q9_0, .inl (cI, 255, .inl (fun j => nI ((fpo 255) j)))), (q9_1, .inl (cI, 256, .inl (fun j => nI ((flo 255) j)))), (q18, .inl (cI, 18, .inl (fun j => nI (z0 j)))), (q26, .inl (cI, 26, .inl (fun j => nI (z0 j)))), (q34, .inl (cI, 17, .inl (fun j => nI (z0 j)))), (q42, .inl (cI, 18, .inl (fun j => nI (z0 j)))), (q50, .inl (cI, 18, .inl (fun j => nI (z0 j)))), (q58, .inl (cI, 18, .inl (fun j => nI (z0 j)))), (q66, .inl (cI, 17, .inl (fun j => nI (z0 j))))] H := hP
  have hD : va_D A [(h, .inr (0, [.ref q5, .ref q18, .ref q26, .ref q34, .ref q42, .ref q50, .ref q58, .null])), (q5, .inr (1, [.ref q9_0, .ref q9_1])), (q9_0, .inl (cI, 255, .inl (fun j => nI ((fpo 255) j)))), (q9_1, .inl (cI, 256, .inl (fun j => nI ((flo 255) j)))), (q18, .inl (cI, 18, .inl (fun j => nI (z0 j)))), (q26, .inl (cI, 26, .inl (fun j => nI (z0 j)))), (q34, .inl (cI, 17, .inl (fun j => nI (z0 j)))), (q42, .inl (cI, 18, .inl (fun j => nI (z0 j)))), (q50, .inl (cI, 18, .inl (fun j => nI (z0 j)))), (q58, .inl (cI, 18, .inl (fun j => nI (z0 j)))), (q66, .inl (cI, 17, .inl (fun j => nI (z0 j))))] := hD
  have hRc : cells + 10 ≤ R.cells ∧ slots + 645 ≤ R.slots := ⟨by omega, by omega⟩
  refine va_putF (D := D) (ci := 0) (v := .ref q66) (ty := (.array .int)) (C := R_Checks) (T := F_Checks) (N := 8) hx hb hts (fun w h => List.mem_cons_of_mem _ (u_Checks_in w h)) t_Checks t_Checks_ok n_Checks hown hK hP hD hS 0 rfl rfl 7 (by decide) (hts _ (List.mem_cons_of_mem _ kw_115)) (fun _ h9 => h9) rfl hin rfl (by decide +kernel) rfl rfl (Nat.le_of_ble_eq_true rfl) d_q_Checks_init_68 (fun H locs hP hD hS => ?_)
  have hP : va_P D classes [(h, .inr (0, [.ref q5, .ref q18, .ref q26, .ref q34, .ref q42, .ref q50, .ref q58, .ref q66])), (q5, .inr (1, [.ref q9_0, .ref q9_1])), (q9_0, .inl (cI, 255, .inl (fun j => nI ((fpo 255) j)))), (q9_1, .inl (cI, 256, .inl (fun j => nI ((flo 255) j)))), (q18, .inl (cI, 18, .inl (fun j => nI (z0 j)))), (q26, .inl (cI, 26, .inl (fun j => nI (z0 j)))), (q34, .inl (cI, 17, .inl (fun j => nI (z0 j)))), (q42, .inl (cI, 18, .inl (fun j => nI (z0 j)))), (q50, .inl (cI, 18, .inl (fun j => nI (z0 j)))), (q58, .inl (cI, 18, .inl (fun j => nI (z0 j)))), (q66, .inl (cI, 17, .inl (fun j => nI (z0 j))))] H := hP
  have hD : va_D A [(h, .inr (0, [.ref q5, .ref q18, .ref q26, .ref q34, .ref q42, .ref q50, .ref q58, .ref q66])), (q5, .inr (1, [.ref q9_0, .ref q9_1])), (q9_0, .inl (cI, 255, .inl (fun j => nI ((fpo 255) j)))), (q9_1, .inl (cI, 256, .inl (fun j => nI ((flo 255) j)))), (q18, .inl (cI, 18, .inl (fun j => nI (z0 j)))), (q26, .inl (cI, 26, .inl (fun j => nI (z0 j)))), (q34, .inl (cI, 17, .inl (fun j => nI (z0 j)))), (q42, .inl (cI, 18, .inl (fun j => nI (z0 j)))), (q50, .inl (cI, 18, .inl (fun j => nI (z0 j)))), (q58, .inl (cI, 18, .inl (fun j => nI (z0 j)))), (q66, .inl (cI, 17, .inl (fun j => nI (z0 j))))] := hD
  exact kr q5 q9_0 q9_1 q18 q26 q34 q42 q50 q58 q66 _ ls H locs d_q_Checks_init_71 (hP.sub [0, 1, 2, 3, 4, 5, 6, 7, 8, 9, 10] rfl) (hD.sub [0, 1, 2, 3, 4, 5, 6, 7, 8, 9, 10] rfl rfl) hS
set_option maxHeartbeats 4000000 in
set_option maxRecDepth 100000 in
theorem c_q_Checks_init (l : Launch) (D : va_G) (cI cC : ClassId) (h : Nat) (sz : Nat) : Met l y_q_Checks_init (cd_q_Checks_init :: WS) { frames := 2, cells := 10, slots := 645, locals := 34 } (va_Pc [.ref h] (wP D [(h, .inr (0, [.null, .null, .null, .null, .null, .null, .null, .null]))] [(cI, .int), (cC, .char)] sz)) (cQ D (fun u => [(h, .inr (0, [.ref (u 0), .ref (u 3), .ref (u 4), .ref (u 5), .ref (u 6), .ref (u 7), .ref (u 8), .ref (u 9)])), ((u 0), .inr (1, [.ref (u 1), .ref (u 2)])), ((u 1), .inl (cI, 255, .inl (fun j => nI ((fpo 255) j)))), ((u 2), .inl (cI, 256, .inl (fun j => nI ((flo 255) j)))), ((u 3), .inl (cI, 18, .inl (fun j => nI (z0 j)))), ((u 4), .inl (cI, 26, .inl (fun j => nI (z0 j)))), ((u 5), .inl (cI, 17, .inl (fun j => nI (z0 j)))), ((u 6), .inl (cI, 18, .inl (fun j => nI (z0 j)))), ((u 7), .inl (cI, 18, .inl (fun j => nI (z0 j)))), ((u 8), .inl (cI, 18, .inl (fun j => nI (z0 j)))), ((u 9), .inl (cI, 17, .inl (fun j => nI (z0 j))))]) [(h, .inr (0, [.null, .null, .null, .null, .null, .null, .null, .null]))] sz) 10 645 (va_A [(h, .inr (0, [.null, .null, .null, .null, .null, .null, .null, .null]))] sz) := by
  refine Met.ofW (cc := b_q_Checks_init) (maxL := 1) (ret := none) (by decide) rfl ?_
  intro p e s m args below meth c s₁ B hml hv0
  obtain ⟨rfl, hP, hK, hD0, hsz⟩ := hv0
  have hts := atoms_spec (ws := cd_q_Checks_init :: WS) B.pre
  have hown : s.vm.findClass R_Checks = some m.cls := findClass_of_methodNamed B.named
  have hlocks := B.notSynchronized
  have hin : meth.name = "<init>" := (name_of_methodNamed B.named B.method).1
  subst hsz
  have hD := hD0.self (sz := s.heap.size)
  have hl := lv_entry ([.ref h]) (n := 1) (Nat.le_of_ble_eq_true rfl)
  rw [lg_entry_eq]
  generalize (lg_sl ([.ref h]) ++ List.replicate (1 - (lg_sl ([.ref h])).length) Slot.unset).toArray = ls at hl ⊢
  refine bd_q_Checks_init cI cC h ⟨B.exec, B.bytes, hml, hown, hts⟩ (Nat.le_refl _) (Nat.le_refl _) ⟨Nat.le_of_eq (Nat.zero_add _), Nat.le_of_eq (Nat.zero_add _)⟩ hin hK (fun q h => Or.inr h) (fun q5 q9_0 q9_1 q18 q26 q34 q42 q50 q58 q66 pc ls H locs hd hP hD hS => ?_) ls _ _ hl hP hD (va_S.rf)
  exact W.vret B.exec B.bytes B.returns (fun t ht _ => ⟨⟨(fun k => match k with | 0 => q5 | 1 => q9_0 | 2 => q9_1 | 3 => q18 | 4 => q26 | 5 => q34 | 6 => q42 | 7 => q50 | 8 => q58 | 9 => q66 | _ => 0), rfl, trivial, by have h9 := hP; rw [← ht] at h9; exact h9, hD⟩, hS.F ht⟩) hS.2.2 hd
end
section
theorem d_q_Layout_init_0 : decode b_q_Layout_init 0 = .ok (.aload_n 0, 1) := by decide +kernel
theorem d_q_Layout_init_1 : decode b_q_Layout_init 1 = .ok (.invokespecial 3, 3) := by decide +kernel
theorem d_q_Layout_init_4 : decode b_q_Layout_init 4 = .ok (.new 9, 3) := by decide +kernel
theorem d_q_Layout_init_7 : decode b_q_Layout_init 7 = .ok (.dup, 1) := by decide +kernel
theorem d_q_Layout_init_8 : decode b_q_Layout_init 8 = .ok (.invokespecial 11, 3) := by decide +kernel
theorem d_q_Layout_init_11 : decode b_q_Layout_init 11 = .ok (.astore_n 1, 1) := by decide +kernel
theorem d_q_Layout_init_12 : decode b_q_Layout_init 12 = .ok (.aload_n 1, 1) := by decide +kernel
theorem d_q_Layout_init_13 : decode b_q_Layout_init 13 = .ok (.iconst 0, 1) := by decide +kernel
theorem d_q_Layout_init_14 : decode b_q_Layout_init 14 = .ok (.iconst 0, 1) := by decide +kernel
theorem d_q_Layout_init_15 : decode b_q_Layout_init 15 = .ok (.invokestatic 12, 3) := by decide +kernel
theorem d_q_Layout_init_18 : decode b_q_Layout_init 18 = .ok (.aload_n 1, 1) := by decide +kernel
theorem d_q_Layout_init_19 : decode b_q_Layout_init 19 = .ok (.iconst 0, 1) := by decide +kernel
theorem d_q_Layout_init_20 : decode b_q_Layout_init 20 = .ok (.bipush 14, 2) := by decide +kernel
theorem d_q_Layout_init_22 : decode b_q_Layout_init 22 = .ok (.invokestatic 12, 3) := by decide +kernel
theorem d_q_Layout_init_25 : decode b_q_Layout_init 25 = .ok (.aload_n 1, 1) := by decide +kernel
theorem d_q_Layout_init_26 : decode b_q_Layout_init 26 = .ok (.bipush 14, 2) := by decide +kernel
theorem d_q_Layout_init_28 : decode b_q_Layout_init 28 = .ok (.iconst 0, 1) := by decide +kernel
theorem d_q_Layout_init_29 : decode b_q_Layout_init 29 = .ok (.invokestatic 12, 3) := by decide +kernel
theorem d_q_Layout_init_32 : decode b_q_Layout_init 32 = .ok (.aload_n 1, 1) := by decide +kernel
theorem d_q_Layout_init_33 : decode b_q_Layout_init 33 = .ok (.invokestatic 18, 3) := by decide +kernel
theorem d_q_Layout_init_36 : decode b_q_Layout_init 36 = .ok (.aload_n 0, 1) := by decide +kernel
theorem d_q_Layout_init_37 : decode b_q_Layout_init 37 = .ok (.bipush 21, 2) := by decide +kernel
theorem d_q_Layout_init_39 : decode b_q_Layout_init 39 = .ok (.newarray .int, 2) := by decide +kernel
theorem d_q_Layout_init_41 : decode b_q_Layout_init 41 = .ok (.putfield 22, 3) := by decide +kernel
theorem d_q_Layout_init_44 : decode b_q_Layout_init 44 = .ok (.iconst 0, 1) := by decide +kernel
theorem d_q_Layout_init_45 : decode b_q_Layout_init 45 = .ok (.istore_n 2, 1) := by decide +kernel
theorem d_q_Layout_init_46 : decode b_q_Layout_init 46 = .ok (.iload_n 2, 1) := by decide +kernel
theorem d_q_Layout_init_47 : decode b_q_Layout_init 47 = .ok (.bipush 21, 2) := by decide +kernel
theorem d_q_Layout_init_49 : decode b_q_Layout_init 49 = .ok (.if_icmp .ge 20, 3) := by decide +kernel
theorem d_q_Layout_init_52 : decode b_q_Layout_init 52 = .ok (.aload_n 0, 1) := by decide +kernel
theorem d_q_Layout_init_53 : decode b_q_Layout_init 53 = .ok (.getfield 22, 3) := by decide +kernel
theorem d_q_Layout_init_56 : decode b_q_Layout_init 56 = .ok (.iload_n 2, 1) := by decide +kernel
theorem d_q_Layout_init_57 : decode b_q_Layout_init 57 = .ok (.aload_n 1, 1) := by decide +kernel
theorem d_q_Layout_init_58 : decode b_q_Layout_init 58 = .ok (.iload_n 2, 1) := by decide +kernel
theorem d_q_Layout_init_59 : decode b_q_Layout_init 59 = .ok (.invokevirtual 26, 3) := by decide +kernel
theorem d_q_Layout_init_62 : decode b_q_Layout_init 62 = .ok (.iastore, 1) := by decide +kernel
theorem d_q_Layout_init_63 : decode b_q_Layout_init 63 = .ok (.iinc 2 1, 3) := by decide +kernel
theorem d_q_Layout_init_66 : decode b_q_Layout_init 66 = .ok (.goto (-20), 3) := by decide +kernel
theorem d_q_Layout_init_69 : decode b_q_Layout_init 69 = .ok (.aload_n 0, 1) := by decide +kernel
theorem d_q_Layout_init_70 : decode b_q_Layout_init 70 = .ok (.sipush 208, 3) := by decide +kernel
theorem d_q_Layout_init_73 : decode b_q_Layout_init 73 = .ok (.newarray .int, 2) := by decide +kernel
theorem d_q_Layout_init_75 : decode b_q_Layout_init 75 = .ok (.putfield 30, 3) := by decide +kernel
theorem d_q_Layout_init_78 : decode b_q_Layout_init 78 = .ok (.aload_n 0, 1) := by decide +kernel
theorem d_q_Layout_init_79 : decode b_q_Layout_init 79 = .ok (.sipush 208, 3) := by decide +kernel
theorem d_q_Layout_init_82 : decode b_q_Layout_init 82 = .ok (.newarray .int, 2) := by decide +kernel
theorem d_q_Layout_init_84 : decode b_q_Layout_init 84 = .ok (.putfield 33, 3) := by decide +kernel
theorem d_q_Layout_init_87 : decode b_q_Layout_init 87 = .ok (.aload_n 0, 1) := by decide +kernel
theorem d_q_Layout_init_88 : decode b_q_Layout_init 88 = .ok (.getfield 30, 3) := by decide +kernel
theorem d_q_Layout_init_91 : decode b_q_Layout_init 91 = .ok (.aload_n 0, 1) := by decide +kernel
theorem d_q_Layout_init_92 : decode b_q_Layout_init 92 = .ok (.getfield 33, 3) := by decide +kernel
theorem d_q_Layout_init_95 : decode b_q_Layout_init 95 = .ok (.invokestatic 36, 3) := by decide +kernel
theorem d_q_Layout_init_98 : decode b_q_Layout_init 98 = .ok (.return_, 1) := by decide +kernel
end
section
variable {p : Program} {l : Launch} {e : Env} {R : Room} {s : State} {m : MethodId} {args : Array Value} {below : List Frame} {meth : Method} {c : Code} {cells slots : Nat} {Q : State → Prop} {A : Nat → Prop} {H0 : Heap} {D : va_G}
set_option maxHeartbeats 1000000 in
set_option maxRecDepth 100000 in
theorem lp_q_Layout_init_46 (cI cC : ClassId) (h : Nat) (S : CallFix p m c b_q_Layout_init 3 s args (cd_q_Layout_init :: WS) R_Layout) (hRf : 2 ≤ R.frames) (hRl : 49 ≤ R.locals) (hRc : cells ≤ R.cells ∧ slots ≤ R.slots) (hK : va_K D classes [(cI, .int), (cC, .char)] s) (hA : ∀ q, H0.size ≤ q → A q) (q4 q8_0 q39 : Nat) (kx : ∀ (ls : Array Slot) (H : Heap) (locs : List Loc), lv_has ls 3 [(0, .ref h), (1, .ref q4), (2, .int (nI 21))] → va_P D classes [(h, .inr (3, [.ref q39, .null, .null])), (q4, .inr (2, [.ref q8_0])), (q8_0, .inl (cI, 21, .inl (fun j => nI (fxR j)))), (q39, .inl (cI, 21, .inl (fun j => nI ((lyL fxR 21) j))))] H → va_D A [(h, .inr (3, [.ref q39, .null, .null])), (q4, .inr (2, [.ref q8_0])), (q8_0, .inl (cI, 21, .inl (fun j => nI (fxR j)))), (q39, .inl (cI, 21, .inl (fun j => nI ((lyL fxR 21) j))))] → va_S A H0 H locs → W p l e R s m args below meth c H locs cells slots Q (F0 m 69 ls [])) :
    ∀ k, k ≤ 21 → ∀ (ls : Array Slot) (H : Heap) (locs : List Loc), lv_has ls 3 [(0, .ref h), (1, .ref q4), (2, .int (nI k))] → va_P D classes [(h, .inr (3, [.ref q39, .null, .null])), (q4, .inr (2, [.ref q8_0])), (q8_0, .inl (cI, 21, .inl (fun j => nI (fxR j)))), (q39, .inl (cI, 21, .inl (fun j => nI ((lyL fxR k) j))))] H → va_D A [(h, .inr (3, [.ref q39, .null, .null])), (q4, .inr (2, [.ref q8_0])), (q8_0, .inl (cI, 21, .inl (fun j => nI (fxR j)))), (q39, .inl (cI, 21, .inl (fun j => nI ((lyL fxR k) j))))] → va_S A H0 H locs → W p l e R s m args below meth c H locs cells slots Q (F0 m 46 ls []) := by
  obtain ⟨hx, hb, hml, hown, hts⟩ := id S
  refine up_loop (fun k hkk ih => ?_)
  intro ls H locs hl hP hD hS
  refine lv_iload_n hx hb d_q_Layout_init_46 rfl (lv_at hl 2 rfl) ?_
  refine lv_bipush (v := nI 21) hx hb d_q_Layout_init_47 (by decide) ?_
  refine n_icmp_ge hx hb d_q_Layout_init_49 (tgt := 69) rfl (by omega) (by omega) (fun g49 => ?_) (fun g49 => ?_)
  · skip
    obtain rfl : k = 21 := by omega
    exact kx ls H locs (lv_sub hl [0, 1, 2] rfl) hP hD hS
  · skip
    refine lv_aload_n hx hb d_q_Layout_init_52 rfl (lv_at hl 0 rfl) ?_
    refine n_get (C := R_Layout) (T := F_Layout) (N := 3) (v := .ref q39) hx hb hts u_Layout_in hown hK hP 0 rfl rfl 0 (by decide) kw_79 rfl d_q_Layout_init_53 ?_
    refine lv_iload_n hx hb d_q_Layout_init_56 rfl (lv_at hl 2 rfl) ?_
    refine lv_aload_n hx hb d_q_Layout_init_57 rfl (lv_at hl 1 rfl) ?_
    refine lv_iload_n hx hb d_q_Layout_init_58 rfl (lv_at hl 2 rfl) ?_
    refine q_readV (n := 1) (As := [.int (nI k)]) (rest := [.int (nI k), .ref q39]) (wc := [(q4, .inr (2, [.ref q8_0])), (q8_0, .inl (cI, 21, .inl (fun j => nI (fxR j))))]) S (c_q_Grid_rowBits l D cI cC q4 q8_0 fxR k (by omega)) hK hP (q0 := 1) rfl rfl [1, 2] rfl (q_goodV kw_69 kw_70 kw_71 kw_2 kw_72) (by decide +kernel) rfl rfl rfl ⟨Nat.le_trans (Nat.le_of_ble_eq_true rfl) hRf, Nat.le_trans (Nat.le_of_ble_eq_true rfl) hRl⟩ rfl hl.1 rfl (Nat.le_of_ble_eq_true rfl) d_q_Layout_init_59 hRc hS (fun H locs hP hS => ?_)
    refine n_iast hx hb hK hP hD hS 3 0 rfl rfl (by omega) (by decide) d_q_Layout_init_62 (fun H locs hP hD hS => ?_)
    have hP : va_P D classes [(h, .inr (3, [.ref q39, .null, .null])), (q4, .inr (2, [.ref q8_0])), (q8_0, .inl (cI, 21, .inl (fun j => nI (fxR j)))), (q39, .inl (cI, 21, .inl (fun j => nI ((va_up (lyL fxR k) k (fxR k)) j))))] H := hP
    have hD : va_D A [(h, .inr (3, [.ref q39, .null, .null])), (q4, .inr (2, [.ref q8_0])), (q8_0, .inl (cI, 21, .inl (fun j => nI (fxR j)))), (q39, .inl (cI, 21, .inl (fun j => nI ((va_up (lyL fxR k) k (fxR k)) j))))] := hD
    rw [show va_up (lyL fxR k) k (fxR k) = lyL fxR (k + 1) from rfl] at hP hD
    refine lv_iinc (k := 2) (v := nI (k + 1)) hx hb d_q_Layout_init_63 hl rfl (nx_inc k 1) (Nat.le_of_ble_eq_true rfl) rfl (fun ls hl => ?_)
    have hl : lv_has ls 3 [(2, .int (nI (k + 1))), (0, .ref h), (1, .ref q4)] := hl
    refine lv_goto hx hb d_q_Layout_init_66 (tgt := 46) rfl ?_
    exact ih (by omega) ls H locs (lv_sub hl [1, 2, 0] rfl) hP hD hS
set_option maxHeartbeats 4000000 in
set_option maxRecDepth 100000 in
theorem bd_q_Layout_init (cI cC : ClassId) (h : Nat) (S : CallFix p m c b_q_Layout_init 3 s args (cd_q_Layout_init :: WS) R_Layout) (hRf : 2 ≤ R.frames) (hRl : 49 ≤ R.locals) (hRm : cells + 5 ≤ R.cells ∧ slots + 459 ≤ R.slots) (hin : meth.name = "<init>") (hK : va_K D classes [(cI, .int), (cC, .char)] s) (hA : ∀ q, H0.size ≤ q → A q) (kr : ∀ (q4 q8_0 q39 q73 q82 : Nat) (pc : Nat) (ls : Array Slot) (H : Heap) (locs : List Loc), decode b_q_Layout_init pc = .ok (.return_, 1) → va_P D classes [(h, .inr (3, [.ref q39, .ref q73, .ref q82])), (q39, .inl (cI, 21, .inl (fun j => nI ((lyL fxR 21) j)))), (q73, .inl (cI, 208, .inl (fun j => nI (((fuI z0 z0 10).2.1) j)))), (q82, .inl (cI, 208, .inl (fun j => nI (((fuI z0 z0 10).2.2) j))))] H → va_D A [(h, .inr (3, [.ref q39, .ref q73, .ref q82])), (q39, .inl (cI, 21, .inl (fun j => nI ((lyL fxR 21) j)))), (q73, .inl (cI, 208, .inl (fun j => nI (((fuI z0 z0 10).2.1) j)))), (q82, .inl (cI, 208, .inl (fun j => nI (((fuI z0 z0 10).2.2) j))))] → va_S A H0 H locs → W p l e R s m args below meth c H locs (cells + 5) (slots + 459) Q (F0 m pc ls [])) : ∀ (ls : Array Slot) (H : Heap) (locs : List Loc), lv_has ls 3 [(0, .ref h)] → va_P D classes [(h, .inr (3, [.null, .null, .null]))] H → va_D A [(h, .inr (3, [.null, .null, .null]))] → va_S A H0 H locs → W p l e R s m args below meth c H locs cells slots Q (F0 m 0 ls []) := by
  obtain ⟨hx, hb, hml, hown, hts⟩ := id S
  have hRc : cells ≤ R.cells ∧ slots ≤ R.slots := ⟨by omega, by omega⟩
  intro ls H locs hl hP hD hS
  refine lv_aload_n hx hb d_q_Layout_init_0 rfl (lv_at hl 0 rfl) ?_
  refine W.objInit hx hb hown (hts _ (List.mem_cons_of_mem _ kw_53)) (hts _ (List.mem_cons_of_mem _ kw_34)) (hts _ (List.mem_cons_of_mem _ kw_35)) rfl (by rw [hml]; exact hl.1) rfl d_q_Layout_init_1 (Nat.le_trans (Nat.le_of_ble_eq_true rfl) hRf) (Nat.le_trans (Nat.le_of_ble_eq_true rfl) hRl) ?_
  refine W.eq (g2 := F0 m 4 ls []) rfl ?_
  refine va_new (D := D) (ci := 2) (fs := [.null]) (C := R_Grid) (T := F_Grid) (N := 1) hx hb hts (fun w h => List.mem_cons_of_mem _ (u_Grid_in w h)) t_Grid t_Grid_ok hown (hts _ (List.mem_cons_of_mem _ kw_54)) (hts _ (List.mem_cons_of_mem _ kw_37)) (hts _ (List.mem_cons_of_mem _ kw_2)) hK hP hD hS hA rfl (fun j hj => by rcases (show j = 0 by omega) with rfl <;> rfl) (by omega) (by omega) d_q_Layout_init_4 (fun q4 H hP hD hS => ?_)
  have hP : va_P D classes [(h, .inr (3, [.null, .null, .null])), (q4, .inr (2, [.null]))] H := hP
  have hD : va_D A [(h, .inr (3, [.null, .null, .null])), (q4, .inr (2, [.null]))] := hD
  have hRc : cells + 1 ≤ R.cells ∧ slots + 1 ≤ R.slots := ⟨by omega, by omega⟩
  refine lv_dup hx hb d_q_Layout_init_7 rfl ?_
  refine q_init (wc := [(q4, .inr (2, [.null]))]) (wr := [(h, .inr (3, [.null, .null, .null]))]) S (c_q_Grid_init l D cI cC q4 H.size) hK hP hD hA [1] [0] rfl rfl rfl rfl (by decide) kw_40 kw_2 (kw_55) kw_39 rfl (by decide +kernel) rfl rfl ⟨Nat.le_trans (Nat.le_of_ble_eq_true rfl) hRf, Nat.le_trans (Nat.le_of_ble_eq_true rfl) hRl⟩ hl.1 (Nat.le_of_ble_eq_true rfl) d_q_Layout_init_8 ⟨by omega, by omega⟩ hS (fun u8 H locs hP hD hS => ?_)
  have hP : va_P D classes [(h, .inr (3, [.null, .null, .null])), (q4, .inr (2, [.ref (u8 0)])), ((u8 0), .inl (cI, 21, .inl (fun j => nI (z0 j))))] H := hP
  have hD : va_D A [(h, .inr (3, [.null, .null, .null])), (q4, .inr (2, [.ref (u8 0)])), ((u8 0), .inl (cI, 21, .inl (fun j => nI (z0 j))))] := hD
  generalize u8 0 = q8_0 at hP hD
  have hP : va_P D classes [(h, .inr (3, [.null, .null, .null])), (q4, .inr (2, [.ref q8_0])), (q8_0, .inl (cI, 21, .inl (fun j => nI (z0 j))))] H := hP
  have hD : va_D A [(h, .inr (3, [.null, .null, .null])), (q4, .inr (2, [.ref q8_0])), (q8_0, .inl (cI, 21, .inl (fun j => nI (z0 j))))] := hD
  have hRc : cells + 2 ≤ R.cells ∧ slots + 22 ≤ R.slots := ⟨by omega, by omega⟩
  refine lv_astore_n hx hb d_q_Layout_init_11 rfl hl (Nat.le_of_ble_eq_true rfl) rfl (fun ls hl => ?_)
  have hl : lv_has ls 3 [(1, .ref q4), (0, .ref h)] := hl
  refine lv_aload_n hx hb d_q_Layout_init_12 rfl (lv_at hl 0 rfl) ?_
  refine lv_iconst (v := nI 0) hx hb d_q_Layout_init_13 (by decide) ?_
  refine lv_iconst (v := nI 0) hx hb d_q_Layout_init_14 (by decide) ?_
  refine q_writeSv (n := 3) (As := [.ref q4, .int (nI 0), .int (nI 0)]) (rest := []) (wc := [(q4, .inr (2, [.ref q8_0])), (q8_0, .inl (cI, 21, .inl (fun j => nI (z0 j))))]) (wr := [(h, .inr (3, [.null, .null, .null]))]) (w1 := [(q4, .inr (2, [.ref q8_0])), (q8_0, .inl (cI, 21, .inl (fun j => nI ((deI z0 0 0 7) j))))]) S (c_q_Layout_drawEye l D cI cC q4 q8_0 z0 0 0 (by omega) (by omega) H.size) hK hP hD hA [1, 2] [0] rfl rfl rfl rfl (by decide) rfl (q_goodS kw_56 kw_57 kw_3 kw_58) (by decide +kernel) rfl rfl ⟨Nat.le_trans (Nat.le_of_ble_eq_true rfl) hRf, Nat.le_trans (Nat.le_of_ble_eq_true rfl) hRl⟩ rfl hl.1 rfl (Nat.le_of_ble_eq_true rfl) d_q_Layout_init_15 hRc hS (fun H locs hP hD hS => ?_)
  replace hP : va_P D classes [(h, .inr (3, [.null, .null, .null])), (q4, .inr (2, [.ref q8_0])), (q8_0, .inl (cI, 21, .inl (fun j => nI ((deI z0 0 0 7) j))))] H := hP.sub [0, 1, 2] rfl
  replace hD : va_D A [(h, .inr (3, [.null, .null, .null])), (q4, .inr (2, [.ref q8_0])), (q8_0, .inl (cI, 21, .inl (fun j => nI ((deI z0 0 0 7) j))))] := hD.sub [0, 1, 2] rfl rfl
  obtain ⟨g15, hg15⟩ : ∃ g : Nat → Nat, g = deI z0 0 0 7 := ⟨_, rfl⟩
  rw [← hg15] at hP hD
  refine lv_aload_n hx hb d_q_Layout_init_18 rfl (lv_at hl 0 rfl) ?_
  refine lv_iconst (v := nI 0) hx hb d_q_Layout_init_19 (by decide) ?_
  refine lv_bipush (v := nI 14) hx hb d_q_Layout_init_20 (by decide) ?_
  refine q_writeSv (n := 3) (As := [.ref q4, .int (nI 0), .int (nI 14)]) (rest := []) (wc := [(q4, .inr (2, [.ref q8_0])), (q8_0, .inl (cI, 21, .inl (fun j => nI (g15 j))))]) (wr := [(h, .inr (3, [.null, .null, .null]))]) (w1 := [(q4, .inr (2, [.ref q8_0])), (q8_0, .inl (cI, 21, .inl (fun j => nI ((deI g15 0 14 7) j))))]) S (c_q_Layout_drawEye l D cI cC q4 q8_0 g15 0 14 (by omega) (by omega) H.size) hK hP hD hA [1, 2] [0] rfl rfl rfl rfl (by decide) rfl (q_goodS kw_56 kw_57 kw_3 kw_58) (by decide +kernel) rfl rfl ⟨Nat.le_trans (Nat.le_of_ble_eq_true rfl) hRf, Nat.le_trans (Nat.le_of_ble_eq_true rfl) hRl⟩ rfl hl.1 rfl (Nat.le_of_ble_eq_true rfl) d_q_Layout_init_22 hRc hS (fun H locs hP hD hS => ?_)
  replace hP : va_P D classes [(h, .inr (3, [.null, .null, .null])), (q4, .inr (2, [.ref q8_0])), (q8_0, .inl (cI, 21, .inl (fun j => nI ((deI g15 0 14 7) j))))] H := hP.sub [0, 1, 2] rfl
  replace hD : va_D A [(h, .inr (3, [.null, .null, .null])), (q4, .inr (2, [.ref q8_0])), (q8_0, .inl (cI, 21, .inl (fun j => nI ((deI g15 0 14 7) j))))] := hD.sub [0, 1, 2] rfl rfl
  obtain ⟨g22, hg22⟩ : ∃ g : Nat → Nat, g = deI g15 0 14 7 := ⟨_, rfl⟩
  rw [← hg22] at hP hD
  refine lv_aload_n hx hb d_q_Layout_init_25 rfl (lv_at hl 0 rfl) ?_
  refine lv_bipush (v := nI 14) hx hb d_q_Layout_init_26 (by decide) ?_
  refine lv_iconst (v := nI 0) hx hb d_q_Layout_init_28 (by decide) ?_
  refine q_writeSv (n := 3) (As := [.ref q4, .int (nI 14), .int (nI 0)]) (rest := []) (wc := [(q4, .inr (2, [.ref q8_0])), (q8_0, .inl (cI, 21, .inl (fun j => nI (g22 j))))]) (wr := [(h, .inr (3, [.null, .null, .null]))]) (w1 := [(q4, .inr (2, [.ref q8_0])), (q8_0, .inl (cI, 21, .inl (fun j => nI ((deI g22 14 0 7) j))))]) S (c_q_Layout_drawEye l D cI cC q4 q8_0 g22 14 0 (by omega) (by omega) H.size) hK hP hD hA [1, 2] [0] rfl rfl rfl rfl (by decide) rfl (q_goodS kw_56 kw_57 kw_3 kw_58) (by decide +kernel) rfl rfl ⟨Nat.le_trans (Nat.le_of_ble_eq_true rfl) hRf, Nat.le_trans (Nat.le_of_ble_eq_true rfl) hRl⟩ rfl hl.1 rfl (Nat.le_of_ble_eq_true rfl) d_q_Layout_init_29 hRc hS (fun H locs hP hD hS => ?_)
  replace hP : va_P D classes [(h, .inr (3, [.null, .null, .null])), (q4, .inr (2, [.ref q8_0])), (q8_0, .inl (cI, 21, .inl (fun j => nI ((deI g22 14 0 7) j))))] H := hP.sub [0, 1, 2] rfl
  replace hD : va_D A [(h, .inr (3, [.null, .null, .null])), (q4, .inr (2, [.ref q8_0])), (q8_0, .inl (cI, 21, .inl (fun j => nI ((deI g22 14 0 7) j))))] := hD.sub [0, 1, 2] rfl rfl
  obtain ⟨g29, hg29⟩ : ∃ g : Nat → Nat, g = deI g22 14 0 7 := ⟨_, rfl⟩
  rw [← hg29] at hP hD
  refine lv_aload_n hx hb d_q_Layout_init_32 rfl (lv_at hl 0 rfl) ?_
  refine q_writeSv (n := 1) (As := [.ref q4]) (rest := []) (wc := [(q4, .inr (2, [.ref q8_0])), (q8_0, .inl (cI, 21, .inl (fun j => nI (g29 j))))]) (wr := [(h, .inr (3, [.null, .null, .null]))]) (w1 := [(q4, .inr (2, [.ref q8_0])), (q8_0, .inl (cI, 21, .inl (fun j => nI ((va_up (ddL g29 3) 13 (ddL g29 3 13 ^^^ 2 ^ (20 - 8))) j))))]) S (c_q_Layout_drawDots l D cI cC q4 q8_0 g29 H.size) hK hP hD hA [1, 2] [0] rfl rfl rfl rfl (by decide) rfl (q_goodS kw_66 kw_67 kw_3 kw_68) (by decide +kernel) rfl rfl ⟨Nat.le_trans (Nat.le_of_ble_eq_true rfl) hRf, Nat.le_trans (Nat.le_of_ble_eq_true rfl) hRl⟩ rfl hl.1 rfl (Nat.le_of_ble_eq_true rfl) d_q_Layout_init_33 hRc hS (fun H locs hP hD hS => ?_)
  replace hP : va_P D classes [(h, .inr (3, [.null, .null, .null])), (q4, .inr (2, [.ref q8_0])), (q8_0, .inl (cI, 21, .inl (fun j => nI ((va_up (ddL g29 3) 13 (ddL g29 3 13 ^^^ 2 ^ (20 - 8))) j))))] H := hP.sub [0, 1, 2] rfl
  replace hD : va_D A [(h, .inr (3, [.null, .null, .null])), (q4, .inr (2, [.ref q8_0])), (q8_0, .inl (cI, 21, .inl (fun j => nI ((va_up (ddL g29 3) 13 (ddL g29 3 13 ^^^ 2 ^ (20 - 8))) j))))] := hD.sub [0, 1, 2] rfl rfl
  rw [show va_up (ddL g29 3) 13 (ddL g29 3 13 ^^^ 2 ^ (20 - 8)) = fxR from (by subst hg29; subst hg22; subst hg15; rfl)] at hP hD
  refine lv_aload_n hx hb d_q_Layout_init_36 rfl (lv_at hl 1 rfl) ?_
  refine lv_bipush (v := nI 21) hx hb d_q_Layout_init_37 (by decide) ?_
  refine n_newi hx hb hts kw_47 hK hP hD hS hA (by decide) (by omega) (by omega) d_q_Layout_init_39 (fun q39 H hP hD hS => ?_)
  have hP : va_P D classes [(h, .inr (3, [.null, .null, .null])), (q4, .inr (2, [.ref q8_0])), (q8_0, .inl (cI, 21, .inl (fun j => nI (fxR j)))), (q39, .inl (cI, 21, .inl (fun j => nI (z0 j))))] H := hP
  have hD : va_D A [(h, .inr (3, [.null, .null, .null])), (q4, .inr (2, [.ref q8_0])), (q8_0, .inl (cI, 21, .inl (fun j => nI (fxR j)))), (q39, .inl (cI, 21, .inl (fun j => nI (z0 j))))] := hD
  have hRc : cells + 3 ≤ R.cells ∧ slots + 43 ≤ R.slots := ⟨by omega, by omega⟩
  refine va_putF (D := D) (ci := 3) (v := .ref q39) (ty := (.array .int)) (C := R_Layout) (T := F_Layout) (N := 3) hx hb hts (fun w h => List.mem_cons_of_mem _ (u_Layout_in w h)) t_Layout t_Layout_ok n_Layout hown hK hP hD hS 0 rfl rfl 0 (by decide) (hts _ (List.mem_cons_of_mem _ kw_79)) (fun _ h9 => h9) rfl hin rfl (by decide +kernel) rfl rfl (Nat.le_of_ble_eq_true rfl) d_q_Layout_init_41 (fun H locs hP hD hS => ?_)
  have hP : va_P D classes [(h, .inr (3, [.ref q39, .null, .null])), (q4, .inr (2, [.ref q8_0])), (q8_0, .inl (cI, 21, .inl (fun j => nI (fxR j)))), (q39, .inl (cI, 21, .inl (fun j => nI (z0 j))))] H := hP
  have hD : va_D A [(h, .inr (3, [.ref q39, .null, .null])), (q4, .inr (2, [.ref q8_0])), (q8_0, .inl (cI, 21, .inl (fun j => nI (fxR j)))), (q39, .inl (cI, 21, .inl (fun j => nI (z0 j))))] := hD
  refine lv_iconst (v := nI 0) hx hb d_q_Layout_init_44 (by decide) ?_
  refine lv_istore_n hx hb d_q_Layout_init_45 rfl hl (Nat.le_of_ble_eq_true rfl) rfl (fun ls hl => ?_)
  have hl : lv_has ls 3 [(2, .int (nI 0)), (1, .ref q4), (0, .ref h)] := hl
  refine lp_q_Layout_init_46 cI cC h S hRf hRl hRc hK hA q4 q8_0 q39 (fun ls H locs hl hP hD hS => ?_) 0 (by omega) ls H locs (lv_sub hl [2, 1, 0] rfl) hP hD hS
  refine lv_aload_n hx hb d_q_Layout_init_69 rfl (lv_at hl 0 rfl) ?_
  refine lv_sipush (v := nI 208) hx hb d_q_Layout_init_70 (by decide) ?_
  refine n_newi hx hb hts kw_47 hK hP hD hS hA (by decide) (by omega) (by omega) d_q_Layout_init_73 (fun q73 H hP hD hS => ?_)
  have hP : va_P D classes [(h, .inr (3, [.ref q39, .null, .null])), (q4, .inr (2, [.ref q8_0])), (q8_0, .inl (cI, 21, .inl (fun j => nI (fxR j)))), (q39, .inl (cI, 21, .inl (fun j => nI ((lyL fxR 21) j)))), (q73, .inl (cI, 208, .inl (fun j => nI (z0 j))))] H := hP
  have hD : va_D A [(h, .inr (3, [.ref q39, .null, .null])), (q4, .inr (2, [.ref q8_0])), (q8_0, .inl (cI, 21, .inl (fun j => nI (fxR j)))), (q39, .inl (cI, 21, .inl (fun j => nI ((lyL fxR 21) j)))), (q73, .inl (cI, 208, .inl (fun j => nI (z0 j))))] := hD
  have hRc : cells + 4 ≤ R.cells ∧ slots + 251 ≤ R.slots := ⟨by omega, by omega⟩
  refine va_putF (D := D) (ci := 3) (v := .ref q73) (ty := (.array .int)) (C := R_Layout) (T := F_Layout) (N := 3) hx hb hts (fun w h => List.mem_cons_of_mem _ (u_Layout_in w h)) t_Layout t_Layout_ok n_Layout hown hK hP hD hS 0 rfl rfl 1 (by decide) (hts _ (List.mem_cons_of_mem _ kw_80)) (fun _ h9 => h9) rfl hin rfl (by decide +kernel) rfl rfl (Nat.le_of_ble_eq_true rfl) d_q_Layout_init_75 (fun H locs hP hD hS => ?_)
  have hP : va_P D classes [(h, .inr (3, [.ref q39, .ref q73, .null])), (q4, .inr (2, [.ref q8_0])), (q8_0, .inl (cI, 21, .inl (fun j => nI (fxR j)))), (q39, .inl (cI, 21, .inl (fun j => nI ((lyL fxR 21) j)))), (q73, .inl (cI, 208, .inl (fun j => nI (z0 j))))] H := hP
  have hD : va_D A [(h, .inr (3, [.ref q39, .ref q73, .null])), (q4, .inr (2, [.ref q8_0])), (q8_0, .inl (cI, 21, .inl (fun j => nI (fxR j)))), (q39, .inl (cI, 21, .inl (fun j => nI ((lyL fxR 21) j)))), (q73, .inl (cI, 208, .inl (fun j => nI (z0 j))))] := hD
  refine lv_aload_n hx hb d_q_Layout_init_78 rfl (lv_at hl 0 rfl) ?_
  refine lv_sipush (v := nI 208) hx hb d_q_Layout_init_79 (by decide) ?_
  refine n_newi hx hb hts kw_47 hK hP hD hS hA (by decide) (by omega) (by omega) d_q_Layout_init_82 (fun q82 H hP hD hS => ?_)
  have hP : va_P D classes [(h, .inr (3, [.ref q39, .ref q73, .null])), (q4, .inr (2, [.ref q8_0])), (q8_0, .inl (cI, 21, .inl (fun j => nI (fxR j)))), (q39, .inl (cI, 21, .inl (fun j => nI ((lyL fxR 21) j)))), (q73, .inl (cI, 208, .inl (fun j => nI (z0 j)))), (q82, .inl (cI, 208, .inl (fun j => nI (z0 j))))] H := hP
  have hD : va_D A [(h, .inr (3, [.ref q39, .ref q73, .null])), (q4, .inr (2, [.ref q8_0])), (q8_0, .inl (cI, 21, .inl (fun j => nI (fxR j)))), (q39, .inl (cI, 21, .inl (fun j => nI ((lyL fxR 21) j)))), (q73, .inl (cI, 208, .inl (fun j => nI (z0 j)))), (q82, .inl (cI, 208, .inl (fun j => nI (z0 j))))] := hD
  have hRc : cells + 5 ≤ R.cells ∧ slots + 459 ≤ R.slots := ⟨by omega, by omega⟩
  refine va_putF (D := D) (ci := 3) (v := .ref q82) (ty := (.array .int)) (C := R_Layout) (T := F_Layout) (N := 3) hx hb hts (fun w h => List.mem_cons_of_mem _ (u_Layout_in w h)) t_Layout t_Layout_ok n_Layout hown hK hP hD hS 0 rfl rfl 2 (by decide) (hts _ (List.mem_cons_of_mem _ kw_81)) (fun _ h9 => h9) rfl hin rfl (by decide +kernel) rfl rfl (Nat.le_of_ble_eq_true rfl) d_q_Layout_init_84 (fun H locs hP hD hS => ?_)
  have hP : va_P D classes [(h, .inr (3, [.ref q39, .ref q73, .ref q82])), (q4, .inr (2, [.ref q8_0])), (q8_0, .inl (cI, 21, .inl (fun j => nI (fxR j)))), (q39, .inl (cI, 21, .inl (fun j => nI ((lyL fxR 21) j)))), (q73, .inl (cI, 208, .inl (fun j => nI (z0 j)))), (q82, .inl (cI, 208, .inl (fun j => nI (z0 j))))] H := hP
  have hD : va_D A [(h, .inr (3, [.ref q39, .ref q73, .ref q82])), (q4, .inr (2, [.ref q8_0])), (q8_0, .inl (cI, 21, .inl (fun j => nI (fxR j)))), (q39, .inl (cI, 21, .inl (fun j => nI ((lyL fxR 21) j)))), (q73, .inl (cI, 208, .inl (fun j => nI (z0 j)))), (q82, .inl (cI, 208, .inl (fun j => nI (z0 j))))] := hD
  refine lv_aload_n hx hb d_q_Layout_init_87 rfl (lv_at hl 0 rfl) ?_
  refine n_get (C := R_Layout) (T := F_Layout) (N := 3) (v := .ref q73) hx hb hts u_Layout_in hown hK hP 0 rfl rfl 1 (by decide) kw_80 rfl d_q_Layout_init_88 ?_
  refine lv_aload_n hx hb d_q_Layout_init_91 rfl (lv_at hl 0 rfl) ?_
  refine n_get (C := R_Layout) (T := F_Layout) (N := 3) (v := .ref q82) hx hb hts u_Layout_in hown hK hP 0 rfl rfl 2 (by decide) kw_81 rfl d_q_Layout_init_92 ?_
  refine q_writeSv (n := 2) (As := [.ref q73, .ref q82]) (rest := []) (wc := [(q73, .inl (cI, 208, .inl (fun j => nI (z0 j)))), (q82, .inl (cI, 208, .inl (fun j => nI (z0 j))))]) (wr := [(h, .inr (3, [.ref q39, .ref q73, .ref q82])), (q4, .inr (2, [.ref q8_0])), (q8_0, .inl (cI, 21, .inl (fun j => nI (fxR j)))), (q39, .inl (cI, 21, .inl (fun j => nI ((lyL fxR 21) j))))]) (w1 := [(q73, .inl (cI, 208, .inl (fun j => nI (((fuI z0 z0 10).2.1) j)))), (q82, .inl (cI, 208, .inl (fun j => nI (((fuI z0 z0 10).2.2) j))))]) S (c_q_Layout_fillOrder l D cI cC q73 q82 z0 z0 H.size) hK hP hD hA [4, 5] [0, 1, 2, 3] rfl rfl rfl rfl (by decide) rfl (q_goodS kw_73 kw_74 kw_3 kw_75) (by decide +kernel) rfl rfl ⟨Nat.le_trans (Nat.le_of_ble_eq_true rfl) hRf, Nat.le_trans (Nat.le_of_ble_eq_true rfl) hRl⟩ rfl hl.1 rfl (Nat.le_of_ble_eq_true rfl) d_q_Layout_init_95 hRc hS (fun H locs hP hD hS => ?_)
  replace hP : va_P D classes [(h, .inr (3, [.ref q39, .ref q73, .ref q82])), (q4, .inr (2, [.ref q8_0])), (q8_0, .inl (cI, 21, .inl (fun j => nI (fxR j)))), (q39, .inl (cI, 21, .inl (fun j => nI ((lyL fxR 21) j)))), (q73, .inl (cI, 208, .inl (fun j => nI (((fuI z0 z0 10).2.1) j)))), (q82, .inl (cI, 208, .inl (fun j => nI (((fuI z0 z0 10).2.2) j))))] H := hP.sub [0, 1, 2, 3, 4, 5] rfl
  replace hD : va_D A [(h, .inr (3, [.ref q39, .ref q73, .ref q82])), (q4, .inr (2, [.ref q8_0])), (q8_0, .inl (cI, 21, .inl (fun j => nI (fxR j)))), (q39, .inl (cI, 21, .inl (fun j => nI ((lyL fxR 21) j)))), (q73, .inl (cI, 208, .inl (fun j => nI (((fuI z0 z0 10).2.1) j)))), (q82, .inl (cI, 208, .inl (fun j => nI (((fuI z0 z0 10).2.2) j))))] := hD.sub [0, 1, 2, 3, 4, 5] rfl rfl
  exact kr q4 q8_0 q39 q73 q82 _ ls H locs d_q_Layout_init_98 (hP.sub [0, 3, 4, 5] rfl) (hD.sub [0, 3, 4, 5] rfl rfl) hS
set_option maxHeartbeats 4000000 in
set_option maxRecDepth 100000 in
theorem c_q_Layout_init (l : Launch) (D : va_G) (cI cC : ClassId) (h : Nat) (sz : Nat) : Met l y_q_Layout_init (cd_q_Layout_init :: WS) { frames := 2, cells := 5, slots := 459, locals := 49 } (va_Pc [.ref h] (wP D [(h, .inr (3, [.null, .null, .null]))] [(cI, .int), (cC, .char)] sz)) (cQ D (fun u => [(h, .inr (3, [.ref (u 2), .ref (u 3), .ref (u 4)])), ((u 2), .inl (cI, 21, .inl (fun j => nI ((lyL fxR 21) j)))), ((u 3), .inl (cI, 208, .inl (fun j => nI (((fuI z0 z0 10).2.1) j)))), ((u 4), .inl (cI, 208, .inl (fun j => nI (((fuI z0 z0 10).2.2) j))))]) [(h, .inr (3, [.null, .null, .null]))] sz) 5 459 (va_A [(h, .inr (3, [.null, .null, .null]))] sz) := by
  refine Met.ofW (cc := b_q_Layout_init) (maxL := 3) (ret := none) (by decide) rfl ?_
  intro p e s m args below meth c s₁ B hml hv0
  obtain ⟨rfl, hP, hK, hD0, hsz⟩ := hv0
  have hts := atoms_spec (ws := cd_q_Layout_init :: WS) B.pre
  have hown : s.vm.findClass R_Layout = some m.cls := findClass_of_methodNamed B.named
  have hlocks := B.notSynchronized
  have hin : meth.name = "<init>" := (name_of_methodNamed B.named B.method).1
  subst hsz
  have hD := hD0.self (sz := s.heap.size)
  have hl := lv_entry ([.ref h]) (n := 3) (Nat.le_of_ble_eq_true rfl)
  rw [lg_entry_eq]
  generalize (lg_sl ([.ref h]) ++ List.replicate (3 - (lg_sl ([.ref h])).length) Slot.unset).toArray = ls at hl ⊢
  refine bd_q_Layout_init cI cC h ⟨B.exec, B.bytes, hml, hown, hts⟩ (Nat.le_refl _) (Nat.le_refl _) ⟨Nat.le_of_eq (Nat.zero_add _), Nat.le_of_eq (Nat.zero_add _)⟩ hin hK (fun q h => Or.inr h) (fun q4 q8_0 q39 q73 q82 pc ls H locs hd hP hD hS => ?_) ls _ _ hl hP hD (va_S.rf)
  exact W.vret B.exec B.bytes B.returns (fun t ht _ => ⟨⟨(fun k => match k with | 0 => q4 | 1 => q8_0 | 2 => q39 | 3 => q73 | 4 => q82 | _ => 0), rfl, trivial, by have h9 := hP; rw [← ht] at h9; exact h9, hD⟩, hS.F ht⟩) hS.2.2 hd
end
