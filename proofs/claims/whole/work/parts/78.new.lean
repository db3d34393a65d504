/-! New arrays of the world's own array classes; a final field written in a constructor -/
section OWN_NEW
variable {p : Program} {l : Launch} {e : Env} {R : Room} {s : State} {m : MethodId} {args : Array Value} {below : List Frame} {meth : Method} {c : Code} {H : Heap} {locs : List Loc} {cells slots : Nat} {Q : State → Prop}
variable {cc : ByteArray} {pc : Nat} {ls : Array Slot} {rest : List Value} {D : va_G} {A : Nat → Prop} {H0 : Heap} {cI cC : ClassId} {ws : va_W}
theorem n_newi {c0 : Cond} (hx : p.tables.exec = Jvm.exec) (hb : c.code = cc) (hts : ∀ w ∈ c0 :: WS, w.before args s = true) (harr : Cond.arrayClass .int ∈ WS) (hK : va_K D classes [(cI, .int), (cC, .char)] s) (hP : va_P D classes ws H) (hD : va_D A ws) (hS : va_S A H0 H locs) (hA : ∀ q, H0.size ≤ q → A q) {N : Nat} (hN : N < 100000) (hcells : cells + 1 ≤ R.cells) (hslots : slots + N ≤ R.slots) (hdg : decode cc pc = .ok (.newarray .int, 2))
    (kk : ∀ (q : Nat) (H1 : Heap), va_P D classes (ws ++ [(q, .inl (cI, N, .inl (fun j => nI (z0 j))))]) H1 → va_D A (ws ++ [(q, .inl (cI, N, .inl (fun j => nI (z0 j))))]) → va_S A H0 H1 locs → W p l e R s m args below meth c H1 locs (cells + 1) (slots + N) Q (F0 m (pc + 2) ls (.ref q :: rest))) : W p l e R s m args below meth c H locs cells slots Q (F0 m pc ls (.int (nI N) :: rest)) := by
  refine va_newa (atype := .int) hx hb (hts _ (List.mem_cons_of_mem _ harr)) rfl hK hP hD hS hA (a0 := (N, .inl (fun j => nI (z0 j)))) (fun _ => rfl) (nI_pos (by omega)) (nI_clamp (by omega)) (by show N * 4 ≤ 536870912; omega) hcells hslots hdg (fun q cA H1 hK1 hP1 hD1 hS1 => ?_)
  have h1 := (hK1.2 2 (cA, .int) rfl).2
  have h2 := (hK.2 0 (cI, .int) rfl).2
  have e1 : cA = cI := Option.some.inj ((show s.vm.findClass _ = some cA from h1).symm.trans (show s.vm.findClass _ = some cI from h2))
  subst e1
  exact kk q H1 hP1 hD1 hS1
theorem n_newc {c0 : Cond} (hx : p.tables.exec = Jvm.exec) (hb : c.code = cc) (hts : ∀ w ∈ c0 :: WS, w.before args s = true) (harr : Cond.arrayClass .char ∈ WS) (hK : va_K D classes [(cI, .int), (cC, .char)] s) (hP : va_P D classes ws H) (hD : va_D A ws) (hS : va_S A H0 H locs) (hA : ∀ q, H0.size ≤ q → A q) {N : Nat} (hN : N < 100000) (hcells : cells + 1 ≤ R.cells) (hslots : slots + N ≤ R.slots) (hdg : decode cc pc = .ok (.newarray .char, 2))
    (kk : ∀ (q : Nat) (H1 : Heap), va_P D classes (ws ++ [(q, .inl (cC, N, .inl (fun j => nI (z0 j))))]) H1 → va_D A (ws ++ [(q, .inl (cC, N, .inl (fun j => nI (z0 j))))]) → va_S A H0 H1 locs → W p l e R s m args below meth c H1 locs (cells + 1) (slots + N) Q (F0 m (pc + 2) ls (.ref q :: rest))) : W p l e R s m args below meth c H locs cells slots Q (F0 m pc ls (.int (nI N) :: rest)) := by
  refine va_newa (atype := .char) hx hb (hts _ (List.mem_cons_of_mem _ harr)) rfl hK hP hD hS hA (a0 := (N, .inl (fun j => nI (z0 j)))) (fun _ => rfl) (nI_pos (by omega)) (nI_clamp (by omega)) (by show N * 2 ≤ 536870912; omega) hcells hslots hdg (fun q cA H1 hK1 hP1 hD1 hS1 => ?_)
  have h1 := (hK1.2 2 (cA, .char) rfl).2
  have h2 := (hK.2 1 (cC, .char) rfl).2
  have e1 : cA = cC := Option.some.inj ((show s.vm.findClass _ = some cA from h1).symm.trans (show s.vm.findClass _ = some cC from h2))
  subst e1
  exact kk q H1 hP1 hD1 hS1
end OWN_NEW
/-! A constructor called on a new object -/
section OWN_INIT
/-- a constructor's end: what stands behind it, at the addresses u 0, u 1 .. -/
abbrev cQ (D : va_G) (w1 : (Nat → Nat) → va_W) (ws : va_W) (sz : Nat) : Array Value → State → Outcome → State → Prop := va_Qv (fun (_ : Nat → Nat) => True) (fun u t => va_P D classes (w1 u) t.heap ∧ va_D (va_A ws sz) (w1 u)) (va_A ws sz)
variable {p : Program} {l : Launch} {e : Env} {R : Room} {s : State} {m : MethodId} {args : Array Value} {below : List Frame} {meth : Method} {c : Code} {H : Heap} {locs : List Loc} {cells slots : Nat} {Q : State → Prop}
variable {cc : ByteArray} {pc : Nat} {ls : Array Slot} {rest : List Value} {D : va_G} {A : Nat → Prop} {tys : List (ClassId × FieldType)} {ws wc wr : va_W} {w1 : (Nat → Nat) → va_W} {t : Nat → Nat} {H0 : Heap}
theorem q_init {c0 : Cond} {own : String} {index maxL nL mc ms : Nat} {y : MethodName} {bytes : ByteArray} {rm : Room} {b : Nat} (S : CallFix p m c cc nL s args (c0 :: WS) own) (hM : Met l y (Cond.code y bytes maxL none :: WS) rm (va_Pc [.ref b] (wP D wc tys H.size)) (cQ D w1 wc H.size) mc ms (va_A wc H.size))
    (hK : va_K D classes tys s) (hP : va_P D classes ws H) (hD : va_D A ws) (hA : ∀ q, H0.size ≤ q → A q) (isC isR : List Nat) (hC : isC.map (fun i => ws[i]?) = wc.map some) (hnC : va_nd isC = true) (hRr : isR.map (fun i => ws[i]?) = wr.map some) (hnd : va_nd isR = true) (hdis : ∀ i ∈ isR, i ∉ isC)
    (g : Cond.code y bytes maxL none ∈ WS) (hini : Cond.initialized y.cls ∈ WS) (hlk : Cond.methodLink own index y ∈ WS) (hin : Cond.instanceMethod y ∈ WS) (hnm : y.name = "<init>")
    (hd : y.cls ≠ "java/lang/invoke/MethodHandle" ∧ y.cls ≠ "java/lang/invoke/VarHandle" ∧ (parseMethodDescriptor y.desc).map (fun d => d.parameters.length) = some 0) (hrc : rm.cells = mc) (hrs : rm.slots = ms) (hR : rm.frames + 1 ≤ R.frames ∧ 8 + (maxL + 11) + rm.locals ≤ R.locals)
    (hsize : ls.size = nL) (hW : (rest.map fun v => v.category).sum ≤ 8) (hdg : decode cc pc = .ok (.invokespecial index, 3)) (hf : cells + mc ≤ R.cells ∧ slots + ms ≤ R.slots) (hS : va_S A H0 H locs)
    (kk : ∀ (u : Nat → Nat) (H1 : Heap) (locs1 : List Loc), va_P D classes (wr ++ w1 u) H1 → va_D A (wr ++ w1 u) → va_S A H0 H1 locs1 → W p l e R s m args below meth c H1 locs1 (cells + mc) (slots + ms) Q (F0 m (pc + 3) ls rest)) : W p l e R s m args below meth c H locs cells slots Q (F0 m pc ls (.ref b :: rest)) := by
  have hPc := hP.sub isC (q_subm hC)
  have hDc := hD.sub isC hnC hC
  have hFc := va_free (wc := wc) hD hS hA isC hC
  have hts := S.2.2.2.2
  refine va_callv (va_runI (As := []) (rest := rest) S hM (cwI 0 hts (q_good g) rfl hrc hrs (hts _ (List.mem_cons_of_mem _ hini)) (hts _ (List.mem_cons_of_mem _ hlk)) (hts _ (List.mem_cons_of_mem _ hin)) hnm hd hR) ⟨wP_blind, fun U hU hW => ⟨rfl, by rw [hU]; exact hPc, va_K.moved hW.alike hK, hDc.weaken (fun _ _ _ _ => trivial), by rw [hU]⟩⟩ rfl rfl hsize rfl (lv_room hW) hdg hf) hS (fun q _ h => hFc q h) hFc (fun u t H1 locs1 ht hvm hw hB hz1 hk1 hS1 => ?_)
  obtain ⟨hB, hDB⟩ := hB
  rw [ht] at hB
  obtain ⟨hP9, hD9⟩ := va_join hP hD isC isR hC hRr hnd hdis hk1 hFc hB hDB
  exact kk u H1 locs1 hP9 hD9 hS1
/-- a nest mate's -/
theorem q_initN {c0 : Cond} {own host : String} {index maxL nL mc ms : Nat} {y : MethodName} {bytes : ByteArray} {rm : Room} {b : Nat} (S : CallFix p m c cc nL s args (c0 :: WS) own) (hM : Met l y (Cond.code y bytes maxL none :: WS) rm (va_Pc [.ref b] (wP D wc tys H.size)) (cQ D w1 wc H.size) mc ms (va_A wc H.size))
    (hK : va_K D classes tys s) (hP : va_P D classes ws H) (hD : va_D A ws) (hA : ∀ q, H0.size ≤ q → A q) (isC isR : List Nat) (hC : isC.map (fun i => ws[i]?) = wc.map some) (hnC : va_nd isC = true) (hRr : isR.map (fun i => ws[i]?) = wr.map some) (hnd : va_nd isR = true) (hdis : ∀ i ∈ isR, i ∉ isC)
    (g : Cond.code y bytes maxL none ∈ WS) (hini : Cond.initialized y.cls ∈ WS) (hlk : va_Nw (.methodLinkNest own index y host) s) (hin : Cond.instanceMethod y ∈ WS) (hnm : y.name = "<init>")
    (hd : y.cls ≠ "java/lang/invoke/MethodHandle" ∧ y.cls ≠ "java/lang/invoke/VarHandle" ∧ (parseMethodDescriptor y.desc).map (fun d => d.parameters.length) = some 0) (hrc : rm.cells = mc) (hrs : rm.slots = ms) (hR : rm.frames + 1 ≤ R.frames ∧ 8 + (maxL + 11) + rm.locals ≤ R.locals)
    (hsize : ls.size = nL) (hW : (rest.map fun v => v.category).sum ≤ 8) (hdg : decode cc pc = .ok (.invokespecial index, 3)) (hf : cells + mc ≤ R.cells ∧ slots + ms ≤ R.slots) (hS : va_S A H0 H locs)
    (kk : ∀ (u : Nat → Nat) (H1 : Heap) (locs1 : List Loc), va_P D classes (wr ++ w1 u) H1 → va_D A (wr ++ w1 u) → va_S A H0 H1 locs1 → W p l e R s m args below meth c H1 locs1 (cells + mc) (slots + ms) Q (F0 m (pc + 3) ls rest)) : W p l e R s m args below meth c H locs cells slots Q (F0 m pc ls (.ref b :: rest)) := by
  have hPc := hP.sub isC (q_subm hC)
  have hDc := hD.sub isC hnC hC
  have hFc := va_free (wc := wc) hD hS hA isC hC
  have hts := S.2.2.2.2
  refine va_callv (va_runIN (As := []) (rest := rest) S hM ⟨va_cnB 0 hts (q_good g) rfl hrc hrs hlk (hts _ (List.mem_cons_of_mem _ hini)) hd hR, hnm, hts _ (List.mem_cons_of_mem _ hin)⟩ ⟨wP_blind, fun U hU hW => ⟨rfl, by rw [hU]; exact hPc, va_K.moved hW.alike hK, hDc.weaken (fun _ _ _ _ => trivial), by rw [hU]⟩⟩ rfl rfl hsize rfl (lv_room hW) hdg hf) hS (fun q _ h => hFc q h) hFc (fun u t H1 locs1 ht hvm hw hB hz1 hk1 hS1 => ?_)
  obtain ⟨hB, hDB⟩ := hB
  rw [ht] at hB
  obtain ⟨hP9, hD9⟩ := va_join hP hD isC isR hC hRr hnd hdis hk1 hFc hB hDB
  exact kk u H1 locs1 hP9 hD9 hS1
/-- with the statics (the class's own constructor) -/
theorem q_initS {c0 : Cond} {own : String} {index maxL nL mc ms : Nat} {y : MethodName} {bytes : ByteArray} {rm : Room} {b : Nat} (S : CallFix p m c cc nL s args (c0 :: WS) own) (hM : Met l y (Cond.code y bytes maxL none :: WS) rm (va_Pc [.ref b] (swP t D wc tys H.size)) (cQ D w1 wc H.size) mc ms (va_A wc H.size))
    (hSt : SB t A s s.heap) (hK : va_K D classes tys s) (hP : va_P D classes ws H) (hD : va_D A ws) (hA : ∀ q, s.heap.size ≤ q → A q) (isC isR : List Nat) (hC : isC.map (fun i => ws[i]?) = wc.map some) (hnC : va_nd isC = true) (hRr : isR.map (fun i => ws[i]?) = wr.map some) (hnd : va_nd isR = true) (hdis : ∀ i ∈ isR, i ∉ isC)
    (g : Cond.code y bytes maxL none ∈ WS) (hini : Cond.initialized y.cls ∈ WS) (hlk : Cond.methodLink own index y ∈ WS) (hin : Cond.instanceMethod y ∈ WS) (hnm : y.name = "<init>")
    (hd : y.cls ≠ "java/lang/invoke/MethodHandle" ∧ y.cls ≠ "java/lang/invoke/VarHandle" ∧ (parseMethodDescriptor y.desc).map (fun d => d.parameters.length) = some 0) (hrc : rm.cells = mc) (hrs : rm.slots = ms) (hR : rm.frames + 1 ≤ R.frames ∧ 8 + (maxL + 11) + rm.locals ≤ R.locals)
    (hsize : ls.size = nL) (hW : (rest.map fun v => v.category).sum ≤ 8) (hdg : decode cc pc = .ok (.invokespecial index, 3)) (hf : cells + mc ≤ R.cells ∧ slots + ms ≤ R.slots) (hS : va_S A s.heap H locs)
    (kk : ∀ (u : Nat → Nat) (H1 : Heap) (locs1 : List Loc), va_P D classes (wr ++ w1 u) H1 → va_D A (wr ++ w1 u) → va_S A s.heap H1 locs1 → W p l e R s m args below meth c H1 locs1 (cells + mc) (slots + ms) Q (F0 m (pc + 3) ls rest)) : W p l e R s m args below meth c H locs cells slots Q (F0 m pc ls (.ref b :: rest)) := by
  have hPc := hP.sub isC (q_subm hC)
  have hDc := hD.sub isC hnC hC
  have hFc := va_free (wc := wc) hD hS hA isC hC
  have hts := S.2.2.2.2
  refine va_callv (va_runI (As := []) (rest := rest) S hM (cwI 0 hts (q_good g) rfl hrc hrs (hts _ (List.mem_cons_of_mem _ hini)) (hts _ (List.mem_cons_of_mem _ hlk)) (hts _ (List.mem_cons_of_mem _ hin)) hnm hd hR) ⟨swP_blind, fun U hU hW => ⟨rfl, ⟨by rw [hU]; exact hPc, va_K.moved hW.alike hK, hDc.weaken (fun _ _ _ _ => trivial), by rw [hU]⟩, SB_at hSt hS hW hU hFc⟩⟩ rfl rfl hsize rfl (lv_room hW) hdg hf) hS (fun q _ h => hFc q h) hFc (fun u t H1 locs1 ht hvm hw hB hz1 hk1 hS1 => ?_)
  obtain ⟨hB, hDB⟩ := hB
  rw [ht] at hB
  obtain ⟨hP9, hD9⟩ := va_join hP hD isC isR hC hRr hnd hdis hk1 hFc hB hDB
  exact kk u H1 locs1 hP9 hD9 hS1
end OWN_INIT
section SPEC_N1
/-- the powers and logs, behind k steps -/
def fpo : Nat → Nat → Nat
  | 0 => z0
  | k + 1 => va_up (fpo k) k (pw k)
def flo : Nat → Nat → Nat
  | 0 => z0
  | k + 1 => va_up (flo k) (pw k) k
theorem pw_up {k : Nat} (h : 255 < pw k * 2) : pw (k + 1) = pw k * 2 ^^^ 285 := if_pos h
theorem pw_dn {k : Nat} (h : pw k * 2 ≤ 255) : pw (k + 1) = pw k * 2 := if_neg (Nat.not_lt.mpr h)
theorem fpo_at : ∀ n j, j < n → fpo n j = pw j := by
  intro n
  induction n with
  | zero => intro j h; omega
  | succ n ih =>
    intro j h
    rw [fpo]
    unfold va_up
    by_cases e : j = n
    · rw [if_pos e, e]
    · rw [if_neg e, ih j (by omega)]
theorem lgT_pw : ∀ i, i < 255 → lgT.getD (pwT.getD i 0) 0 = i := by decide +kernel
theorem lg_of_pw {i : Nat} (h : i < 255) : lg (pw i) = i := (congrArg lg (pwT_pw i (Nat.lt_succ_of_lt h))).trans (lgT_pw i h)
theorem flo_at : ∀ n, n ≤ 255 → ∀ i, i < n → flo n (pw i) = i := by
  intro n
  induction n with
  | zero => intro _ j h; omega
  | succ n ih =>
    intro hn i h
    rw [flo]
    unfold va_up
    by_cases e : pw i = pw n
    · rw [if_pos e]
      have h1 := lg_of_pw (i := i) (by omega)
      rw [e, lg_of_pw (i := n) (by omega)] at h1
      exact h1
    · rw [if_neg e]
      by_cases e2 : i = n
      · exact absurd (by rw [e2]) e
      · exact ih (by omega) i (by omega)
theorem fld_ok : fldOK (fpo 255) (flo 255) := by
  refine ⟨fun j h => fpo_at 255 j h, fun a ha h0 => ?_⟩
  obtain ⟨h1, h2⟩ := lg_pw a ha h0
  have := flo_at 255 (Nat.le_refl _) (lg a) h2
  rwa [h1] at this
/-- copied from f, the first k -/
def lyL (f : Nat → Nat) : Nat → Nat → Nat
  | 0 => z0
  | k + 1 => va_up (lyL f k) k (f k)
theorem lyL_at (f : Nat → Nat) : ∀ n j, j < n → lyL f n j = f j := by
  intro n
  induction n with
  | zero => intro j h; omega
  | succ n ih =>
    intro j h
    rw [lyL]
    unfold va_up
    by_cases e : j = n
    · rw [if_pos e, e]
    · rw [if_neg e, ih j (by omega)]
theorem ctI_le {so : Nat → Nat} (hso : ∀ j, j < 441 → so j = soT j) {q i : Nat} (hq : q < 10) (hi : i < 42) (h0 : so (21 * fuR q i + fuK q - i % 2) = 0) : (ctJ so (ctI so q) q i).1 < 208 := by
  have h := ((ctI_tab hso q (by omega)).2.2 hq i (by omega)).1
  have hc := da_chk q hq i hi
  rw [hso _ hc.1] at h0
  have := (da_c3 q hq i hi h0).1
  omega
theorem so_lt3 : ∀ j, j < 441 → soT j < 3 := by decide +kernel
theorem fr_lt : ∀ j, j < 21 → frT j < 2097152 := by decide +kernel
theorem fxR_lt : ∀ j, j < 21 → fxR j < 2097152 := fun j h => by rw [fxR_tab j h]; exact fr_lt j h
end SPEC_N1
