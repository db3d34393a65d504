section OWN_COPYC
variable {p : Program} {l : Launch} {e : Env} {R : Room} {s : State} {m : MethodId} {args : Array Value} {below : List Frame} {meth : Method} {c : Code} {H : Heap} {locs : List Loc} {cells slots : Nat} {Q : State → Prop}
variable {cc : ByteArray} {pc : Nat} {ls : Array Slot} {rest : List Value} {D : va_G} {A : Nat → Prop} {H0 : Heap} {tys : List (ClassId × FieldType)} {ws wc wr w1 : va_W}
/-- System.arraycopy between two char arrays of the world -/
theorem n_copyc {c0 : Cond} {nL : Nat} {own : String} {index : Nat} (S : CallFix p m c cc nL s args (c0 :: WS) own) (hl : ls.size = nL) (hlink : Cond.methodLink own index arraycopyName ∈ WS) (hnat : Cond.native arraycopyName ∈ WS) (hstat : Cond.static arraycopyName ∈ WS) (hini : Cond.initialized "java/lang/System" ∈ WS)
    (hK : va_K D classes tys s) (hP : va_P D classes ws H) (hD : va_D A ws) (hS : va_S A H0 H locs) (q0 q1 t0 : Nat) {a0 a : Nat} {c0' c1 : ClassId} {n0 n1 : Nat} {f g : Nat → Nat} (ha0 : ws[q0]? = some (a0, .inl (c0', n0, .inl (fun j => nI (f j))))) (ha1 : ws[q1]? = some (a, .inl (c1, n1, .inl (fun j => nI (g j))))) (ht0 : tys[t0]? = some (c0', .char)) (ht1 : tys[t0]? = some (c1, .char))
    {sp dp n : Nat} (h4 : sp + n ≤ n0) (h5 : dp + n ≤ n1) (hb0 : n0 < 2 ^ 31) (hb1 : n1 < 2 ^ 31) (hch : ∀ j, j < n0 → f j < 65536) (hfr : 1 ≤ R.frames) (hlo : (rest.map fun v => v.category).sum + (nativeFrameWords "java/lang/System" "arraycopy" 5 + 11) ≤ R.locals) (hdg : decode cc pc = .ok (.invokestatic index, 3))
    (kk : ∀ (H1 : Heap) (locs1 : List Loc), va_P D classes (ws.set q1 (a, .inl (c1, n1, .inl (fun j => nI (va_cpy f g sp dp n j))))) H1 → va_D A (ws.set q1 (a, .inl (c1, n1, .inl (fun j => nI (va_cpy f g sp dp n j))))) → va_S A H0 H1 locs1 → W p l e R s m args below meth c H1 locs1 cells slots Q (F0 m (pc + 3) ls rest)) : W p l e R s m args below meth c H locs cells slots Q (F0 m pc ls (.int (nI n) :: .int (nI dp) :: .ref a :: .int (nI sp) :: .ref a0 :: rest)) := by
  obtain ⟨hx, hb, hml, hown, hts⟩ := S
  have e1 : (nI sp).toNatClampNeg = sp := nI_clamp (by omega)
  have e2 : (nI dp).toNatClampNeg = dp := nI_clamp (by omega)
  have e3 : (nI n).toNatClampNeg = n := nI_clamp (by omega)
  have e4 : va_cpy (fun j => nI (f j)) (fun j => nI (g j)) sp dp n = fun j => nI (va_cpy f g sp dp n j) := by
    funext j
    unfold va_cpy
    split <;> rfl
  refine va_copyi hx hb (hml.trans hl.symm) hown (hts _ (List.mem_cons_of_mem _ hlink)) (hts _ (List.mem_cons_of_mem _ hnat)) (hts _ (List.mem_cons_of_mem _ hstat)) (hts _ (List.mem_cons_of_mem _ hini)) hK hP hD hS q0 q1 t0 t0 ha0 ha1 ht0 ht1 rfl (nI_pos (by omega)) (nI_pos (by omega)) (nI_pos (by omega)) (by rw [e1, e3]; exact h4) (by rw [e2, e3]; exact h5) (fun i hi => by rw [e1]; rw [e3] at hi; exact (pk_charN (hch (sp + i) (by omega))).2) hfr hlo hdg ?_
  rw [e1, e2, e3, e4]
  exact kk
end OWN_COPYC
section SPEC_C10
theorem isL_nI {r : Nat} (h : r < 21) : isL (nI r) := ⟨nI_pos (by omega), nI_ge h (by decide)⟩
theorem isL2_nI {r d : Nat} (h : r < 21) (h2 : d < 21) : isL (nI r) ∧ isL (nI d) := ⟨isL_nI h, isL_nI h2⟩
/-- what is read are chars -/
theorem gpR_ch {r : Nat → Nat} {f x b v : Nat} (hb : b = 10 ∨ b = 45 ∨ b = 256) (hr : ∀ j, j < 64 → r j < 65536) : ∀ i, ∀ j, j < 64 → gpR r f x b v i j < 65536 := by
  have hc : ∀ v, v < 45 → chN v < 65536 := fun v hv => by rw [← (pb_chk v hv).2.2]; exact Nat.lt_trans (pb_chk v hv).2.1 (by decide)
  intro i
  induction i with
  | zero => exact hr
  | succ i ih =>
    intro j hj
    rw [gpR]
    unfold va_up
    split
    · rcases hb with e | e | e
      · subst e; rw [if_neg (by decide)]; exact hc _ (Nat.lt_trans (Nat.mod_lt _ (by decide)) (by decide))
      · subst e; rw [if_neg (by decide)]; exact hc _ (Nat.mod_lt _ (by decide))
      · subst e; rw [if_pos rfl]; exact Nat.lt_trans (Nat.mod_lt _ (by decide)) (by decide)
    · exact ih j hj
theorem tpW_ch (tr : Nat → Nat) {kd : Nat} (hk : kd = 1 ∨ kd = 2 ∨ kd = 4) (dt : Nat) : ∀ n l p f r, (∀ j, j < 64 → r j < 65536) → ∀ j, j < 64 → (tpW tr kd dt n l p f r).2.2.2 j < 65536 := by
  have hb : gva kd = 10 ∨ gva kd = 45 ∨ gva kd = 256 := by rcases hk with e | e | e <;> subst e <;> decide
  intro n
  induction n with
  | zero => intro l p f r h; exact h
  | succ n ih =>
    intro l p f r h
    rw [tpW]
    split
    · exact h
    · split
      · exact h
      · split
        · exact h
        · exact ih _ _ _ _ (gpR_ch hb h _)
theorem dcW_ch (tr : Nat → Nat) (dt : Nat) : ∀ n p f r, (∀ j, j < 64 → r j < 65536) → ∀ j, j < 64 → (dcW tr dt n p f r).2.2.2 j < 65536 := by
  intro n
  induction n with
  | zero => intro p f r h; exact h
  | succ n ih =>
    intro p f r h
    rw [dcW]
    split
    · exact h
    · split
      · exact h
      · split
        · exact h
        · rename_i hk
          have hk2 : nxL tr p 4 = 1 ∨ nxL tr p 4 = 2 ∨ nxL tr p 4 = 4 := Classical.not_not.mp hk
          split
          · exact h
          · split
            · exact tpW_ch tr hk2 dt _ _ _ _ _ h
            · exact ih _ _ _ (tpW_ch tr hk2 dt _ _ _ _ _ h)
theorem dcW_le (tr : Nat → Nat) (dt : Nat) (n p f : Nat) (r : Nat → Nat) : (dcW tr dt n p f r).1 ≤ 1 := by rw [(dc_rt tr dt n p f r).1]; exact rtW_le _ _ _ _ _ _
end SPEC_C10
