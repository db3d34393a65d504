theorem kw_777 : (Jvm.Cond.fieldLink "SquareCodesModel" (76 : Nat) "SquareCodesModel" "typed" "I") ∈ WS := WS_tbl 777 (by decide +kernel) rfl
theorem kw_778 : (Jvm.Cond.fieldLink "SquareCodesModel" (7 : Nat) "SquareCodesModel" "text" "[I") ∈ WS := WS_tbl 778 (by decide +kernel) rfl
theorem kw_872 : (Jvm.Cond.methodLink "SquareCodesModel" (79 : Nat) ({ cls := "SquareCodesModel", name := "plain", desc := "(I)I" } : Jvm.MethodName)) ∈ WS := WS_tbl 872 (by decide +kernel) rfl
theorem kw_873 : (Jvm.Cond.static ({ cls := "SquareCodesModel", name := "plain", desc := "(I)I" } : Jvm.MethodName)) ∈ WS := WS_tbl 873 (by decide +kernel) rfl
set_option maxRecDepth 1000000 in
theorem kw_874 : cd_m_plain ∈ WS := WS_tbl 874 rfl rfl
theorem kw_776 : (Jvm.Cond.fieldLink "SquareCodesModel" (65 : Nat) "SquareCodesModel" "fault" "I") ∈ WS := WS_tbl 776 (by decide +kernel) rfl
theorem kw_785 : (Jvm.Cond.fieldLink "SquareCodesModel" (83 : Nat) "SquareCodesModel" "many" "I") ∈ WS := WS_tbl 785 (by decide +kernel) rfl
theorem kw_784 : (Jvm.Cond.fieldLink "SquareCodesModel" (28 : Nat) "SquareCodesModel" "bits" "[I") ∈ WS := WS_tbl 784 (by decide +kernel) rfl
theorem kw_792 : (Jvm.Cond.fieldLink "SquareCodesModel" (155 : Nat) "SquareCodesModel" "place" "I") ∈ WS := WS_tbl 792 (by decide +kernel) rfl
section
theorem d_m_plain_0 : decode b_m_plain 0 = .ok (.iload_n 0, 1) := by decide +kernel
theorem d_m_plain_1 : decode b_m_plain 1 = .ok (.bipush 48, 2) := by decide +kernel
theorem d_m_plain_3 : decode b_m_plain 3 = .ok (.if_icmp .lt 14, 3) := by decide +kernel
theorem d_m_plain_6 : decode b_m_plain 6 = .ok (.iload_n 0, 1) := by decide +kernel
theorem d_m_plain_7 : decode b_m_plain 7 = .ok (.bipush 57, 2) := by decide +kernel
theorem d_m_plain_9 : decode b_m_plain 9 = .ok (.if_icmp .gt 8, 3) := by decide +kernel
theorem d_m_plain_12 : decode b_m_plain 12 = .ok (.iload_n 0, 1) := by decide +kernel
theorem d_m_plain_13 : decode b_m_plain 13 = .ok (.bipush 48, 2) := by decide +kernel
theorem d_m_plain_15 : decode b_m_plain 15 = .ok (.isub, 1) := by decide +kernel
theorem d_m_plain_16 : decode b_m_plain 16 = .ok (.ireturn, 1) := by decide +kernel
theorem d_m_plain_17 : decode b_m_plain 17 = .ok (.iload_n 0, 1) := by decide +kernel
theorem d_m_plain_18 : decode b_m_plain 18 = .ok (.bipush 65, 2) := by decide +kernel
theorem d_m_plain_20 : decode b_m_plain 20 = .ok (.if_icmp .lt 17, 3) := by decide +kernel
theorem d_m_plain_23 : decode b_m_plain 23 = .ok (.iload_n 0, 1) := by decide +kernel
theorem d_m_plain_24 : decode b_m_plain 24 = .ok (.bipush 90, 2) := by decide +kernel
theorem d_m_plain_26 : decode b_m_plain 26 = .ok (.if_icmp .gt 11, 3) := by decide +kernel
theorem d_m_plain_29 : decode b_m_plain 29 = .ok (.iload_n 0, 1) := by decide +kernel
theorem d_m_plain_30 : decode b_m_plain 30 = .ok (.bipush 65, 2) := by decide +kernel
theorem d_m_plain_32 : decode b_m_plain 32 = .ok (.isub, 1) := by decide +kernel
theorem d_m_plain_33 : decode b_m_plain 33 = .ok (.bipush 10, 2) := by decide +kernel
theorem d_m_plain_35 : decode b_m_plain 35 = .ok (.iadd, 1) := by decide +kernel
theorem d_m_plain_36 : decode b_m_plain 36 = .ok (.ireturn, 1) := by decide +kernel
theorem d_m_plain_37 : decode b_m_plain 37 = .ok (.iload_n 0, 1) := by decide +kernel
theorem d_m_plain_38 : decode b_m_plain 38 = .ok (.tableswitch 149 32 58 #[122, 149, 149, 149, 125, 128, 149, 149, 149, 149, 131, 134, 149, 137, 140, 143, 149, 149, 149, 149, 149, 149, 149, 149, 149, 149, 146], 122) := by decide +kernel
theorem d_m_plain_160 : decode b_m_plain 160 = .ok (.bipush 36, 2) := by decide +kernel
theorem d_m_plain_162 : decode b_m_plain 162 = .ok (.ireturn, 1) := by decide +kernel
theorem d_m_plain_163 : decode b_m_plain 163 = .ok (.bipush 37, 2) := by decide +kernel
theorem d_m_plain_165 : decode b_m_plain 165 = .ok (.ireturn, 1) := by decide +kernel
theorem d_m_plain_166 : decode b_m_plain 166 = .ok (.bipush 38, 2) := by decide +kernel
theorem d_m_plain_168 : decode b_m_plain 168 = .ok (.ireturn, 1) := by decide +kernel
theorem d_m_plain_169 : decode b_m_plain 169 = .ok (.bipush 39, 2) := by decide +kernel
theorem d_m_plain_171 : decode b_m_plain 171 = .ok (.ireturn, 1) := by decide +kernel
theorem d_m_plain_172 : decode b_m_plain 172 = .ok (.bipush 40, 2) := by decide +kernel
theorem d_m_plain_174 : decode b_m_plain 174 = .ok (.ireturn, 1) := by decide +kernel
theorem d_m_plain_175 : decode b_m_plain 175 = .ok (.bipush 41, 2) := by decide +kernel
theorem d_m_plain_177 : decode b_m_plain 177 = .ok (.ireturn, 1) := by decide +kernel
theorem d_m_plain_178 : decode b_m_plain 178 = .ok (.bipush 42, 2) := by decide +kernel
theorem d_m_plain_180 : decode b_m_plain 180 = .ok (.ireturn, 1) := by decide +kernel
theorem d_m_plain_181 : decode b_m_plain 181 = .ok (.bipush 43, 2) := by decide +kernel
theorem d_m_plain_183 : decode b_m_plain 183 = .ok (.ireturn, 1) := by decide +kernel
theorem d_m_plain_184 : decode b_m_plain 184 = .ok (.bipush 44, 2) := by decide +kernel
theorem d_m_plain_186 : decode b_m_plain 186 = .ok (.ireturn, 1) := by decide +kernel
theorem d_m_plain_187 : decode b_m_plain 187 = .ok (.iconst (-1), 1) := by decide +kernel
theorem d_m_plain_188 : decode b_m_plain 188 = .ok (.ireturn, 1) := by decide +kernel
end
section
variable {p : Program} {l : Launch} {e : Env} {R : Room} {s : State} {m : MethodId} {args : Array Value} {below : List Frame} {meth : Method} {c : Code} {cells slots : Nat} {Q : State → Prop} {A : Nat → Prop} {H0 : Heap} {D : va_G}
set_option maxHeartbeats 1000000 in
set_option maxRecDepth 100000 in
theorem sg_m_plain_37 (x : Nat) (hx0 : x < 65536) (h1 : ¬ (48 ≤ x ∧ x ≤ 57)) (h2 : ¬ (65 ≤ x ∧ x ≤ 90)) (S : CallFix p m c b_m_plain 1 s args (cd_m_plain :: WS) R_Model) (hRf : 0 ≤ R.frames) (hRl : 0 ≤ R.locals) (hRc : cells ≤ R.cells ∧ slots ≤ R.slots) (kr : ∀ (pc : Nat) (ls : Array Slot) (H : Heap) (locs : List Loc), decode b_m_plain pc = .ok (.ireturn, 1) → va_S A H0 H locs → W p l e R s m args below meth c H locs cells slots Q (F0 m pc ls [.int (plI x)])) : ∀ (ls : Array Slot) (H : Heap) (locs : List Loc), lv_has ls 1 [(0, .int (nI x))] → va_S A H0 H locs → W p l e R s m args below meth c H locs cells slots Q (F0 m 37 ls []) := by
  obtain ⟨hx, hb, hml, hown, hts⟩ := id S
  intro ls H locs hl hS
  refine lv_iload_n hx hb d_m_plain_37 rfl (lv_at hl 0 rfl) ?_
  rcases (show x = 32 ∨ x = 33 ∨ x = 34 ∨ x = 35 ∨ x = 36 ∨ x = 37 ∨ x = 38 ∨ x = 39 ∨ x = 40 ∨ x = 41 ∨ x = 42 ∨ x = 43 ∨ x = 44 ∨ x = 45 ∨ x = 46 ∨ x = 47 ∨ x = 48 ∨ x = 49 ∨ x = 50 ∨ x = 51 ∨ x = 52 ∨ x = 53 ∨ x = 54 ∨ x = 55 ∨ x = 56 ∨ x = 57 ∨ x = 58 ∨ (x < 32 ∨ 58 < x) by omega) with g38 | g38 | g38 | g38 | g38 | g38 | g38 | g38 | g38 | g38 | g38 | g38 | g38 | g38 | g38 | g38 | g38 | g38 | g38 | g38 | g38 | g38 | g38 | g38 | g38 | g38 | g38 | g38
  · skip
    refine n_topn (show x = 32 from g38) ?_
    refine lv_tableIn hx hb d_m_plain_38 (by decide) (by decide) (off := 122) rfl (tgt := 160) rfl ?_
    refine lv_bipush (v := nI 36) hx hb d_m_plain_160 (by decide) ?_
    refine n_top (show (nI 36) = (plI x) from (by first | (rw [g38]; decide) | exact (plI_o g38 h1 h2).symm | (exfalso; omega))) ?_
    exact kr _ ls H locs d_m_plain_162 hS
  · skip
    refine n_topn (show x = 33 from g38) ?_
    refine lv_tableIn hx hb d_m_plain_38 (by decide) (by decide) (off := 149) rfl (tgt := 187) rfl ?_
    refine lv_iconst (v := (-1)) hx hb d_m_plain_187 (by decide) ?_
    refine n_top (show (-1) = (plI x) from (by first | (rw [g38]; decide) | exact (plI_o g38 h1 h2).symm | (exfalso; omega))) ?_
    exact kr _ ls H locs d_m_plain_188 hS
  · skip
    refine n_topn (show x = 34 from g38) ?_
    refine lv_tableIn hx hb d_m_plain_38 (by decide) (by decide) (off := 149) rfl (tgt := 187) rfl ?_
    refine lv_iconst (v := (-1)) hx hb d_m_plain_187 (by decide) ?_
    refine n_top (show (-1) = (plI x) from (by first | (rw [g38]; decide) | exact (plI_o g38 h1 h2).symm | (exfalso; omega))) ?_
    exact kr _ ls H locs d_m_plain_188 hS
  · skip
    refine n_topn (show x = 35 from g38) ?_
    refine lv_tableIn hx hb d_m_plain_38 (by decide) (by decide) (off := 149) rfl (tgt := 187) rfl ?_
    refine lv_iconst (v := (-1)) hx hb d_m_plain_187 (by decide) ?_
    refine n_top (show (-1) = (plI x) from (by first | (rw [g38]; decide) | exact (plI_o g38 h1 h2).symm | (exfalso; omega))) ?_
    exact kr _ ls H locs d_m_plain_188 hS
  · skip
    refine n_topn (show x = 36 from g38) ?_
    refine lv_tableIn hx hb d_m_plain_38 (by decide) (by decide) (off := 125) rfl (tgt := 163) rfl ?_
    refine lv_bipush (v := nI 37) hx hb d_m_plain_163 (by decide) ?_
    refine n_top (show (nI 37) = (plI x) from (by first | (rw [g38]; decide) | exact (plI_o g38 h1 h2).symm | (exfalso; omega))) ?_
    exact kr _ ls H locs d_m_plain_165 hS
  · skip
    refine n_topn (show x = 37 from g38) ?_
    refine lv_tableIn hx hb d_m_plain_38 (by decide) (by decide) (off := 128) rfl (tgt := 166) rfl ?_
    refine lv_bipush (v := nI 38) hx hb d_m_plain_166 (by decide) ?_
    refine n_top (show (nI 38) = (plI x) from (by first | (rw [g38]; decide) | exact (plI_o g38 h1 h2).symm | (exfalso; omega))) ?_
    exact kr _ ls H locs d_m_plain_168 hS
  · skip
    refine n_topn (show x = 38 from g38) ?_
    refine lv_tableIn hx hb d_m_plain_38 (by decide) (by decide) (off := 149) rfl (tgt := 187) rfl ?_
    refine lv_iconst (v := (-1)) hx hb d_m_plain_187 (by decide) ?_
    refine n_top (show (-1) = (plI x) from (by first | (rw [g38]; decide) | exact (plI_o g38 h1 h2).symm | (exfalso; omega))) ?_
    exact kr _ ls H locs d_m_plain_188 hS
  · skip
    refine n_topn (show x = 39 from g38) ?_
    refine lv_tableIn hx hb d_m_plain_38 (by decide) (by decide) (off := 149) rfl (tgt := 187) rfl ?_
    refine lv_iconst (v := (-1)) hx hb d_m_plain_187 (by decide) ?_
    refine n_top (show (-1) = (plI x) from (by first | (rw [g38]; decide) | exact (plI_o g38 h1 h2).symm | (exfalso; omega))) ?_
    exact kr _ ls H locs d_m_plain_188 hS
  · skip
    refine n_topn (show x = 40 from g38) ?_
    refine lv_tableIn hx hb d_m_plain_38 (by decide) (by decide) (off := 149) rfl (tgt := 187) rfl ?_
    refine lv_iconst (v := (-1)) hx hb d_m_plain_187 (by decide) ?_
    refine n_top (show (-1) = (plI x) from (by first | (rw [g38]; decide) | exact (plI_o g38 h1 h2).symm | (exfalso; omega))) ?_
    exact kr _ ls H locs d_m_plain_188 hS
  · skip
    refine n_topn (show x = 41 from g38) ?_
    refine lv_tableIn hx hb d_m_plain_38 (by decide) (by decide) (off := 149) rfl (tgt := 187) rfl ?_
    refine lv_iconst (v := (-1)) hx hb d_m_plain_187 (by decide) ?_
    refine n_top (show (-1) = (plI x) from (by first | (rw [g38]; decide) | exact (plI_o g38 h1 h2).symm | (exfalso; omega))) ?_
    exact kr _ ls H locs d_m_plain_188 hS
  · skip
    refine n_topn (show x = 42 from g38) ?_
    refine lv_tableIn hx hb d_m_plain_38 (by decide) (by decide) (off := 131) rfl (tgt := 169) rfl ?_
    refine lv_bipush (v := nI 39) hx hb d_m_plain_169 (by decide) ?_
    refine n_top (show (nI 39) = (plI x) from (by first | (rw [g38]; decide) | exact (plI_o g38 h1 h2).symm | (exfalso; omega))) ?_
    exact kr _ ls H locs d_m_plain_171 hS
  · skip
    refine n_topn (show x = 43 from g38) ?_
    refine lv_tableIn hx hb d_m_plain_38 (by decide) (by decide) (off := 134) rfl (tgt := 172) rfl ?_
    refine lv_bipush (v := nI 40) hx hb d_m_plain_172 (by decide) ?_
    refine n_top (show (nI 40) = (plI x) from (by first | (rw [g38]; decide) | exact (plI_o g38 h1 h2).symm | (exfalso; omega))) ?_
    exact kr _ ls H locs d_m_plain_174 hS
  · skip
    refine n_topn (show x = 44 from g38) ?_
    refine lv_tableIn hx hb d_m_plain_38 (by decide) (by decide) (off := 149) rfl (tgt := 187) rfl ?_
    refine lv_iconst (v := (-1)) hx hb d_m_plain_187 (by decide) ?_
    refine n_top (show (-1) = (plI x) from (by first | (rw [g38]; decide) | exact (plI_o g38 h1 h2).symm | (exfalso; omega))) ?_
    exact kr _ ls H locs d_m_plain_188 hS
  · skip
    refine n_topn (show x = 45 from g38) ?_
    refine lv_tableIn hx hb d_m_plain_38 (by decide) (by decide) (off := 137) rfl (tgt := 175) rfl ?_
    refine lv_bipush (v := nI 41) hx hb d_m_plain_175 (by decide) ?_
    refine n_top (show (nI 41) = (plI x) from (by first | (rw [g38]; decide) | exact (plI_o g38 h1 h2).symm | (exfalso; omega))) ?_
    exact kr _ ls H locs d_m_plain_177 hS
  · skip
    refine n_topn (show x = 46 from g38) ?_
    refine lv_tableIn hx hb d_m_plain_38 (by decide) (by decide) (off := 140) rfl (tgt := 178) rfl ?_
    refine lv_bipush (v := nI 42) hx hb d_m_plain_178 (by decide) ?_
    refine n_top (show (nI 42) = (plI x) from (by first | (rw [g38]; decide) | exact (plI_o g38 h1 h2).symm | (exfalso; omega))) ?_
    exact kr _ ls H locs d_m_plain_180 hS
  · skip
    refine n_topn (show x = 47 from g38) ?_
    refine lv_tableIn hx hb d_m_plain_38 (by decide) (by decide) (off := 143) rfl (tgt := 181) rfl ?_
    refine lv_bipush (v := nI 43) hx hb d_m_plain_181 (by decide) ?_
    refine n_top (show (nI 43) = (plI x) from (by first | (rw [g38]; decide) | exact (plI_o g38 h1 h2).symm | (exfalso; omega))) ?_
    exact kr _ ls H locs d_m_plain_183 hS
  · skip
    refine n_topn (show x = 48 from g38) ?_
    refine lv_tableIn hx hb d_m_plain_38 (by decide) (by decide) (off := 149) rfl (tgt := 187) rfl ?_
    refine lv_iconst (v := (-1)) hx hb d_m_plain_187 (by decide) ?_
    refine n_top (show (-1) = (plI x) from (by first | (rw [g38]; decide) | exact (plI_o g38 h1 h2).symm | (exfalso; omega))) ?_
    exact kr _ ls H locs d_m_plain_188 hS
  · skip
    refine n_topn (show x = 49 from g38) ?_
    refine lv_tableIn hx hb d_m_plain_38 (by decide) (by decide) (off := 149) rfl (tgt := 187) rfl ?_
    refine lv_iconst (v := (-1)) hx hb d_m_plain_187 (by decide) ?_
    refine n_top (show (-1) = (plI x) from (by first | (rw [g38]; decide) | exact (plI_o g38 h1 h2).symm | (exfalso; omega))) ?_
    exact kr _ ls H locs d_m_plain_188 hS
  · skip
    refine n_topn (show x = 50 from g38) ?_
    refine lv_tableIn hx hb d_m_plain_38 (by decide) (by decide) (off := 149) rfl (tgt := 187) rfl ?_
    refine lv_iconst (v := (-1)) hx hb d_m_plain_187 (by decide) ?_
    refine n_top (show (-1) = (plI x) from (by first | (rw [g38]; decide) | exact (plI_o g38 h1 h2).symm | (exfalso; omega))) ?_
    exact kr _ ls H locs d_m_plain_188 hS
  · skip
    refine n_topn (show x = 51 from g38) ?_
    refine lv_tableIn hx hb d_m_plain_38 (by decide) (by decide) (off := 149) rfl (tgt := 187) rfl ?_
    refine lv_iconst (v := (-1)) hx hb d_m_plain_187 (by decide) ?_
    refine n_top (show (-1) = (plI x) from (by first | (rw [g38]; decide) | exact (plI_o g38 h1 h2).symm | (exfalso; omega))) ?_
    exact kr _ ls H locs d_m_plain_188 hS
  · skip
    refine n_topn (show x = 52 from g38) ?_
    refine lv_tableIn hx hb d_m_plain_38 (by decide) (by decide) (off := 149) rfl (tgt := 187) rfl ?_
    refine lv_iconst (v := (-1)) hx hb d_m_plain_187 (by decide) ?_
    refine n_top (show (-1) = (plI x) from (by first | (rw [g38]; decide) | exact (plI_o g38 h1 h2).symm | (exfalso; omega))) ?_
    exact kr _ ls H locs d_m_plain_188 hS
  · skip
    refine n_topn (show x = 53 from g38) ?_
    refine lv_tableIn hx hb d_m_plain_38 (by decide) (by decide) (off := 149) rfl (tgt := 187) rfl ?_
    refine lv_iconst (v := (-1)) hx hb d_m_plain_187 (by decide) ?_
    refine n_top (show (-1) = (plI x) from (by first | (rw [g38]; decide) | exact (plI_o g38 h1 h2).symm | (exfalso; omega))) ?_
    exact kr _ ls H locs d_m_plain_188 hS
  · skip
    refine n_topn (show x = 54 from g38) ?_
    refine lv_tableIn hx hb d_m_plain_38 (by decide) (by decide) (off := 149) rfl (tgt := 187) rfl ?_
    refine lv_iconst (v := (-1)) hx hb d_m_plain_187 (by decide) ?_
    refine n_top (show (-1) = (plI x) from (by first | (rw [g38]; decide) | exact (plI_o g38 h1 h2).symm | (exfalso; omega))) ?_
    exact kr _ ls H locs d_m_plain_188 hS
  · skip
    refine n_topn (show x = 55 from g38) ?_
    refine lv_tableIn hx hb d_m_plain_38 (by decide) (by decide) (off := 149) rfl (tgt := 187) rfl ?_
    refine lv_iconst (v := (-1)) hx hb d_m_plain_187 (by decide) ?_
    refine n_top (show (-1) = (plI x) from (by first | (rw [g38]; decide) | exact (plI_o g38 h1 h2).symm | (exfalso; omega))) ?_
    exact kr _ ls H locs d_m_plain_188 hS
  · skip
    refine n_topn (show x = 56 from g38) ?_
    refine lv_tableIn hx hb d_m_plain_38 (by decide) (by decide) (off := 149) rfl (tgt := 187) rfl ?_
    refine lv_iconst (v := (-1)) hx hb d_m_plain_187 (by decide) ?_
    refine n_top (show (-1) = (plI x) from (by first | (rw [g38]; decide) | exact (plI_o g38 h1 h2).symm | (exfalso; omega))) ?_
    exact kr _ ls H locs d_m_plain_188 hS
  · skip
    refine n_topn (show x = 57 from g38) ?_
    refine lv_tableIn hx hb d_m_plain_38 (by decide) (by decide) (off := 149) rfl (tgt := 187) rfl ?_
    refine lv_iconst (v := (-1)) hx hb d_m_plain_187 (by decide) ?_
    refine n_top (show (-1) = (plI x) from (by first | (rw [g38]; decide) | exact (plI_o g38 h1 h2).symm | (exfalso; omega))) ?_
    exact kr _ ls H locs d_m_plain_188 hS
  · skip
    refine n_topn (show x = 58 from g38) ?_
    refine lv_tableIn hx hb d_m_plain_38 (by decide) (by decide) (off := 146) rfl (tgt := 184) rfl ?_
    refine lv_bipush (v := nI 44) hx hb d_m_plain_184 (by decide) ?_
    refine n_top (show (nI 44) = (plI x) from (by first | (rw [g38]; decide) | exact (plI_o g38 h1 h2).symm | (exfalso; omega))) ?_
    exact kr _ ls H locs d_m_plain_186 hS
  · skip
    refine lv_tableOut hx hb d_m_plain_38 (by rw [nI_toInt (by omega)]; omega) (tgt := 187) rfl ?_
    refine lv_iconst (v := (-1)) hx hb d_m_plain_187 (by decide) ?_
    refine n_top (show (-1) = (plI x) from (by first | (rw [g38]; decide) | exact (plI_o g38 h1 h2).symm | (exfalso; omega))) ?_
    exact kr _ ls H locs d_m_plain_188 hS
set_option maxHeartbeats 1000000 in
set_option maxRecDepth 100000 in
theorem bd_m_plain (x : Nat) (hx0 : x < 65536) (S : CallFix p m c b_m_plain 1 s args (cd_m_plain :: WS) R_Model) (hRf : 0 ≤ R.frames) (hRl : 0 ≤ R.locals) (hRc : cells ≤ R.cells ∧ slots ≤ R.slots) (kr : ∀ (pc : Nat) (ls : Array Slot) (H : Heap) (locs : List Loc), decode b_m_plain pc = .ok (.ireturn, 1) → va_S A H0 H locs → W p l e R s m args below meth c H locs cells slots Q (F0 m pc ls [.int (plI x)])) : ∀ (ls : Array Slot) (H : Heap) (locs : List Loc), lv_has ls 1 [(0, .int (nI x))] → va_S A H0 H locs → W p l e R s m args below meth c H locs cells slots Q (F0 m 0 ls []) := by
  obtain ⟨hx, hb, hml, hown, hts⟩ := id S
  intro ls H locs hl hS
  refine lv_iload_n hx hb d_m_plain_0 rfl (lv_at hl 0 rfl) ?_
  refine lv_bipush (v := nI 48) hx hb d_m_plain_1 (by decide) ?_
  refine n_icmp_lt hx hb d_m_plain_3 (tgt := 17) rfl (by omega) (by omega) (fun g3 => ?_) (fun g3 => ?_)
  · skip
    refine lv_iload_n hx hb d_m_plain_17 rfl (lv_at hl 0 rfl) ?_
    refine lv_bipush (v := nI 65) hx hb d_m_plain_18 (by decide) ?_
    refine n_icmp_lt hx hb d_m_plain_20 (tgt := 37) rfl (by omega) (by omega) (fun g20 => ?_) (fun g20 => ?_)
    · skip
      refine sg_m_plain_37 x (by first | omega | (unfold bN; (repeat' split) <;> omega)) (by first | omega | (unfold bN; (repeat' split) <;> omega)) (by first | omega | (unfold bN; (repeat' split) <;> omega)) S hRf hRl hRc (fun pc ls H locs hd hS => ?_) ls H locs (lv_sub hl [0] rfl) hS
      exact kr _ ls H locs hd hS
    · skip
      refine lv_iload_n hx hb d_m_plain_23 rfl (lv_at hl 0 rfl) ?_
      refine lv_bipush (v := nI 90) hx hb d_m_plain_24 (by decide) ?_
      refine n_icmp_gt hx hb d_m_plain_26 (tgt := 37) rfl (by omega) (by omega) (fun g26 => ?_) (fun g26 => ?_)
      · skip
        refine sg_m_plain_37 x (by first | omega | (unfold bN; (repeat' split) <;> omega)) (by first | omega | (unfold bN; (repeat' split) <;> omega)) (by first | omega | (unfold bN; (repeat' split) <;> omega)) S hRf hRl hRc (fun pc ls H locs hd hS => ?_) ls H locs (lv_sub hl [0] rfl) hS
        exact kr _ ls H locs hd hS
      · skip
        refine lv_iload_n hx hb d_m_plain_29 rfl (lv_at hl 0 rfl) ?_
        refine lv_bipush (v := nI 65) hx hb d_m_plain_30 (by decide) ?_
        refine n_isub hx hb d_m_plain_32 (by omega) ?_
        refine lv_bipush (v := nI 10) hx hb d_m_plain_33 (by decide) ?_
        refine n_iadd hx hb d_m_plain_35 ?_
        refine n_top (show (nI ((x - 65) + 10)) = (plI x) from (by first | exact (plI_a g3 g9).symm | exact (plI_b g20 g26).symm)) ?_
        exact kr _ ls H locs d_m_plain_36 hS
  · skip
    refine lv_iload_n hx hb d_m_plain_6 rfl (lv_at hl 0 rfl) ?_
    refine lv_bipush (v := nI 57) hx hb d_m_plain_7 (by decide) ?_
    refine n_icmp_gt hx hb d_m_plain_9 (tgt := 17) rfl (by omega) (by omega) (fun g9 => ?_) (fun g9 => ?_)
    · skip
      refine lv_iload_n hx hb d_m_plain_17 rfl (lv_at hl 0 rfl) ?_
      refine lv_bipush (v := nI 65) hx hb d_m_plain_18 (by decide) ?_
      refine n_icmp_lt hx hb d_m_plain_20 (tgt := 37) rfl (by omega) (by omega) (fun g20 => ?_) (fun g20 => ?_)
      · skip
        refine sg_m_plain_37 x (by first | omega | (unfold bN; (repeat' split) <;> omega)) (by first | omega | (unfold bN; (repeat' split) <;> omega)) (by first | omega | (unfold bN; (repeat' split) <;> omega)) S hRf hRl hRc (fun pc ls H locs hd hS => ?_) ls H locs (lv_sub hl [0] rfl) hS
        exact kr _ ls H locs hd hS
      · skip
        refine lv_iload_n hx hb d_m_plain_23 rfl (lv_at hl 0 rfl) ?_
        refine lv_bipush (v := nI 90) hx hb d_m_plain_24 (by decide) ?_
        refine n_icmp_gt hx hb d_m_plain_26 (tgt := 37) rfl (by omega) (by omega) (fun g26 => ?_) (fun g26 => ?_)
        · skip
          refine sg_m_plain_37 x (by first | omega | (unfold bN; (repeat' split) <;> omega)) (by first | omega | (unfold bN; (repeat' split) <;> omega)) (by first | omega | (unfold bN; (repeat' split) <;> omega)) S hRf hRl hRc (fun pc ls H locs hd hS => ?_) ls H locs (lv_sub hl [0] rfl) hS
          exact kr _ ls H locs hd hS
        · skip
          refine lv_iload_n hx hb d_m_plain_29 rfl (lv_at hl 0 rfl) ?_
          refine lv_bipush (v := nI 65) hx hb d_m_plain_30 (by decide) ?_
          refine n_isub hx hb d_m_plain_32 (by omega) ?_
          refine lv_bipush (v := nI 10) hx hb d_m_plain_33 (by decide) ?_
          refine n_iadd hx hb d_m_plain_35 ?_
          refine n_top (show (nI ((x - 65) + 10)) = (plI x) from (by first | exact (plI_a g3 g9).symm | exact (plI_b g20 g26).symm)) ?_
          exact kr _ ls H locs d_m_plain_36 hS
    · skip
      refine lv_iload_n hx hb d_m_plain_12 rfl (lv_at hl 0 rfl) ?_
      refine lv_bipush (v := nI 48) hx hb d_m_plain_13 (by decide) ?_
      refine n_isub hx hb d_m_plain_15 (by omega) ?_
      refine n_top (show (nI (x - 48)) = (plI x) from (by first | exact (plI_a g3 g9).symm | exact (plI_b g20 g26).symm)) ?_
      exact kr _ ls H locs d_m_plain_16 hS
set_option maxHeartbeats 1000000 in
set_option maxRecDepth 100000 in
theorem c_m_plain (l : Launch) (x : Nat) (hx0 : x < 65536) : Met l y_m_plain (cd_m_plain :: WS) { frames := 0, cells := 0, slots := 0, locals := 0 } (va_Pc [.int (nI x)] (fun _ => True)) (pQ ((plI x))) 0 0 noA := by
  refine Met.ofW (cc := b_m_plain) (maxL := 1) (ret := (some .int)) (by decide) rfl ?_
  intro p e s m args below meth c s₁ B hml hv0
  obtain ⟨rfl, -⟩ := hv0
  have hts := atoms_spec (ws := cd_m_plain :: WS) B.pre
  have hown : s.vm.findClass R_Model = some m.cls := findClass_of_methodNamed B.named
  have hlocks := B.notSynchronized
  have hl := lv_entry ([.int (nI x)]) (n := 1) (Nat.le_of_ble_eq_true rfl)
  rw [lg_entry_eq]
  generalize (lg_sl ([.int (nI x)]) ++ List.replicate (1 - (lg_sl ([.int (nI x)])).length) Slot.unset).toArray = ls at hl ⊢
  refine bd_m_plain x hx0 ⟨B.exec, B.bytes, hml, hown, hts⟩ (Nat.le_refl _) (Nat.le_refl _) ⟨Nat.le_refl _, Nat.le_refl _⟩ (fun pc ls H locs hd hS => ?_) ls _ _ hl (va_S.rf (A := noA))
  exact W.iret B.exec B.bytes B.returns (fun t ht _ => ⟨⟨_, (), rfl, rfl, trivial⟩, hS.F ht⟩) hS.2.2 hd
end
section
theorem d_m_character_0 : decode b_m_character 0 = .ok (.iload_n 0, 1) := by decide +kernel
theorem d_m_character_1 : decode b_m_character 1 = .ok (.bipush 10, 2) := by decide +kernel
theorem d_m_character_3 : decode b_m_character 3 = .ok (.if_icmp .ge 8, 3) := by decide +kernel
theorem d_m_character_6 : decode b_m_character 6 = .ok (.bipush 48, 2) := by decide +kernel
theorem d_m_character_8 : decode b_m_character 8 = .ok (.iload_n 0, 1) := by decide +kernel
theorem d_m_character_9 : decode b_m_character 9 = .ok (.iadd, 1) := by decide +kernel
theorem d_m_character_10 : decode b_m_character 10 = .ok (.ireturn, 1) := by decide +kernel
theorem d_m_character_11 : decode b_m_character 11 = .ok (.iload_n 0, 1) := by decide +kernel
theorem d_m_character_12 : decode b_m_character 12 = .ok (.bipush 36, 2) := by decide +kernel
theorem d_m_character_14 : decode b_m_character 14 = .ok (.if_icmp .ge 11, 3) := by decide +kernel
theorem d_m_character_17 : decode b_m_character 17 = .ok (.bipush 65, 2) := by decide +kernel
theorem d_m_character_19 : decode b_m_character 19 = .ok (.iload_n 0, 1) := by decide +kernel
theorem d_m_character_20 : decode b_m_character 20 = .ok (.iadd, 1) := by decide +kernel
theorem d_m_character_21 : decode b_m_character 21 = .ok (.bipush 10, 2) := by decide +kernel
theorem d_m_character_23 : decode b_m_character 23 = .ok (.isub, 1) := by decide +kernel
theorem d_m_character_24 : decode b_m_character 24 = .ok (.ireturn, 1) := by decide +kernel
theorem d_m_character_25 : decode b_m_character 25 = .ok (.iload_n 0, 1) := by decide +kernel
theorem d_m_character_26 : decode b_m_character 26 = .ok (.tableswitch 70 36 43 #[46, 49, 52, 55, 58, 61, 64, 67], 46) := by decide +kernel
theorem d_m_character_72 : decode b_m_character 72 = .ok (.bipush 32, 2) := by decide +kernel
theorem d_m_character_74 : decode b_m_character 74 = .ok (.ireturn, 1) := by decide +kernel
theorem d_m_character_75 : decode b_m_character 75 = .ok (.bipush 36, 2) := by decide +kernel
theorem d_m_character_77 : decode b_m_character 77 = .ok (.ireturn, 1) := by decide +kernel
theorem d_m_character_78 : decode b_m_character 78 = .ok (.bipush 37, 2) := by decide +kernel
theorem d_m_character_80 : decode b_m_character 80 = .ok (.ireturn, 1) := by decide +kernel
theorem d_m_character_81 : decode b_m_character 81 = .ok (.bipush 42, 2) := by decide +kernel
theorem d_m_character_83 : decode b_m_character 83 = .ok (.ireturn, 1) := by decide +kernel
theorem d_m_character_84 : decode b_m_character 84 = .ok (.bipush 43, 2) := by decide +kernel
theorem d_m_character_86 : decode b_m_character 86 = .ok (.ireturn, 1) := by decide +kernel
theorem d_m_character_87 : decode b_m_character 87 = .ok (.bipush 45, 2) := by decide +kernel
theorem d_m_character_89 : decode b_m_character 89 = .ok (.ireturn, 1) := by decide +kernel
theorem d_m_character_90 : decode b_m_character 90 = .ok (.bipush 46, 2) := by decide +kernel
theorem d_m_character_92 : decode b_m_character 92 = .ok (.ireturn, 1) := by decide +kernel
theorem d_m_character_93 : decode b_m_character 93 = .ok (.bipush 47, 2) := by decide +kernel
theorem d_m_character_95 : decode b_m_character 95 = .ok (.ireturn, 1) := by decide +kernel
theorem d_m_character_96 : decode b_m_character 96 = .ok (.bipush 58, 2) := by decide +kernel
theorem d_m_character_98 : decode b_m_character 98 = .ok (.ireturn, 1) := by decide +kernel
end
section
variable {p : Program} {l : Launch} {e : Env} {R : Room} {s : State} {m : MethodId} {args : Array Value} {below : List Frame} {meth : Method} {c : Code} {cells slots : Nat} {Q : State → Prop} {A : Nat → Prop} {H0 : Heap} {D : va_G}
set_option maxHeartbeats 1000000 in
set_option maxRecDepth 100000 in
theorem bd_m_character (v : Nat) (hv : v < 45) (S : CallFix p m c b_m_character 1 s args (cd_m_character :: WS) R_Model) (hRf : 0 ≤ R.frames) (hRl : 0 ≤ R.locals) (hRc : cells ≤ R.cells ∧ slots ≤ R.slots) (kr : ∀ (pc : Nat) (ls : Array Slot) (H : Heap) (locs : List Loc), decode b_m_character pc = .ok (.ireturn, 1) → va_S A H0 H locs → W p l e R s m args below meth c H locs cells slots Q (F0 m pc ls [.int (nI (chN v))])) : ∀ (ls : Array Slot) (H : Heap) (locs : List Loc), lv_has ls 1 [(0, .int (nI v))] → va_S A H0 H locs → W p l e R s m args below meth c H locs cells slots Q (F0 m 0 ls []) := by
  obtain ⟨hx, hb, hml, hown, hts⟩ := id S
  intro ls H locs hl hS
  refine lv_iload_n hx hb d_m_character_0 rfl (lv_at hl 0 rfl) ?_
  refine lv_bipush (v := nI 10) hx hb d_m_character_1 (by decide) ?_
  refine n_icmp_ge hx hb d_m_character_3 (tgt := 11) rfl (by omega) (by omega) (fun g3 => ?_) (fun g3 => ?_)
  · skip
    refine lv_iload_n hx hb d_m_character_11 rfl (lv_at hl 0 rfl) ?_
    refine lv_bipush (v := nI 36) hx hb d_m_character_12 (by decide) ?_
    refine n_icmp_ge hx hb d_m_character_14 (tgt := 25) rfl (by omega) (by omega) (fun g14 => ?_) (fun g14 => ?_)
    · skip
      refine lv_iload_n hx hb d_m_character_25 rfl (lv_at hl 0 rfl) ?_
      rcases (show v = 36 ∨ v = 37 ∨ v = 38 ∨ v = 39 ∨ v = 40 ∨ v = 41 ∨ v = 42 ∨ v = 43 ∨ (v < 36 ∨ 43 < v) by omega) with g26 | g26 | g26 | g26 | g26 | g26 | g26 | g26 | g26
      · skip
        refine n_topn (show v = 36 from g26) ?_
        refine lv_tableIn hx hb d_m_character_26 (by decide) (by decide) (off := 46) rfl (tgt := 72) rfl ?_
        refine lv_bipush (v := nI 32) hx hb d_m_character_72 (by decide) ?_
        refine n_topn (show 32 = chN v from (by first | (rw [g26]; decide) | (unfold chN; (repeat' split) <;> omega))) ?_
        exact kr _ ls H locs d_m_character_74 hS
      · skip
        refine n_topn (show v = 37 from g26) ?_
        refine lv_tableIn hx hb d_m_character_26 (by decide) (by decide) (off := 49) rfl (tgt := 75) rfl ?_
        refine lv_bipush (v := nI 36) hx hb d_m_character_75 (by decide) ?_
        refine n_topn (show 36 = chN v from (by first | (rw [g26]; decide) | (unfold chN; (repeat' split) <;> omega))) ?_
        exact kr _ ls H locs d_m_character_77 hS
      · skip
        refine n_topn (show v = 38 from g26) ?_
        refine lv_tableIn hx hb d_m_character_26 (by decide) (by decide) (off := 52) rfl (tgt := 78) rfl ?_
        refine lv_bipush (v := nI 37) hx hb d_m_character_78 (by decide) ?_
        refine n_topn (show 37 = chN v from (by first | (rw [g26]; decide) | (unfold chN; (repeat' split) <;> omega))) ?_
        exact kr _ ls H locs d_m_character_80 hS
      · skip
        refine n_topn (show v = 39 from g26) ?_
        refine lv_tableIn hx hb d_m_character_26 (by decide) (by decide) (off := 55) rfl (tgt := 81) rfl ?_
        refine lv_bipush (v := nI 42) hx hb d_m_character_81 (by decide) ?_
        refine n_topn (show 42 = chN v from (by first | (rw [g26]; decide) | (unfold chN; (repeat' split) <;> omega))) ?_
        exact kr _ ls H locs d_m_character_83 hS
      · skip
        refine n_topn (show v = 40 from g26) ?_
        refine lv_tableIn hx hb d_m_character_26 (by decide) (by decide) (off := 58) rfl (tgt := 84) rfl ?_
        refine lv_bipush (v := nI 43) hx hb d_m_character_84 (by decide) ?_
        refine n_topn (show 43 = chN v from (by first | (rw [g26]; decide) | (unfold chN; (repeat' split) <;> omega))) ?_
        exact kr _ ls H locs d_m_character_86 hS
      · skip
        refine n_topn (show v = 41 from g26) ?_
        refine lv_tableIn hx hb d_m_character_26 (by decide) (by decide) (off := 61) rfl (tgt := 87) rfl ?_
        refine lv_bipush (v := nI 45) hx hb d_m_character_87 (by decide) ?_
        refine n_topn (show 45 = chN v from (by first | (rw [g26]; decide) | (unfold chN; (repeat' split) <;> omega))) ?_
        exact kr _ ls H locs d_m_character_89 hS
      · skip
        refine n_topn (show v = 42 from g26) ?_
        refine lv_tableIn hx hb d_m_character_26 (by decide) (by decide) (off := 64) rfl (tgt := 90) rfl ?_
        refine lv_bipush (v := nI 46) hx hb d_m_character_90 (by decide) ?_
        refine n_topn (show 46 = chN v from (by first | (rw [g26]; decide) | (unfold chN; (repeat' split) <;> omega))) ?_
        exact kr _ ls H locs d_m_character_92 hS
      · skip
        refine n_topn (show v = 43 from g26) ?_
        refine lv_tableIn hx hb d_m_character_26 (by decide) (by decide) (off := 67) rfl (tgt := 93) rfl ?_
        refine lv_bipush (v := nI 47) hx hb d_m_character_93 (by decide) ?_
        refine n_topn (show 47 = chN v from (by first | (rw [g26]; decide) | (unfold chN; (repeat' split) <;> omega))) ?_
        exact kr _ ls H locs d_m_character_95 hS
      · skip
        refine lv_tableOut hx hb d_m_character_26 (by rw [nI_toInt (by omega)]; omega) (tgt := 96) rfl ?_
        refine lv_bipush (v := nI 58) hx hb d_m_character_96 (by decide) ?_
        refine n_topn (show 58 = chN v from (by first | (rw [g26]; decide) | (unfold chN; (repeat' split) <;> omega))) ?_
        exact kr _ ls H locs d_m_character_98 hS
    · skip
      refine lv_bipush (v := nI 65) hx hb d_m_character_17 (by decide) ?_
      refine lv_iload_n hx hb d_m_character_19 rfl (lv_at hl 0 rfl) ?_
      refine n_iadd hx hb d_m_character_20 ?_
      refine lv_bipush (v := nI 10) hx hb d_m_character_21 (by decide) ?_
      refine n_isub hx hb d_m_character_23 (by omega) ?_
      refine n_topn (show (65 + v) - 10 = chN v from (by first | (rw [g26]; decide) | (unfold chN; (repeat' split) <;> omega))) ?_
      exact kr _ ls H locs d_m_character_24 hS
  · skip
    refine lv_bipush (v := nI 48) hx hb d_m_character_6 (by decide) ?_
    refine lv_iload_n hx hb d_m_character_8 rfl (lv_at hl 0 rfl) ?_
    refine n_iadd hx hb d_m_character_9 ?_
    refine n_topn (show 48 + v = chN v from (by first | (rw [g26]; decide) | (unfold chN; (repeat' split) <;> omega))) ?_
    exact kr _ ls H locs d_m_character_10 hS
set_option maxHeartbeats 1000000 in
set_option maxRecDepth 100000 in
theorem c_m_character (l : Launch) (v : Nat) (hv : v < 45) : Met l y_m_character (cd_m_character :: WS) { frames := 0, cells := 0, slots := 0, locals := 0 } (va_Pc [.int (nI v)] (fun _ => True)) (pQ ((nI (chN v)))) 0 0 noA := by
  refine Met.ofW (cc := b_m_character) (maxL := 1) (ret := (some .int)) (by decide) rfl ?_
  intro p e s m args below meth c s₁ B hml hv0
  obtain ⟨rfl, -⟩ := hv0
  have hts := atoms_spec (ws := cd_m_character :: WS) B.pre
  have hown : s.vm.findClass R_Model = some m.cls := findClass_of_methodNamed B.named
  have hlocks := B.notSynchronized
  have hl := lv_entry ([.int (nI v)]) (n := 1) (Nat.le_of_ble_eq_true rfl)
  rw [lg_entry_eq]
  generalize (lg_sl ([.int (nI v)]) ++ List.replicate (1 - (lg_sl ([.int (nI v)])).length) Slot.unset).toArray = ls at hl ⊢
  refine bd_m_character v hv ⟨B.exec, B.bytes, hml, hown, hts⟩ (Nat.le_refl _) (Nat.le_refl _) ⟨Nat.le_refl _, Nat.le_refl _⟩ (fun pc ls H locs hd hS => ?_) ls _ _ hl (va_S.rf (A := noA))
  exact W.iret B.exec B.bytes B.returns (fun t ht _ => ⟨⟨_, (), rfl, rfl, trivial⟩, hS.F ht⟩) hS.2.2 hd
end
section
theorem d_m_kindOfText_0 : decode b_m_kindOfText 0 = .ok (.iconst 1, 1) := by decide +kernel
theorem d_m_kindOfText_1 : decode b_m_kindOfText 1 = .ok (.istore_n 1, 1) := by decide +kernel
theorem d_m_kindOfText_2 : decode b_m_kindOfText 2 = .ok (.iconst 0, 1) := by decide +kernel
theorem d_m_kindOfText_3 : decode b_m_kindOfText 3 = .ok (.istore_n 2, 1) := by decide +kernel
theorem d_m_kindOfText_4 : decode b_m_kindOfText 4 = .ok (.iload_n 2, 1) := by decide +kernel
theorem d_m_kindOfText_5 : decode b_m_kindOfText 5 = .ok (.aload_n 0, 1) := by decide +kernel
theorem d_m_kindOfText_6 : decode b_m_kindOfText 6 = .ok (.getfield 76, 3) := by decide +kernel
theorem d_m_kindOfText_9 : decode b_m_kindOfText 9 = .ok (.if_icmp .ge 44, 3) := by decide +kernel
theorem d_m_kindOfText_12 : decode b_m_kindOfText 12 = .ok (.aload_n 0, 1) := by decide +kernel
theorem d_m_kindOfText_13 : decode b_m_kindOfText 13 = .ok (.getfield 7, 3) := by decide +kernel
theorem d_m_kindOfText_16 : decode b_m_kindOfText 16 = .ok (.iload_n 2, 1) := by decide +kernel
theorem d_m_kindOfText_17 : decode b_m_kindOfText 17 = .ok (.iaload, 1) := by decide +kernel
theorem d_m_kindOfText_18 : decode b_m_kindOfText 18 = .ok (.invokestatic 79, 3) := by decide +kernel
theorem d_m_kindOfText_21 : decode b_m_kindOfText 21 = .ok (.istore_n 3, 1) := by decide +kernel
theorem d_m_kindOfText_22 : decode b_m_kindOfText 22 = .ok (.iload_n 3, 1) := by decide +kernel
theorem d_m_kindOfText_23 : decode b_m_kindOfText 23 = .ok (.ifCond .ge 7, 3) := by decide +kernel
theorem d_m_kindOfText_26 : decode b_m_kindOfText 26 = .ok (.iconst 4, 1) := by decide +kernel
theorem d_m_kindOfText_27 : decode b_m_kindOfText 27 = .ok (.goto 19, 3) := by decide +kernel
theorem d_m_kindOfText_30 : decode b_m_kindOfText 30 = .ok (.iload_n 3, 1) := by decide +kernel
theorem d_m_kindOfText_31 : decode b_m_kindOfText 31 = .ok (.bipush 9, 2) := by decide +kernel
theorem d_m_kindOfText_33 : decode b_m_kindOfText 33 = .ok (.if_icmp .le 12, 3) := by decide +kernel
theorem d_m_kindOfText_36 : decode b_m_kindOfText 36 = .ok (.iload_n 1, 1) := by decide +kernel
theorem d_m_kindOfText_37 : decode b_m_kindOfText 37 = .ok (.iconst 1, 1) := by decide +kernel
theorem d_m_kindOfText_38 : decode b_m_kindOfText 38 = .ok (.if_icmp .ne 7, 3) := by decide +kernel
theorem d_m_kindOfText_41 : decode b_m_kindOfText 41 = .ok (.iconst 2, 1) := by decide +kernel
theorem d_m_kindOfText_42 : decode b_m_kindOfText 42 = .ok (.goto 4, 3) := by decide +kernel
theorem d_m_kindOfText_45 : decode b_m_kindOfText 45 = .ok (.iload_n 1, 1) := by decide +kernel
theorem d_m_kindOfText_46 : decode b_m_kindOfText 46 = .ok (.istore_n 1, 1) := by decide +kernel
theorem d_m_kindOfText_47 : decode b_m_kindOfText 47 = .ok (.iinc 2 1, 3) := by decide +kernel
theorem d_m_kindOfText_50 : decode b_m_kindOfText 50 = .ok (.goto (-46), 3) := by decide +kernel
theorem d_m_kindOfText_53 : decode b_m_kindOfText 53 = .ok (.iload_n 1, 1) := by decide +kernel
theorem d_m_kindOfText_54 : decode b_m_kindOfText 54 = .ok (.ireturn, 1) := by decide +kernel
end
section
variable {p : Program} {l : Launch} {e : Env} {R : Room} {s : State} {m : MethodId} {args : Array Value} {below : List Frame} {meth : Method} {c : Code} {cells slots : Nat} {Q : State → Prop} {A : Nat → Prop} {H0 : Heap} {D : va_G}
set_option maxHeartbeats 1000000 in
set_option maxRecDepth 100000 in
theorem lp_m_kindOfText_4 (cI cC : ClassId) (h i0 i1 a2 a3 a4 a5 a6 a7 a8 i9 a10 a11 a12 a13 a14 a15 i16 i17 a18 i19 a20 a21 i22 a23 : Nat) (tx : Nat → Nat) (hi1 : i1 ≤ 45) (htx : ∀ j, j < 45 → tx j < 65536) (S : CallFix p m c b_m_kindOfText 4 s args (cd_m_kindOfText :: WS) R_Model) (hRf : 1 ≤ R.frames) (hRl : 20 ≤ R.locals) (hRc : cells ≤ R.cells ∧ slots ≤ R.slots) (hK : va_K D classes [(cI, .int), (cC, .char)] s) (kx : ∀ (ls : Array Slot) (H : Heap) (locs : List Loc), lv_has ls 4 [(0, .ref h), (1, .int (nI (kdL tx i1))), (2, .int (nI i1))] → va_P D classes [(h, .inr (8, [.int (nI i0), .int (nI i1), .ref a2, .ref a3, .ref a4, .ref a5, .ref a6, .ref a7, .ref a8, .int (nI i9), .ref a10, .ref a11, .ref a12, .ref a13, .ref a14, .ref a15, .int (nI i16), .int (nI i17), .ref a18, .int (nI i19), .ref a20, .ref a21, .int (nI i22), .ref a23])), (a2, .inl (cI, 45, .inl (fun j => nI (tx j))))] H → va_S A H0 H locs → W p l e R s m args below meth c H locs cells slots Q (F0 m 53 ls [])) :
    ∀ k, k ≤ i1 → ∀ (ls : Array Slot) (H : Heap) (locs : List Loc), lv_has ls 4 [(0, .ref h), (1, .int (nI (kdL tx k))), (2, .int (nI k))] → va_P D classes [(h, .inr (8, [.int (nI i0), .int (nI i1), .ref a2, .ref a3, .ref a4, .ref a5, .ref a6, .ref a7, .ref a8, .int (nI i9), .ref a10, .ref a11, .ref a12, .ref a13, .ref a14, .ref a15, .int (nI i16), .int (nI i17), .ref a18, .int (nI i19), .ref a20, .ref a21, .int (nI i22), .ref a23])), (a2, .inl (cI, 45, .inl (fun j => nI (tx j))))] H → va_S A H0 H locs → W p l e R s m args below meth c H locs cells slots Q (F0 m 4 ls []) := by
  obtain ⟨hx, hb, hml, hown, hts⟩ := id S
  refine up_loop (fun k hkk ih => ?_)
  intro ls H locs hl hP hS
  have hq := kdL_le tx k
  refine lv_iload_n hx hb d_m_kindOfText_4 rfl (lv_at hl 2 rfl) ?_
  refine lv_aload_n hx hb d_m_kindOfText_5 rfl (lv_at hl 0 rfl) ?_
  refine n_get (C := R_Model) (T := F_Model) (N := 24) (v := .int (nI i1)) hx hb hts u_Model_in hown hK hP 0 rfl rfl 1 (by decide) kw_777 rfl d_m_kindOfText_6 ?_
  refine n_icmp_ge hx hb d_m_kindOfText_9 (tgt := 53) rfl (by omega) (by omega) (fun g9 => ?_) (fun g9 => ?_)
  · skip
    obtain rfl : k = i1 := by omega
    exact kx ls H locs (lv_sub hl [0, 1, 2] rfl) hP hS
  · skip
    have htk := htx k (by omega)
    refine lv_aload_n hx hb d_m_kindOfText_12 rfl (lv_at hl 0 rfl) ?_
    refine n_get (C := R_Model) (T := F_Model) (N := 24) (v := .ref a2) hx hb hts u_Model_in hown hK hP 0 rfl rfl 2 (by decide) kw_778 rfl d_m_kindOfText_13 ?_
    refine lv_iload_n hx hb d_m_kindOfText_16 rfl (lv_at hl 2 rfl) ?_
    refine n_iald hx hb hK hP 1 0 rfl rfl (by omega) (by decide) d_m_kindOfText_17 ?_
    refine q_pureS (n := 1) (As := [.int (nI (tx k))]) (rest := []) S (c_m_plain l (tx k) (by omega)) (q_goodS kw_872 kw_873 kw_10 kw_874) (by decide +kernel) rfl rfl ⟨Nat.le_trans (Nat.le_of_ble_eq_true rfl) hRf, Nat.le_trans (Nat.le_of_ble_eq_true rfl) hRl⟩ rfl hl.1 rfl (Nat.le_of_ble_eq_true rfl) d_m_kindOfText_18 hRc hS (fun H locs hkp hS => ?_)
    replace hP := hP.kept (fun k q hq => hkp q.1 (hP k q hq).lt)
    refine lv_istore_n hx hb d_m_kindOfText_21 rfl hl (Nat.le_of_ble_eq_true rfl) rfl (fun ls hl => ?_)
    have hl : lv_has ls 4 [(3, .int (plI (tx k))), (0, .ref h), (1, .int (nI (kdL tx k))), (2, .int (nI k))] := hl
    refine lv_iload_n hx hb d_m_kindOfText_22 rfl (lv_at hl 0 rfl) ?_
    refine lv_if_ge hx hb d_m_kindOfText_23 (tgt := 30) rfl (fun g23 => ?_) (fun g23 => ?_)
    · skip
      refine lv_iload_n hx hb d_m_kindOfText_30 rfl (lv_at hl 0 rfl) ?_
      refine lv_bipush (v := nI 9) hx hb d_m_kindOfText_31 (by decide) ?_
      refine lv_icmp_le hx hb d_m_kindOfText_33 (tgt := 45) rfl (fun g33 => ?_) (fun g33 => ?_)
      · skip
        refine lv_iload_n hx hb d_m_kindOfText_45 rfl (lv_at hl 2 rfl) ?_
        refine n_topn (show kdL tx k = kdL tx (k + 1) from (by first | exact (kdL_a g23).symm | exact (kdL_b g23 g33 g38).symm | exact (kdL_c g23 g33 g38).symm | exact (kdL_d g23 g33).symm)) ?_
        refine lv_istore_n hx hb d_m_kindOfText_46 rfl hl (Nat.le_of_ble_eq_true rfl) rfl (fun ls hl => ?_)
        have hl : lv_has ls 4 [(1, .int (nI (kdL tx (k + 1)))), (3, .int (plI (tx k))), (0, .ref h), (2, .int (nI k))] := hl
        refine lv_iinc (k := 3) (v := nI (k + 1)) hx hb d_m_kindOfText_47 hl rfl (nx_inc k 1) (Nat.le_of_ble_eq_true rfl) rfl (fun ls hl => ?_)
        have hl : lv_has ls 4 [(2, .int (nI (k + 1))), (1, .int (nI (kdL tx (k + 1)))), (3, .int (plI (tx k))), (0, .ref h)] := hl
        refine lv_goto hx hb d_m_kindOfText_50 (tgt := 4) rfl ?_
        exact ih (by omega) ls H locs (lv_sub hl [3, 1, 0] rfl) hP hS
      · skip
        refine lv_iload_n hx hb d_m_kindOfText_36 rfl (lv_at hl 2 rfl) ?_
        refine lv_iconst (v := nI 1) hx hb d_m_kindOfText_37 (by decide) ?_
        refine n_icmp_ne hx hb d_m_kindOfText_38 (tgt := 45) rfl (by omega) (by omega) (fun g38 => ?_) (fun g38 => ?_)
        · skip
          refine lv_iload_n hx hb d_m_kindOfText_45 rfl (lv_at hl 2 rfl) ?_
          refine n_topn (show kdL tx k = kdL tx (k + 1) from (by first | exact (kdL_a g23).symm | exact (kdL_b g23 g33 g38).symm | exact (kdL_c g23 g33 g38).symm | exact (kdL_d g23 g33).symm)) ?_
          refine lv_istore_n hx hb d_m_kindOfText_46 rfl hl (Nat.le_of_ble_eq_true rfl) rfl (fun ls hl => ?_)
          have hl : lv_has ls 4 [(1, .int (nI (kdL tx (k + 1)))), (3, .int (plI (tx k))), (0, .ref h), (2, .int (nI k))] := hl
          refine lv_iinc (k := 3) (v := nI (k + 1)) hx hb d_m_kindOfText_47 hl rfl (nx_inc k 1) (Nat.le_of_ble_eq_true rfl) rfl (fun ls hl => ?_)
          have hl : lv_has ls 4 [(2, .int (nI (k + 1))), (1, .int (nI (kdL tx (k + 1)))), (3, .int (plI (tx k))), (0, .ref h)] := hl
          refine lv_goto hx hb d_m_kindOfText_50 (tgt := 4) rfl ?_
          exact ih (by omega) ls H locs (lv_sub hl [3, 1, 0] rfl) hP hS
        · skip
          refine lv_iconst (v := nI 2) hx hb d_m_kindOfText_41 (by decide) ?_
          refine lv_goto hx hb d_m_kindOfText_42 (tgt := 46) rfl ?_
          refine n_topn (show 2 = kdL tx (k + 1) from (by first | exact (kdL_a g23).symm | exact (kdL_b g23 g33 g38).symm | exact (kdL_c g23 g33 g38).symm | exact (kdL_d g23 g33).symm)) ?_
          refine lv_istore_n hx hb d_m_kindOfText_46 rfl hl (Nat.le_of_ble_eq_true rfl) rfl (fun ls hl => ?_)
          have hl : lv_has ls 4 [(1, .int (nI (kdL tx (k + 1)))), (3, .int (plI (tx k))), (0, .ref h), (2, .int (nI k))] := hl
          refine lv_iinc (k := 3) (v := nI (k + 1)) hx hb d_m_kindOfText_47 hl rfl (nx_inc k 1) (Nat.le_of_ble_eq_true rfl) rfl (fun ls hl => ?_)
          have hl : lv_has ls 4 [(2, .int (nI (k + 1))), (1, .int (nI (kdL tx (k + 1)))), (3, .int (plI (tx k))), (0, .ref h)] := hl
          refine lv_goto hx hb d_m_kindOfText_50 (tgt := 4) rfl ?_
          exact ih (by omega) ls H locs (lv_sub hl [3, 1, 0] rfl) hP hS
    · skip
      refine lv_iconst (v := nI 4) hx hb d_m_kindOfText_26 (by decide) ?_
      refine lv_goto hx hb d_m_kindOfText_27 (tgt := 46) rfl ?_
      refine n_topn (show 4 = kdL tx (k + 1) from (by first | exact (kdL_a g23).symm | exact (kdL_b g23 g33 g38).symm | exact (kdL_c g23 g33 g38).symm | exact (kdL_d g23 g33).symm)) ?_
      refine lv_istore_n hx hb d_m_kindOfText_46 rfl hl (Nat.le_of_ble_eq_true rfl) rfl (fun ls hl => ?_)
      have hl : lv_has ls 4 [(1, .int (nI (kdL tx (k + 1)))), (3, .int (plI (tx k))), (0, .ref h), (2, .int (nI k))] := hl
      refine lv_iinc (k := 3) (v := nI (k + 1)) hx hb d_m_kindOfText_47 hl rfl (nx_inc k 1) (Nat.le_of_ble_eq_true rfl) rfl (fun ls hl => ?_)
      have hl : lv_has ls 4 [(2, .int (nI (k + 1))), (1, .int (nI (kdL tx (k + 1)))), (3, .int (plI (tx k))), (0, .ref h)] := hl
      refine lv_goto hx hb d_m_kindOfText_50 (tgt := 4) rfl ?_
      exact ih (by omega) ls H locs (lv_sub hl [3, 1, 0] rfl) hP hS
set_option maxHeartbeats 1000000 in
set_option maxRecDepth 100000 in
theorem bd_m_kindOfText (cI cC : ClassId) (h i0 i1 a2 a3 a4 a5 a6 a7 a8 i9 a10 a11 a12 a13 a14 a15 i16 i17 a18 i19 a20 a21 i22 a23 : Nat) (tx : Nat → Nat) (hi1 : i1 ≤ 45) (htx : ∀ j, j < 45 → tx j < 65536) (S : CallFix p m c b_m_kindOfText 4 s args (cd_m_kindOfText :: WS) R_Model) (hRf : 1 ≤ R.frames) (hRl : 20 ≤ R.locals) (hRc : cells ≤ R.cells ∧ slots ≤ R.slots) (hK : va_K D classes [(cI, .int), (cC, .char)] s) (kr : ∀ (pc : Nat) (ls : Array Slot) (H : Heap) (locs : List Loc), decode b_m_kindOfText pc = .ok (.ireturn, 1) → va_P D classes [(h, .inr (8, [.int (nI i0), .int (nI i1), .ref a2, .ref a3, .ref a4, .ref a5, .ref a6, .ref a7, .ref a8, .int (nI i9), .ref a10, .ref a11, .ref a12, .ref a13, .ref a14, .ref a15, .int (nI i16), .int (nI i17), .ref a18, .int (nI i19), .ref a20, .ref a21, .int (nI i22), .ref a23])), (a2, .inl (cI, 45, .inl (fun j => nI (tx j))))] H → va_S A H0 H locs → W p l e R s m args below meth c H locs cells slots Q (F0 m pc ls [.int (nI (kdL tx i1))])) : ∀ (ls : Array Slot) (H : Heap) (locs : List Loc), lv_has ls 4 [(0, .ref h)] → va_P D classes [(h, .inr (8, [.int (nI i0), .int (nI i1), .ref a2, .ref a3, .ref a4, .ref a5, .ref a6, .ref a7, .ref a8, .int (nI i9), .ref a10, .ref a11, .ref a12, .ref a13, .ref a14, .ref a15, .int (nI i16), .int (nI i17), .ref a18, .int (nI i19), .ref a20, .ref a21, .int (nI i22), .ref a23])), (a2, .inl (cI, 45, .inl (fun j => nI (tx j))))] H → va_S A H0 H locs → W p l e R s m args below meth c H locs cells slots Q (F0 m 0 ls []) := by
  obtain ⟨hx, hb, hml, hown, hts⟩ := id S
  intro ls H locs hl hP hS
  refine lv_iconst (v := nI 1) hx hb d_m_kindOfText_0 (by decide) ?_
  refine lv_istore_n hx hb d_m_kindOfText_1 rfl hl (Nat.le_of_ble_eq_true rfl) rfl (fun ls hl => ?_)
  have hl : lv_has ls 4 [(1, .int (nI 1)), (0, .ref h)] := hl
  refine lv_iconst (v := nI 0) hx hb d_m_kindOfText_2 (by decide) ?_
  refine lv_istore_n hx hb d_m_kindOfText_3 rfl hl (Nat.le_of_ble_eq_true rfl) rfl (fun ls hl => ?_)
  have hl : lv_has ls 4 [(2, .int (nI 0)), (1, .int (nI 1)), (0, .ref h)] := hl
  refine lp_m_kindOfText_4 cI cC h i0 i1 a2 a3 a4 a5 a6 a7 a8 i9 a10 a11 a12 a13 a14 a15 i16 i17 a18 i19 a20 a21 i22 a23 tx hi1 htx S hRf hRl hRc hK  (fun ls H locs hl hP hS => ?_) 0 (by omega) ls H locs (lv_sub hl [2, 1, 0] rfl) hP hS
  refine lv_iload_n hx hb d_m_kindOfText_53 rfl (lv_at hl 1 rfl) ?_
  exact kr _ ls H locs d_m_kindOfText_54 hP hS
set_option maxHeartbeats 1000000 in
set_option maxRecDepth 100000 in
theorem c_m_kindOfText (l : Launch) (D : va_G) (cI cC : ClassId) (h i0 i1 a2 a3 a4 a5 a6 a7 a8 i9 a10 a11 a12 a13 a14 a15 i16 i17 a18 i19 a20 a21 i22 a23 : Nat) (tx : Nat → Nat) (hi1 : i1 ≤ 45) (htx : ∀ j, j < 45 → tx j < 65536) : Met l y_m_kindOfText (cd_m_kindOfText :: WS) { frames := 1, cells := 0, slots := 0, locals := 20 } (va_Pc [.ref h] (rP D [(h, .inr (8, [.int (nI i0), .int (nI i1), .ref a2, .ref a3, .ref a4, .ref a5, .ref a6, .ref a7, .ref a8, .int (nI i9), .ref a10, .ref a11, .ref a12, .ref a13, .ref a14, .ref a15, .int (nI i16), .int (nI i17), .ref a18, .int (nI i19), .ref a20, .ref a21, .int (nI i22), .ref a23])), (a2, .inl (cI, 45, .inl (fun j => nI (tx j))))] [(cI, .int), (cC, .char)])) (pQ (nI (kdL tx i1))) 0 0 noA := by
  refine Met.ofW (cc := b_m_kindOfText) (maxL := 4) (ret := (some .int)) (by decide) rfl ?_
  intro p e s m args below meth c s₁ B hml hv0
  obtain ⟨rfl, hP, hK⟩ := hv0
  have hts := atoms_spec (ws := cd_m_kindOfText :: WS) B.pre
  have hown : s.vm.findClass R_Model = some m.cls := findClass_of_methodNamed B.named
  have hlocks := B.notSynchronized
  have hl := lv_entry ([.ref h]) (n := 4) (Nat.le_of_ble_eq_true rfl)
  rw [lg_entry_eq]
  generalize (lg_sl ([.ref h]) ++ List.replicate (4 - (lg_sl ([.ref h])).length) Slot.unset).toArray = ls at hl ⊢
  refine bd_m_kindOfText cI cC h i0 i1 a2 a3 a4 a5 a6 a7 a8 i9 a10 a11 a12 a13 a14 a15 i16 i17 a18 i19 a20 a21 i22 a23 tx hi1 htx ⟨B.exec, B.bytes, hml, hown, hts⟩ (Nat.le_refl _) (Nat.le_refl _) ⟨Nat.le_refl _, Nat.le_refl _⟩ hK (fun pc ls H locs hd hP hS => ?_) ls _ _ hl hP (va_S.rf (A := noA))
  exact W.iret B.exec B.bytes B.returns (fun t ht _ => ⟨⟨_, (), rfl, rfl, trivial⟩, hS.F ht⟩) hS.2.2 hd
end
section
theorem d_m_thrown_0 : decode b_m_thrown 0 = .ok (.aload_n 0, 1) := by decide +kernel
theorem d_m_thrown_1 : decode b_m_thrown 1 = .ok (.getfield 65, 3) := by decide +kernel
theorem d_m_thrown_4 : decode b_m_thrown 4 = .ok (.ireturn, 1) := by decide +kernel
end
section
variable {p : Program} {l : Launch} {e : Env} {R : Room} {s : State} {m : MethodId} {args : Array Value} {below : List Frame} {meth : Method} {c : Code} {cells slots : Nat} {Q : State → Prop} {A : Nat → Prop} {H0 : Heap} {D : va_G}
set_option maxHeartbeats 1000000 in
set_option maxRecDepth 100000 in
theorem bd_m_thrown (cI cC : ClassId) (h i0 i1 a2 a3 a4 a5 a6 a7 a8 i9 a10 a11 a12 a13 a14 a15 i16 i17 a18 i19 a20 a21 i22 a23 : Nat) (S : CallFix p m c b_m_thrown 1 s args (cd_m_thrown :: WS) R_Model) (hRf : 0 ≤ R.frames) (hRl : 0 ≤ R.locals) (hRc : cells ≤ R.cells ∧ slots ≤ R.slots) (hK : va_K D classes [(cI, .int), (cC, .char)] s) (kr : ∀ (pc : Nat) (ls : Array Slot) (H : Heap) (locs : List Loc), decode b_m_thrown pc = .ok (.ireturn, 1) → va_P D classes [(h, .inr (8, [.int (nI i0), .int (nI i1), .ref a2, .ref a3, .ref a4, .ref a5, .ref a6, .ref a7, .ref a8, .int (nI i9), .ref a10, .ref a11, .ref a12, .ref a13, .ref a14, .ref a15, .int (nI i16), .int (nI i17), .ref a18, .int (nI i19), .ref a20, .ref a21, .int (nI i22), .ref a23]))] H → va_S A H0 H locs → W p l e R s m args below meth c H locs cells slots Q (F0 m pc ls [.int (nI i0)])) : ∀ (ls : Array Slot) (H : Heap) (locs : List Loc), lv_has ls 1 [(0, .ref h)] → va_P D classes [(h, .inr (8, [.int (nI i0), .int (nI i1), .ref a2, .ref a3, .ref a4, .ref a5, .ref a6, .ref a7, .ref a8, .int (nI i9), .ref a10, .ref a11, .ref a12, .ref a13, .ref a14, .ref a15, .int (nI i16), .int (nI i17), .ref a18, .int (nI i19), .ref a20, .ref a21, .int (nI i22), .ref a23]))] H → va_S A H0 H locs → W p l e R s m args below meth c H locs cells slots Q (F0 m 0 ls []) := by
  obtain ⟨hx, hb, hml, hown, hts⟩ := id S
  intro ls H locs hl hP hS
  refine lv_aload_n hx hb d_m_thrown_0 rfl (lv_at hl 0 rfl) ?_
  refine n_get (C := R_Model) (T := F_Model) (N := 24) (v := .int (nI i0)) hx hb hts u_Model_in hown hK hP 0 rfl rfl 0 (by decide) kw_776 rfl d_m_thrown_1 ?_
  exact kr _ ls H locs d_m_thrown_4 hP hS
set_option maxHeartbeats 1000000 in
set_option maxRecDepth 100000 in
theorem c_m_thrown (l : Launch) (D : va_G) (cI cC : ClassId) (h i0 i1 a2 a3 a4 a5 a6 a7 a8 i9 a10 a11 a12 a13 a14 a15 i16 i17 a18 i19 a20 a21 i22 a23 : Nat) : Met l y_m_thrown (cd_m_thrown :: WS) { frames := 0, cells := 0, slots := 0, locals := 0 } (va_Pc [.ref h] (rP D [(h, .inr (8, [.int (nI i0), .int (nI i1), .ref a2, .ref a3, .ref a4, .ref a5, .ref a6, .ref a7, .ref a8, .int (nI i9), .ref a10, .ref a11, .ref a12, .ref a13, .ref a14, .ref a15, .int (nI i16), .int (nI i17), .ref a18, .int (nI i19), .ref a20, .ref a21, .int (nI i22), .ref a23]))] [(cI, .int), (cC, .char)])) (pQ (nI i0)) 0 0 noA := by
  refine Met.ofW (cc := b_m_thrown) (maxL := 1) (ret := (some .int)) (by decide) rfl ?_
  intro p e s m args below meth c s₁ B hml hv0
  obtain ⟨rfl, hP, hK⟩ := hv0
  have hts := atoms_spec (ws := cd_m_thrown :: WS) B.pre
  have hown : s.vm.findClass R_Model = some m.cls := findClass_of_methodNamed B.named
  have hlocks := B.notSynchronized
  have hl := lv_entry ([.ref h]) (n := 1) (Nat.le_of_ble_eq_true rfl)
  rw [lg_entry_eq]
  generalize (lg_sl ([.ref h]) ++ List.replicate (1 - (lg_sl ([.ref h])).length) Slot.unset).toArray = ls at hl ⊢
  refine bd_m_thrown cI cC h i0 i1 a2 a3 a4 a5 a6 a7 a8 i9 a10 a11 a12 a13 a14 a15 i16 i17 a18 i19 a20 a21 i22 a23  ⟨B.exec, B.bytes, hml, hown, hts⟩ (Nat.le_refl _) (Nat.le_refl _) ⟨Nat.le_refl _, Nat.le_refl _⟩ hK (fun pc ls H locs hd hP hS => ?_) ls _ _ hl hP (va_S.rf (A := noA))
  exact W.iret B.exec B.bytes B.returns (fun t ht _ => ⟨⟨_, (), rfl, rfl, trivial⟩, hS.F ht⟩) hS.2.2 hd
end
section
theorem d_m_when_0 : decode b_m_when 0 = .ok (.aload_n 0, 1) := by decide +kernel
theorem d_m_when_1 : decode b_m_when 1 = .ok (.iload_n 1, 1) := by decide +kernel
theorem d_m_when_2 : decode b_m_when 2 = .ok (.ifCond .eq 7, 3) := by decide +kernel
theorem d_m_when_5 : decode b_m_when 5 = .ok (.iconst 0, 1) := by decide +kernel
theorem d_m_when_6 : decode b_m_when 6 = .ok (.goto 4, 3) := by decide +kernel
theorem d_m_when_9 : decode b_m_when 9 = .ok (.iload_n 2, 1) := by decide +kernel
theorem d_m_when_10 : decode b_m_when 10 = .ok (.putfield 65, 3) := by decide +kernel
theorem d_m_when_13 : decode b_m_when 13 = .ok (.iload_n 1, 1) := by decide +kernel
theorem d_m_when_14 : decode b_m_when 14 = .ok (.ireturn, 1) := by decide +kernel
end
section
variable {p : Program} {l : Launch} {e : Env} {R : Room} {s : State} {m : MethodId} {args : Array Value} {below : List Frame} {meth : Method} {c : Code} {cells slots : Nat} {Q : State → Prop} {A : Nat → Prop} {H0 : Heap} {D : va_G}
set_option maxHeartbeats 1000000 in
set_option maxRecDepth 100000 in
theorem bd_m_when (cI cC : ClassId) (h i0 i1 a2 a3 a4 a5 a6 a7 a8 i9 a10 a11 a12 a13 a14 a15 i16 i17 a18 i19 a20 a21 i22 a23 : Nat) (b n : Nat) (hb1 : b ≤ 1) (S : CallFix p m c b_m_when 3 s args (cd_m_when :: WS) R_Model) (hRf : 0 ≤ R.frames) (hRl : 0 ≤ R.locals) (hRc : cells ≤ R.cells ∧ slots ≤ R.slots) (hK : va_K D classes [(cI, .int), (cC, .char)] s) (hA : ∀ q, H0.size ≤ q → A q) (kr : ∀ (pc : Nat) (ls : Array Slot) (H : Heap) (locs : List Loc), decode b_m_when pc = .ok (.ireturn, 1) → va_P D classes [(h, .inr (8, [.int (nI (whN b n)), .int (nI i1), .ref a2, .ref a3, .ref a4, .ref a5, .ref a6, .ref a7, .ref a8, .int (nI i9), .ref a10, .ref a11, .ref a12, .ref a13, .ref a14, .ref a15, .int (nI i16), .int (nI i17), .ref a18, .int (nI i19), .ref a20, .ref a21, .int (nI i22), .ref a23]))] H → va_D A [(h, .inr (8, [.int (nI (whN b n)), .int (nI i1), .ref a2, .ref a3, .ref a4, .ref a5, .ref a6, .ref a7, .ref a8, .int (nI i9), .ref a10, .ref a11, .ref a12, .ref a13, .ref a14, .ref a15, .int (nI i16), .int (nI i17), .ref a18, .int (nI i19), .ref a20, .ref a21, .int (nI i22), .ref a23]))] → va_S A H0 H locs → W p l e R s m args below meth c H locs cells slots Q (F0 m pc ls [.int (nI b)])) : ∀ (ls : Array Slot) (H : Heap) (locs : List Loc), lv_has ls 3 [(0, .ref h), (1, .int (nI b)), (2, .int (nI n))] → va_P D classes [(h, .inr (8, [.int (nI i0), .int (nI i1), .ref a2, .ref a3, .ref a4, .ref a5, .ref a6, .ref a7, .ref a8, .int (nI i9), .ref a10, .ref a11, .ref a12, .ref a13, .ref a14, .ref a15, .int (nI i16), .int (nI i17), .ref a18, .int (nI i19), .ref a20, .ref a21, .int (nI i22), .ref a23]))] H → va_D A [(h, .inr (8, [.int (nI i0), .int (nI i1), .ref a2, .ref a3, .ref a4, .ref a5, .ref a6, .ref a7, .ref a8, .int (nI i9), .ref a10, .ref a11, .ref a12, .ref a13, .ref a14, .ref a15, .int (nI i16), .int (nI i17), .ref a18, .int (nI i19), .ref a20, .ref a21, .int (nI i22), .ref a23]))] → va_S A H0 H locs → W p l e R s m args below meth c H locs cells slots Q (F0 m 0 ls []) := by
  obtain ⟨hx, hb, hml, hown, hts⟩ := id S
  intro ls H locs hl hP hD hS
  refine lv_aload_n hx hb d_m_when_0 rfl (lv_at hl 0 rfl) ?_
  refine lv_iload_n hx hb d_m_when_1 rfl (lv_at hl 1 rfl) ?_
  refine n_if_eq hx hb d_m_when_2 (tgt := 9) rfl (by omega) (fun g2 => ?_) (fun g2 => ?_)
  · skip
    refine lv_iload_n hx hb d_m_when_9 rfl (lv_at hl 2 rfl) ?_
    refine n_topn (show n = whN b n from (by unfold whN; split <;> omega)) ?_
    refine n_put (C := R_Model) (T := F_Model) (N := 24) (v := .int (nI (whN b n))) hx hb hts u_Model_in t_Model t_Model_ok n_Model hown hK hP hD hS 0 rfl rfl 0 (by decide) kw_776 rfl rfl rfl (Nat.le_of_ble_eq_true rfl) d_m_when_10 (fun H locs hP hD hS => ?_)
    have hP : va_P D classes [(h, .inr (8, [.int (nI (whN b n)), .int (nI i1), .ref a2, .ref a3, .ref a4, .ref a5, .ref a6, .ref a7, .ref a8, .int (nI i9), .ref a10, .ref a11, .ref a12, .ref a13, .ref a14, .ref a15, .int (nI i16), .int (nI i17), .ref a18, .int (nI i19), .ref a20, .ref a21, .int (nI i22), .ref a23]))] H := hP
    have hD : va_D A [(h, .inr (8, [.int (nI (whN b n)), .int (nI i1), .ref a2, .ref a3, .ref a4, .ref a5, .ref a6, .ref a7, .ref a8, .int (nI i9), .ref a10, .ref a11, .ref a12, .ref a13, .ref a14, .ref a15, .int (nI i16), .int (nI i17), .ref a18, .int (nI i19), .ref a20, .ref a21, .int (nI i22), .ref a23]))] := hD
    refine lv_iload_n hx hb d_m_when_13 rfl (lv_at hl 1 rfl) ?_
    exact kr _ ls H locs d_m_when_14 hP hD hS
  · skip
    refine lv_iconst (v := nI 0) hx hb d_m_when_5 (by decide) ?_
    refine lv_goto hx hb d_m_when_6 (tgt := 10) rfl ?_
    refine n_topn (show 0 = whN b n from (by unfold whN; split <;> omega)) ?_
    refine n_put (C := R_Model) (T := F_Model) (N := 24) (v := .int (nI (whN b n))) hx hb hts u_Model_in t_Model t_Model_ok n_Model hown hK hP hD hS 0 rfl rfl 0 (by decide) kw_776 rfl rfl rfl (Nat.le_of_ble_eq_true rfl) d_m_when_10 (fun H locs hP hD hS => ?_)
    have hP : va_P D classes [(h, .inr (8, [.int (nI (whN b n)), .int (nI i1), .ref a2, .ref a3, .ref a4, .ref a5, .ref a6, .ref a7, .ref a8, .int (nI i9), .ref a10, .ref a11, .ref a12, .ref a13, .ref a14, .ref a15, .int (nI i16), .int (nI i17), .ref a18, .int (nI i19), .ref a20, .ref a21, .int (nI i22), .ref a23]))] H := hP
    have hD : va_D A [(h, .inr (8, [.int (nI (whN b n)), .int (nI i1), .ref a2, .ref a3, .ref a4, .ref a5, .ref a6, .ref a7, .ref a8, .int (nI i9), .ref a10, .ref a11, .ref a12, .ref a13, .ref a14, .ref a15, .int (nI i16), .int (nI i17), .ref a18, .int (nI i19), .ref a20, .ref a21, .int (nI i22), .ref a23]))] := hD
    refine lv_iload_n hx hb d_m_when_13 rfl (lv_at hl 1 rfl) ?_
    exact kr _ ls H locs d_m_when_14 hP hD hS
set_option maxHeartbeats 1000000 in
set_option maxRecDepth 100000 in
theorem c_m_when (l : Launch) (D : va_G) (cI cC : ClassId) (h i0 i1 a2 a3 a4 a5 a6 a7 a8 i9 a10 a11 a12 a13 a14 a15 i16 i17 a18 i19 a20 a21 i22 a23 : Nat) (b n : Nat) (hb1 : b ≤ 1) (sz : Nat) : Met l y_m_when (cd_m_when :: WS) { frames := 0, cells := 0, slots := 0, locals := 0 } (va_Pc [.ref h, .int (nI b), .int (nI n)] (wP D [(h, .inr (8, [.int (nI i0), .int (nI i1), .ref a2, .ref a3, .ref a4, .ref a5, .ref a6, .ref a7, .ref a8, .int (nI i9), .ref a10, .ref a11, .ref a12, .ref a13, .ref a14, .ref a15, .int (nI i16), .int (nI i17), .ref a18, .int (nI i19), .ref a20, .ref a21, .int (nI i22), .ref a23]))] [(cI, .int), (cC, .char)] sz)) (wQi D (nI b) [(h, .inr (8, [.int (nI i0), .int (nI i1), .ref a2, .ref a3, .ref a4, .ref a5, .ref a6, .ref a7, .ref a8, .int (nI i9), .ref a10, .ref a11, .ref a12, .ref a13, .ref a14, .ref a15, .int (nI i16), .int (nI i17), .ref a18, .int (nI i19), .ref a20, .ref a21, .int (nI i22), .ref a23]))] [(h, .inr (8, [.int (nI (whN b n)), .int (nI i1), .ref a2, .ref a3, .ref a4, .ref a5, .ref a6, .ref a7, .ref a8, .int (nI i9), .ref a10, .ref a11, .ref a12, .ref a13, .ref a14, .ref a15, .int (nI i16), .int (nI i17), .ref a18, .int (nI i19), .ref a20, .ref a21, .int (nI i22), .ref a23]))] sz) 0 0 (va_A [(h, .inr (8, [.int (nI i0), .int (nI i1), .ref a2, .ref a3, .ref a4, .ref a5, .ref a6, .ref a7, .ref a8, .int (nI i9), .ref a10, .ref a11, .ref a12, .ref a13, .ref a14, .ref a15, .int (nI i16), .int (nI i17), .ref a18, .int (nI i19), .ref a20, .ref a21, .int (nI i22), .ref a23]))] sz) := by
  refine Met.ofW (cc := b_m_when) (maxL := 3) (ret := (some .boolean)) (by decide) rfl ?_
  intro p e s m args below meth c s₁ B hml hv0
  obtain ⟨rfl, hP, hK, hD0, hsz⟩ := hv0
  have hts := atoms_spec (ws := cd_m_when :: WS) B.pre
  have hown : s.vm.findClass R_Model = some m.cls := findClass_of_methodNamed B.named
  have hlocks := B.notSynchronized
  subst hsz
  have hD := hD0.self (sz := s.heap.size)
  have hl := lv_entry ([.ref h, .int (nI b), .int (nI n)]) (n := 3) (Nat.le_of_ble_eq_true rfl)
  rw [lg_entry_eq]
  generalize (lg_sl ([.ref h, .int (nI b), .int (nI n)]) ++ List.replicate (3 - (lg_sl ([.ref h, .int (nI b), .int (nI n)])).length) Slot.unset).toArray = ls at hl ⊢
  refine bd_m_when cI cC h i0 i1 a2 a3 a4 a5 a6 a7 a8 i9 a10 a11 a12 a13 a14 a15 i16 i17 a18 i19 a20 a21 i22 a23 b n hb1 ⟨B.exec, B.bytes, hml, hown, hts⟩ (Nat.le_refl _) (Nat.le_refl _) ⟨Nat.le_refl _, Nat.le_refl _⟩ hK (fun q h => Or.inr h) (fun pc ls H locs hd hP hD hS => ?_) ls _ _ hl hP hD (va_S.rf)
  exact W.zret B.exec B.bytes B.returns (by rcases (show b = 0 ∨ b = 1 by omega) with hz | hz <;> rw [hz] <;> decide) (fun t ht _ => ⟨⟨_, (), rfl, rfl, (by have h9 := hP; rw [← ht] at h9; exact h9)⟩, hS.F ht⟩) hS.2.2 hd
end
section
theorem d_m_put_0 : decode b_m_put 0 = .ok (.iload_n 2, 1) := by decide +kernel
theorem d_m_put_1 : decode b_m_put 1 = .ok (.iconst 1, 1) := by decide +kernel
theorem d_m_put_2 : decode b_m_put 2 = .ok (.isub, 1) := by decide +kernel
theorem d_m_put_3 : decode b_m_put 3 = .ok (.istore_n 3, 1) := by decide +kernel
theorem d_m_put_4 : decode b_m_put 4 = .ok (.iload_n 3, 1) := by decide +kernel
theorem d_m_put_5 : decode b_m_put 5 = .ok (.ifCond .lt 43, 3) := by decide +kernel
theorem d_m_put_8 : decode b_m_put 8 = .ok (.aload_n 0, 1) := by decide +kernel
theorem d_m_put_9 : decode b_m_put 9 = .ok (.getfield 83, 3) := by decide +kernel
theorem d_m_put_12 : decode b_m_put 12 = .ok (.sipush 208, 3) := by decide +kernel
theorem d_m_put_15 : decode b_m_put 15 = .ok (.if_icmp .ge 17, 3) := by decide +kernel
theorem d_m_put_18 : decode b_m_put 18 = .ok (.aload_n 0, 1) := by decide +kernel
theorem d_m_put_19 : decode b_m_put 19 = .ok (.getfield 28, 3) := by decide +kernel
theorem d_m_put_22 : decode b_m_put 22 = .ok (.aload_n 0, 1) := by decide +kernel
theorem d_m_put_23 : decode b_m_put 23 = .ok (.getfield 83, 3) := by decide +kernel
theorem d_m_put_26 : decode b_m_put 26 = .ok (.iload_n 1, 1) := by decide +kernel
theorem d_m_put_27 : decode b_m_put 27 = .ok (.iload_n 3, 1) := by decide +kernel
theorem d_m_put_28 : decode b_m_put 28 = .ok (.ishr, 1) := by decide +kernel
theorem d_m_put_29 : decode b_m_put 29 = .ok (.iconst 1, 1) := by decide +kernel
theorem d_m_put_30 : decode b_m_put 30 = .ok (.iand, 1) := by decide +kernel
theorem d_m_put_31 : decode b_m_put 31 = .ok (.iastore, 1) := by decide +kernel
theorem d_m_put_32 : decode b_m_put 32 = .ok (.aload_n 0, 1) := by decide +kernel
theorem d_m_put_33 : decode b_m_put 33 = .ok (.dup, 1) := by decide +kernel
theorem d_m_put_34 : decode b_m_put 34 = .ok (.getfield 83, 3) := by decide +kernel
theorem d_m_put_37 : decode b_m_put 37 = .ok (.iconst 1, 1) := by decide +kernel
theorem d_m_put_38 : decode b_m_put 38 = .ok (.iadd, 1) := by decide +kernel
theorem d_m_put_39 : decode b_m_put 39 = .ok (.putfield 83, 3) := by decide +kernel
theorem d_m_put_42 : decode b_m_put 42 = .ok (.iinc 3 (-1), 3) := by decide +kernel
theorem d_m_put_45 : decode b_m_put 45 = .ok (.goto (-41), 3) := by decide +kernel
theorem d_m_put_48 : decode b_m_put 48 = .ok (.return_, 1) := by decide +kernel
end
section
variable {p : Program} {l : Launch} {e : Env} {R : Room} {s : State} {m : MethodId} {args : Array Value} {below : List Frame} {meth : Method} {c : Code} {cells slots : Nat} {Q : State → Prop} {A : Nat → Prop} {H0 : Heap} {D : va_G}
set_option maxHeartbeats 1000000 in
set_option maxRecDepth 100000 in
theorem lp_m_put_4 (cI cC : ClassId) (h i0 i1 a2 a3 a4 a5 a6 a7 a8 i9 a10 a11 a12 a13 a14 a15 i16 i17 a18 i19 a20 a21 i22 a23 : Nat) (bi : Nat → Nat) (v n : Nat) (hv : v < 65536) (hn : n ≤ 16) (hm : i9 < 100000) (S : CallFix p m c b_m_put 4 s args (cd_m_put :: WS) R_Model) (hRf : 0 ≤ R.frames) (hRl : 0 ≤ R.locals) (hRc : cells ≤ R.cells ∧ slots ≤ R.slots) (hK : va_K D classes [(cI, .int), (cC, .char)] s) (hA : ∀ q, H0.size ≤ q → A q) (kx : ∀ (ls : Array Slot) (H : Heap) (locs : List Loc), lv_has ls 4 [(0, .ref h), (1, .int (nI v)), (2, .int (nI n)), (3, .int (-1))] → va_P D classes [(h, .inr (8, [.int (nI i0), .int (nI i1), .ref a2, .ref a3, .ref a4, .ref a5, .ref a6, .ref a7, .ref a8, .int (nI (i9 + n)), .ref a10, .ref a11, .ref a12, .ref a13, .ref a14, .ref a15, .int (nI i16), .int (nI i17), .ref a18, .int (nI i19), .ref a20, .ref a21, .int (nI i22), .ref a23])), (a8, .inl (cI, 208, .inl (fun j => nI ((ptL bi i9 v n n) j))))] H → va_D A [(h, .inr (8, [.int (nI i0), .int (nI i1), .ref a2, .ref a3, .ref a4, .ref a5, .ref a6, .ref a7, .ref a8, .int (nI (i9 + n)), .ref a10, .ref a11, .ref a12, .ref a13, .ref a14, .ref a15, .int (nI i16), .int (nI i17), .ref a18, .int (nI i19), .ref a20, .ref a21, .int (nI i22), .ref a23])), (a8, .inl (cI, 208, .inl (fun j => nI ((ptL bi i9 v n n) j))))] → va_S A H0 H locs → W p l e R s m args below meth c H locs cells slots Q (F0 m 48 ls [])) :
    ∀ i, i ≤ n → ∀ (ls : Array Slot) (H : Heap) (locs : List Loc), lv_has ls 4 [(0, .ref h), (1, .int (nI v)), (2, .int (nI n)), (3, .int (nI (n - i) - 1))] → va_P D classes [(h, .inr (8, [.int (nI i0), .int (nI i1), .ref a2, .ref a3, .ref a4, .ref a5, .ref a6, .ref a7, .ref a8, .int (nI (i9 + i)), .ref a10, .ref a11, .ref a12, .ref a13, .ref a14, .ref a15, .int (nI i16), .int (nI i17), .ref a18, .int (nI i19), .ref a20, .ref a21, .int (nI i22), .ref a23])), (a8, .inl (cI, 208, .inl (fun j => nI ((ptL bi i9 v n i) j))))] H → va_D A [(h, .inr (8, [.int (nI i0), .int (nI i1), .ref a2, .ref a3, .ref a4, .ref a5, .ref a6, .ref a7, .ref a8, .int (nI (i9 + i)), .ref a10, .ref a11, .ref a12, .ref a13, .ref a14, .ref a15, .int (nI i16), .int (nI i17), .ref a18, .int (nI i19), .ref a20, .ref a21, .int (nI i22), .ref a23])), (a8, .inl (cI, 208, .inl (fun j => nI ((ptL bi i9 v n i) j))))] → va_S A H0 H locs → W p l e R s m args below meth c H locs cells slots Q (F0 m 4 ls []) := by
  obtain ⟨hx, hb, hml, hown, hts⟩ := id S
  refine up_loop (fun i hki ih => ?_)
  intro ls H locs hl hP hD hS
  rcases Nat.lt_or_ge i n with hdn | hdn
  · skip
    have hl : lv_has ls 4 [(0, .ref h), (1, .int (nI v)), (2, .int (nI n)), (3, .int (nI (n - (i + 1))))] := lv_re hl (by rw [nx_dn hdn])
    refine lv_iload_n hx hb d_m_put_4 rfl (lv_at hl 3 rfl) ?_
    refine n_if_lt hx hb d_m_put_5 (tgt := 48) rfl (by omega) ?_
    refine lv_aload_n hx hb d_m_put_8 rfl (lv_at hl 0 rfl) ?_
    refine n_get (C := R_Model) (T := F_Model) (N := 24) (v := .int (nI (i9 + i))) hx hb hts u_Model_in hown hK hP 0 rfl rfl 9 (by decide) kw_785 rfl d_m_put_9 ?_
    refine lv_sipush (v := nI 208) hx hb d_m_put_12 (by decide) ?_
    refine n_icmp_ge hx hb d_m_put_15 (tgt := 32) rfl (by omega) (by omega) (fun g15 => ?_) (fun g15 => ?_)
    · skip
      refine lv_aload_n hx hb d_m_put_32 rfl (lv_at hl 0 rfl) ?_
      refine lv_dup hx hb d_m_put_33 rfl ?_
      refine n_get (C := R_Model) (T := F_Model) (N := 24) (v := .int (nI (i9 + i))) hx hb hts u_Model_in hown hK hP 0 rfl rfl 9 (by decide) kw_785 rfl d_m_put_34 ?_
      refine lv_iconst (v := nI 1) hx hb d_m_put_37 (by decide) ?_
      refine n_iadd hx hb d_m_put_38 ?_
      refine n_put (C := R_Model) (T := F_Model) (N := 24) (v := .int (nI ((i9 + i) + 1))) hx hb hts u_Model_in t_Model t_Model_ok n_Model hown hK hP hD hS 0 rfl rfl 9 (by decide) kw_785 rfl rfl rfl (Nat.le_of_ble_eq_true rfl) d_m_put_39 (fun H locs hP hD hS => ?_)
      have hP : va_P D classes [(h, .inr (8, [.int (nI i0), .int (nI i1), .ref a2, .ref a3, .ref a4, .ref a5, .ref a6, .ref a7, .ref a8, .int (nI ((i9 + i) + 1)), .ref a10, .ref a11, .ref a12, .ref a13, .ref a14, .ref a15, .int (nI i16), .int (nI i17), .ref a18, .int (nI i19), .ref a20, .ref a21, .int (nI i22), .ref a23])), (a8, .inl (cI, 208, .inl (fun j => nI ((ptL bi i9 v n i) j))))] H := hP
      have hD : va_D A [(h, .inr (8, [.int (nI i0), .int (nI i1), .ref a2, .ref a3, .ref a4, .ref a5, .ref a6, .ref a7, .ref a8, .int (nI ((i9 + i) + 1)), .ref a10, .ref a11, .ref a12, .ref a13, .ref a14, .ref a15, .int (nI i16), .int (nI i17), .ref a18, .int (nI i19), .ref a20, .ref a21, .int (nI i22), .ref a23])), (a8, .inl (cI, 208, .inl (fun j => nI ((ptL bi i9 v n i) j))))] := hD
      refine lv_iinc (k := 3) (v := nI (n - (i + 1)) - 1) hx hb d_m_put_42 hl rfl (nx_dec (n - (i + 1))) (Nat.le_of_ble_eq_true rfl) rfl (fun ls hl => ?_)
      have hl : lv_has ls 4 [(3, .int (nI (n - (i + 1)) - 1)), (0, .ref h), (1, .int (nI v)), (2, .int (nI n))] := hl
      refine lv_goto hx hb d_m_put_45 (tgt := 4) rfl ?_
      rw [show ptL bi i9 v n i = ptL bi i9 v n (i + 1) from (ptL_f g15).symm] at hP hD
      exact ih (by omega) ls H locs (lv_sub hl [1, 2, 3, 0] rfl) hP hD hS
    · skip
      refine lv_aload_n hx hb d_m_put_18 rfl (lv_at hl 0 rfl) ?_
      refine n_get (C := R_Model) (T := F_Model) (N := 24) (v := .ref a8) hx hb hts u_Model_in hown hK hP 0 rfl rfl 8 (by decide) kw_784 rfl d_m_put_19 ?_
      refine lv_aload_n hx hb d_m_put_22 rfl (lv_at hl 0 rfl) ?_
      refine n_get (C := R_Model) (T := F_Model) (N := 24) (v := .int (nI (i9 + i))) hx hb hts u_Model_in hown hK hP 0 rfl rfl 9 (by decide) kw_785 rfl d_m_put_23 ?_
      refine lv_iload_n hx hb d_m_put_26 rfl (lv_at hl 1 rfl) ?_
      refine lv_iload_n hx hb d_m_put_27 rfl (lv_at hl 3 rfl) ?_
      refine n_ishr hx hb d_m_put_28 (by omega) (by omega) ?_
      refine lv_iconst (v := nI 1) hx hb d_m_put_29 (by decide) ?_
      refine n_and1 hx hb d_m_put_30 ?_
      refine n_iast hx hb hK hP hD hS 1 0 rfl rfl (by omega) (by decide) d_m_put_31 (fun H locs hP hD hS => ?_)
      have hP : va_P D classes [(h, .inr (8, [.int (nI i0), .int (nI i1), .ref a2, .ref a3, .ref a4, .ref a5, .ref a6, .ref a7, .ref a8, .int (nI (i9 + i)), .ref a10, .ref a11, .ref a12, .ref a13, .ref a14, .ref a15, .int (nI i16), .int (nI i17), .ref a18, .int (nI i19), .ref a20, .ref a21, .int (nI i22), .ref a23])), (a8, .inl (cI, 208, .inl (fun j => nI ((va_up (ptL bi i9 v n i) (i9 + i) ((v / 2 ^ (n - (i + 1))) % 2)) j))))] H := hP
      have hD : va_D A [(h, .inr (8, [.int (nI i0), .int (nI i1), .ref a2, .ref a3, .ref a4, .ref a5, .ref a6, .ref a7, .ref a8, .int (nI (i9 + i)), .ref a10, .ref a11, .ref a12, .ref a13, .ref a14, .ref a15, .int (nI i16), .int (nI i17), .ref a18, .int (nI i19), .ref a20, .ref a21, .int (nI i22), .ref a23])), (a8, .inl (cI, 208, .inl (fun j => nI ((va_up (ptL bi i9 v n i) (i9 + i) ((v / 2 ^ (n - (i + 1))) % 2)) j))))] := hD
      rw [show va_up (ptL bi i9 v n i) (i9 + i) ((v / 2 ^ (n - (i + 1))) % 2) = ptL bi i9 v n (i + 1) from (ptL_t g15).symm] at hP hD
      refine lv_aload_n hx hb d_m_put_32 rfl (lv_at hl 0 rfl) ?_
      refine lv_dup hx hb d_m_put_33 rfl ?_
      refine n_get (C := R_Model) (T := F_Model) (N := 24) (v := .int (nI (i9 + i))) hx hb hts u_Model_in hown hK hP 0 rfl rfl 9 (by decide) kw_785 rfl d_m_put_34 ?_
      refine lv_iconst (v := nI 1) hx hb d_m_put_37 (by decide) ?_
      refine n_iadd hx hb d_m_put_38 ?_
      refine n_put (C := R_Model) (T := F_Model) (N := 24) (v := .int (nI ((i9 + i) + 1))) hx hb hts u_Model_in t_Model t_Model_ok n_Model hown hK hP hD hS 0 rfl rfl 9 (by decide) kw_785 rfl rfl rfl (Nat.le_of_ble_eq_true rfl) d_m_put_39 (fun H locs hP hD hS => ?_)
      have hP : va_P D classes [(h, .inr (8, [.int (nI i0), .int (nI i1), .ref a2, .ref a3, .ref a4, .ref a5, .ref a6, .ref a7, .ref a8, .int (nI ((i9 + i) + 1)), .ref a10, .ref a11, .ref a12, .ref a13, .ref a14, .ref a15, .int (nI i16), .int (nI i17), .ref a18, .int (nI i19), .ref a20, .ref a21, .int (nI i22), .ref a23])), (a8, .inl (cI, 208, .inl (fun j => nI ((ptL bi i9 v n (i + 1)) j))))] H := hP
      have hD : va_D A [(h, .inr (8, [.int (nI i0), .int (nI i1), .ref a2, .ref a3, .ref a4, .ref a5, .ref a6, .ref a7, .ref a8, .int (nI ((i9 + i) + 1)), .ref a10, .ref a11, .ref a12, .ref a13, .ref a14, .ref a15, .int (nI i16), .int (nI i17), .ref a18, .int (nI i19), .ref a20, .ref a21, .int (nI i22), .ref a23])), (a8, .inl (cI, 208, .inl (fun j => nI ((ptL bi i9 v n (i + 1)) j))))] := hD
      refine lv_iinc (k := 3) (v := nI (n - (i + 1)) - 1) hx hb d_m_put_42 hl rfl (nx_dec (n - (i + 1))) (Nat.le_of_ble_eq_true rfl) rfl (fun ls hl => ?_)
      have hl : lv_has ls 4 [(3, .int (nI (n - (i + 1)) - 1)), (0, .ref h), (1, .int (nI v)), (2, .int (nI n))] := hl
      refine lv_goto hx hb d_m_put_45 (tgt := 4) rfl ?_
      exact ih (by omega) ls H locs (lv_sub hl [1, 2, 3, 0] rfl) hP hD hS
  · skip
    have e9 : i = n := by omega
    have hl : lv_has ls 4 [(0, .ref h), (1, .int (nI v)), (2, .int (nI n)), (3, .int (-1))] := lv_re hl (by rw [e9, nx_dn0])
    rw [e9] at hP hD
    refine lv_iload_n hx hb d_m_put_4 rfl (lv_at hl 3 rfl) ?_
    refine n_dn_lt hx hb d_m_put_5 (tgt := 48) rfl ?_
    exact kx ls H locs (lv_sub hl [0, 1, 2, 3] rfl) hP hD hS
set_option maxHeartbeats 1000000 in
set_option maxRecDepth 100000 in
theorem bd_m_put (cI cC : ClassId) (h i0 i1 a2 a3 a4 a5 a6 a7 a8 i9 a10 a11 a12 a13 a14 a15 i16 i17 a18 i19 a20 a21 i22 a23 : Nat) (bi : Nat → Nat) (v n : Nat) (hv : v < 65536) (hn : n ≤ 16) (hm : i9 < 100000) (S : CallFix p m c b_m_put 4 s args (cd_m_put :: WS) R_Model) (hRf : 0 ≤ R.frames) (hRl : 0 ≤ R.locals) (hRc : cells ≤ R.cells ∧ slots ≤ R.slots) (hK : va_K D classes [(cI, .int), (cC, .char)] s) (hA : ∀ q, H0.size ≤ q → A q) (kr : ∀ (pc : Nat) (ls : Array Slot) (H : Heap) (locs : List Loc), decode b_m_put pc = .ok (.return_, 1) → va_P D classes [(h, .inr (8, [.int (nI i0), .int (nI i1), .ref a2, .ref a3, .ref a4, .ref a5, .ref a6, .ref a7, .ref a8, .int (nI (i9 + n)), .ref a10, .ref a11, .ref a12, .ref a13, .ref a14, .ref a15, .int (nI i16), .int (nI i17), .ref a18, .int (nI i19), .ref a20, .ref a21, .int (nI i22), .ref a23])), (a8, .inl (cI, 208, .inl (fun j => nI ((ptL bi i9 v n n) j))))] H → va_D A [(h, .inr (8, [.int (nI i0), .int (nI i1), .ref a2, .ref a3, .ref a4, .ref a5, .ref a6, .ref a7, .ref a8, .int (nI (i9 + n)), .ref a10, .ref a11, .ref a12, .ref a13, .ref a14, .ref a15, .int (nI i16), .int (nI i17), .ref a18, .int (nI i19), .ref a20, .ref a21, .int (nI i22), .ref a23])), (a8, .inl (cI, 208, .inl (fun j => nI ((ptL bi i9 v n n) j))))] → va_S A H0 H locs → W p l e R s m args below meth c H locs cells slots Q (F0 m pc ls [])) : ∀ (ls : Array Slot) (H : Heap) (locs : List Loc), lv_has ls 4 [(0, .ref h), (1, .int (nI v)), (2, .int (nI n))] → va_P D classes [(h, .inr (8, [.int (nI i0), .int (nI i1), .ref a2, .ref a3, .ref a4, .ref a5, .ref a6, .ref a7, .ref a8, .int (nI i9), .ref a10, .ref a11, .ref a12, .ref a13, .ref a14, .ref a15, .int (nI i16), .int (nI i17), .ref a18, .int (nI i19), .ref a20, .ref a21, .int (nI i22), .ref a23])), (a8, .inl (cI, 208, .inl (fun j => nI (bi j))))] H → va_D A [(h, .inr (8, [.int (nI i0), .int (nI i1), .ref a2, .ref a3, .ref a4, .ref a5, .ref a6, .ref a7, .ref a8, .int (nI i9), .ref a10, .ref a11, .ref a12, .ref a13, .ref a14, .ref a15, .int (nI i16), .int (nI i17), .ref a18, .int (nI i19), .ref a20, .ref a21, .int (nI i22), .ref a23])), (a8, .inl (cI, 208, .inl (fun j => nI (bi j))))] → va_S A H0 H locs → W p l e R s m args below meth c H locs cells slots Q (F0 m 0 ls []) := by
  obtain ⟨hx, hb, hml, hown, hts⟩ := id S
  intro ls H locs hl hP hD hS
  refine lv_iload_n hx hb d_m_put_0 rfl (lv_at hl 2 rfl) ?_
  refine lv_iconst (v := nI 1) hx hb d_m_put_1 (by decide) ?_
  refine lv_isub hx hb d_m_put_2 ?_
  refine n_top (show nI n - nI 1 = nI (n - 0) - 1 from nx_sub1 _) ?_
  refine lv_istore_n hx hb d_m_put_3 rfl hl (Nat.le_of_ble_eq_true rfl) rfl (fun ls hl => ?_)
  have hl : lv_has ls 4 [(3, .int (nI (n - 0) - 1)), (0, .ref h), (1, .int (nI v)), (2, .int (nI n))] := hl
  refine lp_m_put_4 cI cC h i0 i1 a2 a3 a4 a5 a6 a7 a8 i9 a10 a11 a12 a13 a14 a15 i16 i17 a18 i19 a20 a21 i22 a23 bi v n hv hn hm S hRf hRl hRc hK hA  (fun ls H locs hl hP hD hS => ?_) 0 (by omega) ls H locs (lv_sub hl [1, 2, 3, 0] rfl) hP hD hS
  exact kr _ ls H locs d_m_put_48 hP hD hS
set_option maxHeartbeats 1000000 in
set_option maxRecDepth 100000 in
theorem c_m_put (l : Launch) (D : va_G) (cI cC : ClassId) (h i0 i1 a2 a3 a4 a5 a6 a7 a8 i9 a10 a11 a12 a13 a14 a15 i16 i17 a18 i19 a20 a21 i22 a23 : Nat) (bi : Nat → Nat) (v n : Nat) (hv : v < 65536) (hn : n ≤ 16) (hm : i9 < 100000) (sz : Nat) : Met l y_m_put (cd_m_put :: WS) { frames := 0, cells := 0, slots := 0, locals := 0 } (va_Pc [.ref h, .int (nI v), .int (nI n)] (wP D [(h, .inr (8, [.int (nI i0), .int (nI i1), .ref a2, .ref a3, .ref a4, .ref a5, .ref a6, .ref a7, .ref a8, .int (nI i9), .ref a10, .ref a11, .ref a12, .ref a13, .ref a14, .ref a15, .int (nI i16), .int (nI i17), .ref a18, .int (nI i19), .ref a20, .ref a21, .int (nI i22), .ref a23])), (a8, .inl (cI, 208, .inl (fun j => nI (bi j))))] [(cI, .int), (cC, .char)] sz)) (wQv D [(h, .inr (8, [.int (nI i0), .int (nI i1), .ref a2, .ref a3, .ref a4, .ref a5, .ref a6, .ref a7, .ref a8, .int (nI i9), .ref a10, .ref a11, .ref a12, .ref a13, .ref a14, .ref a15, .int (nI i16), .int (nI i17), .ref a18, .int (nI i19), .ref a20, .ref a21, .int (nI i22), .ref a23])), (a8, .inl (cI, 208, .inl (fun j => nI (bi j))))] [(h, .inr (8, [.int (nI i0), .int (nI i1), .ref a2, .ref a3, .ref a4, .ref a5, .ref a6, .ref a7, .ref a8, .int (nI (i9 + n)), .ref a10, .ref a11, .ref a12, .ref a13, .ref a14, .ref a15, .int (nI i16), .int (nI i17), .ref a18, .int (nI i19), .ref a20, .ref a21, .int (nI i22), .ref a23])), (a8, .inl (cI, 208, .inl (fun j => nI ((ptL bi i9 v n n) j))))] sz) 0 0 (va_A [(h, .inr (8, [.int (nI i0), .int (nI i1), .ref a2, .ref a3, .ref a4, .ref a5, .ref a6, .ref a7, .ref a8, .int (nI i9), .ref a10, .ref a11, .ref a12, .ref a13, .ref a14, .ref a15, .int (nI i16), .int (nI i17), .ref a18, .int (nI i19), .ref a20, .ref a21, .int (nI i22), .ref a23])), (a8, .inl (cI, 208, .inl (fun j => nI (bi j))))] sz) := by
  refine Met.ofW (cc := b_m_put) (maxL := 4) (ret := none) (by decide) rfl ?_
  intro p e s m args below meth c s₁ B hml hv0
  obtain ⟨rfl, hP, hK, hD0, hsz⟩ := hv0
  have hts := atoms_spec (ws := cd_m_put :: WS) B.pre
  have hown : s.vm.findClass R_Model = some m.cls := findClass_of_methodNamed B.named
  have hlocks := B.notSynchronized
  subst hsz
  have hD := hD0.self (sz := s.heap.size)
  have hl := lv_entry ([.ref h, .int (nI v), .int (nI n)]) (n := 4) (Nat.le_of_ble_eq_true rfl)
  rw [lg_entry_eq]
  generalize (lg_sl ([.ref h, .int (nI v), .int (nI n)]) ++ List.replicate (4 - (lg_sl ([.ref h, .int (nI v), .int (nI n)])).length) Slot.unset).toArray = ls at hl ⊢
  refine bd_m_put cI cC h i0 i1 a2 a3 a4 a5 a6 a7 a8 i9 a10 a11 a12 a13 a14 a15 i16 i17 a18 i19 a20 a21 i22 a23 bi v n hv hn hm ⟨B.exec, B.bytes, hml, hown, hts⟩ (Nat.le_refl _) (Nat.le_refl _) ⟨Nat.le_refl _, Nat.le_refl _⟩ hK (fun q h => Or.inr h) (fun pc ls H locs hd hP hD hS => ?_) ls _ _ hl hP hD (va_S.rf)
  exact W.vret B.exec B.bytes B.returns (fun t ht _ => ⟨⟨(), rfl, trivial, (by have h9 := hP; rw [← ht] at h9; exact h9)⟩, hS.F ht⟩) hS.2.2 hd
end
section
theorem d_m_next_0 : decode b_m_next 0 = .ok (.iconst 0, 1) := by decide +kernel
theorem d_m_next_1 : decode b_m_next 1 = .ok (.istore_n 2, 1) := by decide +kernel
theorem d_m_next_2 : decode b_m_next 2 = .ok (.iconst 0, 1) := by decide +kernel
theorem d_m_next_3 : decode b_m_next 3 = .ok (.istore_n 3, 1) := by decide +kernel
theorem d_m_next_4 : decode b_m_next 4 = .ok (.iload_n 3, 1) := by decide +kernel
theorem d_m_next_5 : decode b_m_next 5 = .ok (.iload_n 1, 1) := by decide +kernel
theorem d_m_next_6 : decode b_m_next 6 = .ok (.if_icmp .ge 49, 3) := by decide +kernel
theorem d_m_next_9 : decode b_m_next 9 = .ok (.iconst 2, 1) := by decide +kernel
theorem d_m_next_10 : decode b_m_next 10 = .ok (.iload_n 2, 1) := by decide +kernel
theorem d_m_next_11 : decode b_m_next 11 = .ok (.imul, 1) := by decide +kernel
theorem d_m_next_12 : decode b_m_next 12 = .ok (.aload_n 0, 1) := by decide +kernel
theorem d_m_next_13 : decode b_m_next 13 = .ok (.getfield 34, 3) := by decide +kernel
theorem d_m_next_16 : decode b_m_next 16 = .ok (.aload_n 0, 1) := by decide +kernel
theorem d_m_next_17 : decode b_m_next 17 = .ok (.getfield 155, 3) := by decide +kernel
theorem d_m_next_20 : decode b_m_next 20 = .ok (.bipush 8, 2) := by decide +kernel
theorem d_m_next_22 : decode b_m_next 22 = .ok (.idiv, 1) := by decide +kernel
theorem d_m_next_23 : decode b_m_next 23 = .ok (.iaload, 1) := by decide +kernel
theorem d_m_next_24 : decode b_m_next 24 = .ok (.bipush 7, 2) := by decide +kernel
theorem d_m_next_26 : decode b_m_next 26 = .ok (.aload_n 0, 1) := by decide +kernel
theorem d_m_next_27 : decode b_m_next 27 = .ok (.getfield 155, 3) := by decide +kernel
theorem d_m_next_30 : decode b_m_next 30 = .ok (.bipush 8, 2) := by decide +kernel
theorem d_m_next_32 : decode b_m_next 32 = .ok (.irem, 1) := by decide +kernel
theorem d_m_next_33 : decode b_m_next 33 = .ok (.isub, 1) := by decide +kernel
theorem d_m_next_34 : decode b_m_next 34 = .ok (.ishr, 1) := by decide +kernel
theorem d_m_next_35 : decode b_m_next 35 = .ok (.iconst 1, 1) := by decide +kernel
theorem d_m_next_36 : decode b_m_next 36 = .ok (.iand, 1) := by decide +kernel
theorem d_m_next_37 : decode b_m_next 37 = .ok (.iadd, 1) := by decide +kernel
theorem d_m_next_38 : decode b_m_next 38 = .ok (.istore_n 2, 1) := by decide +kernel
theorem d_m_next_39 : decode b_m_next 39 = .ok (.aload_n 0, 1) := by decide +kernel
theorem d_m_next_40 : decode b_m_next 40 = .ok (.dup, 1) := by decide +kernel
theorem d_m_next_41 : decode b_m_next 41 = .ok (.getfield 155, 3) := by decide +kernel
theorem d_m_next_44 : decode b_m_next 44 = .ok (.iconst 1, 1) := by decide +kernel
theorem d_m_next_45 : decode b_m_next 45 = .ok (.iadd, 1) := by decide +kernel
theorem d_m_next_46 : decode b_m_next 46 = .ok (.putfield 155, 3) := by decide +kernel
theorem d_m_next_49 : decode b_m_next 49 = .ok (.iinc 3 1, 3) := by decide +kernel
theorem d_m_next_52 : decode b_m_next 52 = .ok (.goto (-48), 3) := by decide +kernel
theorem d_m_next_55 : decode b_m_next 55 = .ok (.iload_n 2, 1) := by decide +kernel
theorem d_m_next_56 : decode b_m_next 56 = .ok (.ireturn, 1) := by decide +kernel
end
section
variable {p : Program} {l : Launch} {e : Env} {R : Room} {s : State} {m : MethodId} {args : Array Value} {below : List Frame} {meth : Method} {c : Code} {cells slots : Nat} {Q : State → Prop} {A : Nat → Prop} {H0 : Heap} {D : va_G}
set_option maxHeartbeats 1000000 in
set_option maxRecDepth 100000 in
theorem lp_m_next_4 (cI cC : ClassId) (h i0 i1 a2 a3 a4 a5 a6 a7 a8 i9 a10 a11 a12 a13 a14 a15 i16 i17 a18 i19 a20 a21 i22 a23 : Nat) (tr : Nat → Nat) (n : Nat) (hn : i16 + n ≤ 208) (htr : ∀ j, j < 26 → tr j < 256) (S : CallFix p m c b_m_next 4 s args (cd_m_next :: WS) R_Model) (hRf : 0 ≤ R.frames) (hRl : 0 ≤ R.locals) (hRc : cells ≤ R.cells ∧ slots ≤ R.slots) (hK : va_K D classes [(cI, .int), (cC, .char)] s) (hA : ∀ q, H0.size ≤ q → A q) (kx : ∀ (ls : Array Slot) (H : Heap) (locs : List Loc), lv_has ls 4 [(0, .ref h), (1, .int (nI n)), (2, .int (nI (nxL tr i16 n))), (3, .int (nI n))] → va_P D classes [(h, .inr (8, [.int (nI i0), .int (nI i1), .ref a2, .ref a3, .ref a4, .ref a5, .ref a6, .ref a7, .ref a8, .int (nI i9), .ref a10, .ref a11, .ref a12, .ref a13, .ref a14, .ref a15, .int (nI (i16 + n)), .int (nI i17), .ref a18, .int (nI i19), .ref a20, .ref a21, .int (nI i22), .ref a23])), (a11, .inl (cI, 26, .inl (fun j => nI (tr j))))] H → va_D A [(h, .inr (8, [.int (nI i0), .int (nI i1), .ref a2, .ref a3, .ref a4, .ref a5, .ref a6, .ref a7, .ref a8, .int (nI i9), .ref a10, .ref a11, .ref a12, .ref a13, .ref a14, .ref a15, .int (nI (i16 + n)), .int (nI i17), .ref a18, .int (nI i19), .ref a20, .ref a21, .int (nI i22), .ref a23])), (a11, .inl (cI, 26, .inl (fun j => nI (tr j))))] → va_S A H0 H locs → W p l e R s m args below meth c H locs cells slots Q (F0 m 55 ls [])) :
    ∀ k, k ≤ n → ∀ (ls : Array Slot) (H : Heap) (locs : List Loc), lv_has ls 4 [(0, .ref h), (1, .int (nI n)), (2, .int (nI (nxL tr i16 k))), (3, .int (nI k))] → va_P D classes [(h, .inr (8, [.int (nI i0), .int (nI i1), .ref a2, .ref a3, .ref a4, .ref a5, .ref a6, .ref a7, .ref a8, .int (nI i9), .ref a10, .ref a11, .ref a12, .ref a13, .ref a14, .ref a15, .int (nI (i16 + k)), .int (nI i17), .ref a18, .int (nI i19), .ref a20, .ref a21, .int (nI i22), .ref a23])), (a11, .inl (cI, 26, .inl (fun j => nI (tr j))))] H → va_D A [(h, .inr (8, [.int (nI i0), .int (nI i1), .ref a2, .ref a3, .ref a4, .ref a5, .ref a6, .ref a7, .ref a8, .int (nI i9), .ref a10, .ref a11, .ref a12, .ref a13, .ref a14, .ref a15, .int (nI (i16 + k)), .int (nI i17), .ref a18, .int (nI i19), .ref a20, .ref a21, .int (nI i22), .ref a23])), (a11, .inl (cI, 26, .inl (fun j => nI (tr j))))] → va_S A H0 H locs → W p l e R s m args below meth c H locs cells slots Q (F0 m 4 ls []) := by
  obtain ⟨hx, hb, hml, hown, hts⟩ := id S
  refine up_loop (fun k hkk ih => ?_)
  intro ls H locs hl hP hD hS
  refine lv_iload_n hx hb d_m_next_4 rfl (lv_at hl 3 rfl) ?_
  refine lv_iload_n hx hb d_m_next_5 rfl (lv_at hl 1 rfl) ?_
  refine n_icmp_ge hx hb d_m_next_6 (tgt := 55) rfl (by omega) (by omega) (fun g6 => ?_) (fun g6 => ?_)
  · skip
    obtain rfl : k = n := by omega
    exact kx ls H locs (lv_sub hl [0, 1, 2, 3] rfl) hP hD hS
  · skip
    have htk := htr ((i16 + k) / 8) (by omega)
    refine lv_iconst (v := nI 2) hx hb d_m_next_9 (by decide) ?_
    refine lv_iload_n hx hb d_m_next_10 rfl (lv_at hl 2 rfl) ?_
    refine n_imul hx hb d_m_next_11 ?_
    refine lv_aload_n hx hb d_m_next_12 rfl (lv_at hl 0 rfl) ?_
    refine n_get (C := R_Model) (T := F_Model) (N := 24) (v := .ref a11) hx hb hts u_Model_in hown hK hP 0 rfl rfl 11 (by decide) kw_787 rfl d_m_next_13 ?_
    refine lv_aload_n hx hb d_m_next_16 rfl (lv_at hl 0 rfl) ?_
    refine n_get (C := R_Model) (T := F_Model) (N := 24) (v := .int (nI (i16 + k))) hx hb hts u_Model_in hown hK hP 0 rfl rfl 16 (by decide) kw_792 rfl d_m_next_17 ?_
    refine lv_bipush (v := nI 8) hx hb d_m_next_20 (by decide) ?_
    refine n_idiv hx hb d_m_next_22 (by omega) (by omega) (by omega) ?_
    refine n_iald hx hb hK hP 1 0 rfl rfl (by omega) (by decide) d_m_next_23 ?_
    refine lv_bipush (v := nI 7) hx hb d_m_next_24 (by decide) ?_
    refine lv_aload_n hx hb d_m_next_26 rfl (lv_at hl 0 rfl) ?_
    refine n_get (C := R_Model) (T := F_Model) (N := 24) (v := .int (nI (i16 + k))) hx hb hts u_Model_in hown hK hP 0 rfl rfl 16 (by decide) kw_792 rfl d_m_next_27 ?_
    refine lv_bipush (v := nI 8) hx hb d_m_next_30 (by decide) ?_
    refine n_irem hx hb d_m_next_32 (by omega) (by omega) (by omega) ?_
    refine n_isub hx hb d_m_next_33 (by omega) ?_
    refine n_ishr hx hb d_m_next_34 (by omega) (by omega) ?_
    refine lv_iconst (v := nI 1) hx hb d_m_next_35 (by decide) ?_
    refine n_and1 hx hb d_m_next_36 ?_
    refine n_iadd hx hb d_m_next_37 ?_
    refine n_topn (show (2 * (nxL tr i16 k)) + (((tr ((i16 + k) / 8)) / 2 ^ (7 - ((i16 + k) % 8))) % 2) = nxL tr i16 (k + 1) from rfl) ?_
    refine lv_istore_n hx hb d_m_next_38 rfl hl (Nat.le_of_ble_eq_true rfl) rfl (fun ls hl => ?_)
    have hl : lv_has ls 4 [(2, .int (nI (nxL tr i16 (k + 1)))), (0, .ref h), (1, .int (nI n)), (3, .int (nI k))] := hl
    refine lv_aload_n hx hb d_m_next_39 rfl (lv_at hl 1 rfl) ?_
    refine lv_dup hx hb d_m_next_40 rfl ?_
    refine n_get (C := R_Model) (T := F_Model) (N := 24) (v := .int (nI (i16 + k))) hx hb hts u_Model_in hown hK hP 0 rfl rfl 16 (by decide) kw_792 rfl d_m_next_41 ?_
    refine lv_iconst (v := nI 1) hx hb d_m_next_44 (by decide) ?_
    refine n_iadd hx hb d_m_next_45 ?_
    refine n_put (C := R_Model) (T := F_Model) (N := 24) (v := .int (nI ((i16 + k) + 1))) hx hb hts u_Model_in t_Model t_Model_ok n_Model hown hK hP hD hS 0 rfl rfl 16 (by decide) kw_792 rfl rfl rfl (Nat.le_of_ble_eq_true rfl) d_m_next_46 (fun H locs hP hD hS => ?_)
    have hP : va_P D classes [(h, .inr (8, [.int (nI i0), .int (nI i1), .ref a2, .ref a3, .ref a4, .ref a5, .ref a6, .ref a7, .ref a8, .int (nI i9), .ref a10, .ref a11, .ref a12, .ref a13, .ref a14, .ref a15, .int (nI ((i16 + k) + 1)), .int (nI i17), .ref a18, .int (nI i19), .ref a20, .ref a21, .int (nI i22), .ref a23])), (a11, .inl (cI, 26, .inl (fun j => nI (tr j))))] H := hP
    have hD : va_D A [(h, .inr (8, [.int (nI i0), .int (nI i1), .ref a2, .ref a3, .ref a4, .ref a5, .ref a6, .ref a7, .ref a8, .int (nI i9), .ref a10, .ref a11, .ref a12, .ref a13, .ref a14, .ref a15, .int (nI ((i16 + k) + 1)), .int (nI i17), .ref a18, .int (nI i19), .ref a20, .ref a21, .int (nI i22), .ref a23])), (a11, .inl (cI, 26, .inl (fun j => nI (tr j))))] := hD
    refine lv_iinc (k := 3) (v := nI (k + 1)) hx hb d_m_next_49 hl rfl (nx_inc k 1) (Nat.le_of_ble_eq_true rfl) rfl (fun ls hl => ?_)
    have hl : lv_has ls 4 [(3, .int (nI (k + 1))), (2, .int (nI (nxL tr i16 (k + 1)))), (0, .ref h), (1, .int (nI n))] := hl
    refine lv_goto hx hb d_m_next_52 (tgt := 4) rfl ?_
    exact ih (by omega) ls H locs (lv_sub hl [2, 3, 1, 0] rfl) hP hD hS
set_option maxHeartbeats 1000000 in
set_option maxRecDepth 100000 in
theorem bd_m_next (cI cC : ClassId) (h i0 i1 a2 a3 a4 a5 a6 a7 a8 i9 a10 a11 a12 a13 a14 a15 i16 i17 a18 i19 a20 a21 i22 a23 : Nat) (tr : Nat → Nat) (n : Nat) (hn : i16 + n ≤ 208) (htr : ∀ j, j < 26 → tr j < 256) (S : CallFix p m c b_m_next 4 s args (cd_m_next :: WS) R_Model) (hRf : 0 ≤ R.frames) (hRl : 0 ≤ R.locals) (hRc : cells ≤ R.cells ∧ slots ≤ R.slots) (hK : va_K D classes [(cI, .int), (cC, .char)] s) (hA : ∀ q, H0.size ≤ q → A q) (kr : ∀ (pc : Nat) (ls : Array Slot) (H : Heap) (locs : List Loc), decode b_m_next pc = .ok (.ireturn, 1) → va_P D classes [(h, .inr (8, [.int (nI i0), .int (nI i1), .ref a2, .ref a3, .ref a4, .ref a5, .ref a6, .ref a7, .ref a8, .int (nI i9), .ref a10, .ref a11, .ref a12, .ref a13, .ref a14, .ref a15, .int (nI (i16 + n)), .int (nI i17), .ref a18, .int (nI i19), .ref a20, .ref a21, .int (nI i22), .ref a23])), (a11, .inl (cI, 26, .inl (fun j => nI (tr j))))] H → va_D A [(h, .inr (8, [.int (nI i0), .int (nI i1), .ref a2, .ref a3, .ref a4, .ref a5, .ref a6, .ref a7, .ref a8, .int (nI i9), .ref a10, .ref a11, .ref a12, .ref a13, .ref a14, .ref a15, .int (nI (i16 + n)), .int (nI i17), .ref a18, .int (nI i19), .ref a20, .ref a21, .int (nI i22), .ref a23])), (a11, .inl (cI, 26, .inl (fun j => nI (tr j))))] → va_S A H0 H locs → W p l e R s m args below meth c H locs cells slots Q (F0 m pc ls [.int (nI (nxL tr i16 n))])) : ∀ (ls : Array Slot) (H : Heap) (locs : List Loc), lv_has ls 4 [(0, .ref h), (1, .int (nI n))] → va_P D classes [(h, .inr (8, [.int (nI i0), .int (nI i1), .ref a2, .ref a3, .ref a4, .ref a5, .ref a6, .ref a7, .ref a8, .int (nI i9), .ref a10, .ref a11, .ref a12, .ref a13, .ref a14, .ref a15, .int (nI i16), .int (nI i17), .ref a18, .int (nI i19), .ref a20, .ref a21, .int (nI i22), .ref a23])), (a11, .inl (cI, 26, .inl (fun j => nI (tr j))))] H → va_D A [(h, .inr (8, [.int (nI i0), .int (nI i1), .ref a2, .ref a3, .ref a4, .ref a5, .ref a6, .ref a7, .ref a8, .int (nI i9), .ref a10, .ref a11, .ref a12, .ref a13, .ref a14, .ref a15, .int (nI i16), .int (nI i17), .ref a18, .int (nI i19), .ref a20, .ref a21, .int (nI i22), .ref a23])), (a11, .inl (cI, 26, .inl (fun j => nI (tr j))))] → va_S A H0 H locs → W p l e R s m args below meth c H locs cells slots Q (F0 m 0 ls []) := by
  obtain ⟨hx, hb, hml, hown, hts⟩ := id S
  intro ls H locs hl hP hD hS
  refine lv_iconst (v := nI 0) hx hb d_m_next_0 (by decide) ?_
  refine lv_istore_n hx hb d_m_next_1 rfl hl (Nat.le_of_ble_eq_true rfl) rfl (fun ls hl => ?_)
  have hl : lv_has ls 4 [(2, .int (nI 0)), (0, .ref h), (1, .int (nI n))] := hl
  refine lv_iconst (v := nI 0) hx hb d_m_next_2 (by decide) ?_
  refine lv_istore_n hx hb d_m_next_3 rfl hl (Nat.le_of_ble_eq_true rfl) rfl (fun ls hl => ?_)
  have hl : lv_has ls 4 [(3, .int (nI 0)), (2, .int (nI 0)), (0, .ref h), (1, .int (nI n))] := hl
  refine lp_m_next_4 cI cC h i0 i1 a2 a3 a4 a5 a6 a7 a8 i9 a10 a11 a12 a13 a14 a15 i16 i17 a18 i19 a20 a21 i22 a23 tr n hn htr S hRf hRl hRc hK hA  (fun ls H locs hl hP hD hS => ?_) 0 (by omega) ls H locs (lv_sub hl [2, 3, 1, 0] rfl) hP hD hS
  refine lv_iload_n hx hb d_m_next_55 rfl (lv_at hl 2 rfl) ?_
  exact kr _ ls H locs d_m_next_56 hP hD hS
set_option maxHeartbeats 1000000 in
set_option maxRecDepth 100000 in
theorem c_m_next (l : Launch) (D : va_G) (cI cC : ClassId) (h i0 i1 a2 a3 a4 a5 a6 a7 a8 i9 a10 a11 a12 a13 a14 a15 i16 i17 a18 i19 a20 a21 i22 a23 : Nat) (tr : Nat → Nat) (n : Nat) (hn : i16 + n ≤ 208) (htr : ∀ j, j < 26 → tr j < 256) (sz : Nat) : Met l y_m_next (cd_m_next :: WS) { frames := 0, cells := 0, slots := 0, locals := 0 } (va_Pc [.ref h, .int (nI n)] (wP D [(h, .inr (8, [.int (nI i0), .int (nI i1), .ref a2, .ref a3, .ref a4, .ref a5, .ref a6, .ref a7, .ref a8, .int (nI i9), .ref a10, .ref a11, .ref a12, .ref a13, .ref a14, .ref a15, .int (nI i16), .int (nI i17), .ref a18, .int (nI i19), .ref a20, .ref a21, .int (nI i22), .ref a23])), (a11, .inl (cI, 26, .inl (fun j => nI (tr j))))] [(cI, .int), (cC, .char)] sz)) (wQi D (nI (nxL tr i16 n)) [(h, .inr (8, [.int (nI i0), .int (nI i1), .ref a2, .ref a3, .ref a4, .ref a5, .ref a6, .ref a7, .ref a8, .int (nI i9), .ref a10, .ref a11, .ref a12, .ref a13, .ref a14, .ref a15, .int (nI i16), .int (nI i17), .ref a18, .int (nI i19), .ref a20, .ref a21, .int (nI i22), .ref a23])), (a11, .inl (cI, 26, .inl (fun j => nI (tr j))))] [(h, .inr (8, [.int (nI i0), .int (nI i1), .ref a2, .ref a3, .ref a4, .ref a5, .ref a6, .ref a7, .ref a8, .int (nI i9), .ref a10, .ref a11, .ref a12, .ref a13, .ref a14, .ref a15, .int (nI (i16 + n)), .int (nI i17), .ref a18, .int (nI i19), .ref a20, .ref a21, .int (nI i22), .ref a23])), (a11, .inl (cI, 26, .inl (fun j => nI (tr j))))] sz) 0 0 (va_A [(h, .inr (8, [.int (nI i0), .int (nI i1), .ref a2, .ref a3, .ref a4, .ref a5, .ref a6, .ref a7, .ref a8, .int (nI i9), .ref a10, .ref a11, .ref a12, .ref a13, .ref a14, .ref a15, .int (nI i16), .int (nI i17), .ref a18, .int (nI i19), .ref a20, .ref a21, .int (nI i22), .ref a23])), (a11, .inl (cI, 26, .inl (fun j => nI (tr j))))] sz) := by
  refine Met.ofW (cc := b_m_next) (maxL := 4) (ret := (some .int)) (by decide) rfl ?_
  intro p e s m args below meth c s₁ B hml hv0
  obtain ⟨rfl, hP, hK, hD0, hsz⟩ := hv0
  have hts := atoms_spec (ws := cd_m_next :: WS) B.pre
  have hown : s.vm.findClass R_Model = some m.cls := findClass_of_methodNamed B.named
  have hlocks := B.notSynchronized
  subst hsz
  have hD := hD0.self (sz := s.heap.size)
  have hl := lv_entry ([.ref h, .int (nI n)]) (n := 4) (Nat.le_of_ble_eq_true rfl)
  rw [lg_entry_eq]
  generalize (lg_sl ([.ref h, .int (nI n)]) ++ List.replicate (4 - (lg_sl ([.ref h, .int (nI n)])).length) Slot.unset).toArray = ls at hl ⊢
  refine bd_m_next cI cC h i0 i1 a2 a3 a4 a5 a6 a7 a8 i9 a10 a11 a12 a13 a14 a15 i16 i17 a18 i19 a20 a21 i22 a23 tr n hn htr ⟨B.exec, B.bytes, hml, hown, hts⟩ (Nat.le_refl _) (Nat.le_refl _) ⟨Nat.le_refl _, Nat.le_refl _⟩ hK (fun q h => Or.inr h) (fun pc ls H locs hd hP hD hS => ?_) ls _ _ hl hP hD (va_S.rf)
  exact W.iret B.exec B.bytes B.returns (fun t ht _ => ⟨⟨_, (), rfl, rfl, (by have h9 := hP; rw [← ht] at h9; exact h9)⟩, hS.F ht⟩) hS.2.2 hd
end
