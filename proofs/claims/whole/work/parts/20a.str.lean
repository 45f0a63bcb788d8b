theorem tq_14 {U : State} {A : Array Value} (h : GG U) : (Cond.initialized "java/lang/String").before A U = true := h.use (List.mem_append_right _ (List.mem_of_getElem? (i := 14) (by decide +kernel))) (by decide +kernel)
theorem tq_15 {U : State} {A : Array Value} (h : GG U) : (Cond.initialized "java/lang/StringLatin1").before A U = true := h.use (List.mem_append_right _ (List.mem_of_getElem? (i := 15) (by decide +kernel))) (by decide +kernel)
theorem tq_16 {U : State} {A : Array Value} (h : GG U) : (Cond.initialized "jdk/internal/util/Preconditions").before A U = true := h.use (List.mem_append_right _ (List.mem_of_getElem? (i := 16) (by decide +kernel))) (by decide +kernel)
theorem tq_250 {U : State} {A : Array Value} (h : GG U) : (Cond.instanceMethod yJ0_length_8abf5).before A U = true := h.use (List.mem_append_right _ (List.mem_of_getElem? (i := 250) (by decide +kernel))) (by decide +kernel)
theorem tq_251 {U : State} {A : Array Value} (h : GG U) : (Cond.selects "java/lang/String" yJ0_length_8abf5 yJ0_length_8abf5).before A U = true := h.use (List.mem_append_right _ (List.mem_of_getElem? (i := 251) (by decide +kernel))) (by decide +kernel)
theorem tq_252 {U : State} {A : Array Value} (h : GG U) : (Cond.code yJ0_length_8abf5 cJ0_length_8abf5 1 (some .int)).before A U = true := h.use (List.mem_append_right _ (List.mem_of_getElem? (i := 252) (by decide +kernel))) (by decide +kernel)
theorem tq_253 {U : State} {A : Array Value} (h : GG U) : (Cond.methodLink RJ0 335 yJ0_coder_7d493).before A U = true := h.use (List.mem_append_right _ (List.mem_of_getElem? (i := 253) (by decide +kernel))) (by decide +kernel)
theorem tq_254 {U : State} {A : Array Value} (h : GG U) : (Cond.instanceMethod yJ0_coder_7d493).before A U = true := h.use (List.mem_append_right _ (List.mem_of_getElem? (i := 254) (by decide +kernel))) (by decide +kernel)
theorem tq_255 {U : State} {A : Array Value} (h : GG U) : (Cond.selects "java/lang/String" yJ0_coder_7d493 yJ0_coder_7d493).before A U = true := h.use (List.mem_append_right _ (List.mem_of_getElem? (i := 255) (by decide +kernel))) (by decide +kernel)
theorem tq_256 {U : State} {A : Array Value} (h : GG U) : (Cond.code yJ0_coder_7d493 cJ0_coder_7d493 1 (some .byte)).before A U = true := h.use (List.mem_append_right _ (List.mem_of_getElem? (i := 256) (by decide +kernel))) (by decide +kernel)
theorem tq_257 {U : State} {A : Array Value} (h : GG U) : (Cond.fieldLink RJ0 38 "java/lang/String" "COMPACT_STRINGS" "Z").before A U = true := h.use (List.mem_append_right _ (List.mem_of_getElem? (i := 257) (by decide +kernel))) (by decide +kernel)
theorem tq_260 {U : State} {A : Array Value} (h : GG U) : (Cond.instanceMethod yJ0_charAt_5068e).before A U = true := h.use (List.mem_append_right _ (List.mem_of_getElem? (i := 260) (by decide +kernel))) (by decide +kernel)
theorem tq_261 {U : State} {A : Array Value} (h : GG U) : (Cond.selects "java/lang/String" yJ0_charAt_5068e yJ0_charAt_5068e).before A U = true := h.use (List.mem_append_right _ (List.mem_of_getElem? (i := 261) (by decide +kernel))) (by decide +kernel)
theorem tq_262 {U : State} {A : Array Value} (h : GG U) : (Cond.code yJ0_charAt_5068e cJ0_charAt_5068e 2 (some .char)).before A U = true := h.use (List.mem_append_right _ (List.mem_of_getElem? (i := 262) (by decide +kernel))) (by decide +kernel)
theorem tq_263 {U : State} {A : Array Value} (h : GG U) : (Cond.methodLink RJ0 492 yJ0_isLatin1_aae02).before A U = true := h.use (List.mem_append_right _ (List.mem_of_getElem? (i := 263) (by decide +kernel))) (by decide +kernel)
theorem tq_264 {U : State} {A : Array Value} (h : GG U) : (Cond.instanceMethod yJ0_isLatin1_aae02).before A U = true := h.use (List.mem_append_right _ (List.mem_of_getElem? (i := 264) (by decide +kernel))) (by decide +kernel)
theorem tq_265 {U : State} {A : Array Value} (h : GG U) : (Cond.selects "java/lang/String" yJ0_isLatin1_aae02 yJ0_isLatin1_aae02).before A U = true := h.use (List.mem_append_right _ (List.mem_of_getElem? (i := 265) (by decide +kernel))) (by decide +kernel)
theorem tq_266 {U : State} {A : Array Value} (h : GG U) : (Cond.code yJ0_isLatin1_aae02 cJ0_isLatin1_aae02 1 (some .boolean)).before A U = true := h.use (List.mem_append_right _ (List.mem_of_getElem? (i := 266) (by decide +kernel))) (by decide +kernel)
theorem tq_267 {U : State} {A : Array Value} (h : GG U) : (Cond.methodLink RJ0 495 yJ1_charAt_3b067).before A U = true := h.use (List.mem_append_right _ (List.mem_of_getElem? (i := 267) (by decide +kernel))) (by decide +kernel)
theorem tq_268 {U : State} {A : Array Value} (h : GG U) : (Cond.static yJ1_charAt_3b067).before A U = true := h.use (List.mem_append_right _ (List.mem_of_getElem? (i := 268) (by decide +kernel))) (by decide +kernel)
theorem tq_269 {U : State} {A : Array Value} (h : GG U) : (Cond.code yJ1_charAt_3b067 cJ1_charAt_3b067 2 (some .char)).before A U = true := h.use (List.mem_append_right _ (List.mem_of_getElem? (i := 269) (by decide +kernel))) (by decide +kernel)
theorem tq_270 {U : State} {A : Array Value} (h : GG U) : (Cond.methodLink RJ1 9 yJ0_checkIndex_df160).before A U = true := h.use (List.mem_append_right _ (List.mem_of_getElem? (i := 270) (by decide +kernel))) (by decide +kernel)
theorem tq_271 {U : State} {A : Array Value} (h : GG U) : (Cond.static yJ0_checkIndex_df160).before A U = true := h.use (List.mem_append_right _ (List.mem_of_getElem? (i := 271) (by decide +kernel))) (by decide +kernel)
theorem tq_272 {U : State} {A : Array Value} (h : GG U) : (Cond.code yJ0_checkIndex_df160 cJ0_checkIndex_df160 2 none).before A U = true := h.use (List.mem_append_right _ (List.mem_of_getElem? (i := 272) (by decide +kernel))) (by decide +kernel)
theorem tq_273 {U : State} {A : Array Value} (h : GG U) : (Cond.fieldLink RJ0 1053 "jdk/internal/util/Preconditions" "SIOOBE_FORMATTER" "Ljava/util/function/BiFunction;").before A U = true := h.use (List.mem_append_right _ (List.mem_of_getElem? (i := 273) (by decide +kernel))) (by decide +kernel)
theorem tq_275 {U : State} {A : Array Value} (h : GG U) : (Cond.methodLink RJ0 1059 yJ3_checkIndex_8e157).before A U = true := h.use (List.mem_append_right _ (List.mem_of_getElem? (i := 275) (by decide +kernel))) (by decide +kernel)
theorem tq_276 {U : State} {A : Array Value} (h : GG U) : (Cond.static yJ3_checkIndex_8e157).before A U = true := h.use (List.mem_append_right _ (List.mem_of_getElem? (i := 276) (by decide +kernel))) (by decide +kernel)
theorem tq_277 {U : State} {A : Array Value} (h : GG U) : (Cond.code yJ3_checkIndex_8e157 cJ3_checkIndex_8e157 3 (some .int)).before A U = true := h.use (List.mem_append_right _ (List.mem_of_getElem? (i := 277) (by decide +kernel))) (by decide +kernel)
theorem tq_1310 {U : State} {A : Array Value} (h : GG U) : (Cond.fieldLink RJ0 9 "java/lang/String" "value" "[B").before A U = true := h.use (List.mem_append_right _ (List.mem_of_getElem? (i := 1310) (by decide +kernel))) (by decide +kernel)
theorem tq_1311 {U : State} {A : Array Value} (h : GG U) : (Cond.fieldLink RJ0 15 "java/lang/String" "coder" "B").before A U = true := h.use (List.mem_append_right _ (List.mem_of_getElem? (i := 1311) (by decide +kernel))) (by decide +kernel)
theorem cy_J0_length_8abf5 {s : State} {args : Array Value} (hG : GG s) : CYV s args yJ0_length_8abf5 cJ0_length_8abf5 1 (some .int) 0 := CYV.of hG (fun _ _ hG => tq_252 hG) (tq_14 hG) (tq_250 hG) (tq_251 hG) (by decide +kernel)
theorem cy_J0_coder_7d493 {s : State} {args : Array Value} (hG : GG s) : CYV s args yJ0_coder_7d493 cJ0_coder_7d493 1 (some .byte) 0 := CYV.of hG (fun _ _ hG => tq_256 hG) (tq_14 hG) (tq_254 hG) (tq_255 hG) (by decide +kernel)
theorem cy_J0_charAt_5068e {s : State} {args : Array Value} (hG : GG s) : CYV s args yJ0_charAt_5068e cJ0_charAt_5068e 2 (some .char) 1 := CYV.of hG (fun _ _ hG => tq_262 hG) (tq_14 hG) (tq_260 hG) (tq_261 hG) (by decide +kernel)
theorem cy_J0_isLatin1_aae02 {s : State} {args : Array Value} (hG : GG s) : CYV s args yJ0_isLatin1_aae02 cJ0_isLatin1_aae02 1 (some .boolean) 0 := CYV.of hG (fun _ _ hG => tq_266 hG) (tq_14 hG) (tq_264 hG) (tq_265 hG) (by decide +kernel)
theorem cy_J0_checkIndex_df160 {s : State} {args : Array Value} (hG : GG s) : CYS s args yJ0_checkIndex_df160 cJ0_checkIndex_df160 2 none 2 := CYS.of hG (fun _ _ hG => tq_272 hG) (tq_14 hG) (tq_271 hG) (by decide +kernel)
theorem cy_J3_checkIndex_8e157 {s : State} {args : Array Value} (hG : GG s) : CYS s args yJ3_checkIndex_8e157 cJ3_checkIndex_8e157 3 (some .int) 3 := CYS.of hG (fun _ _ hG => tq_277 hG) (tq_16 hG) (tq_276 hG) (by decide +kernel)
theorem cy_J1_charAt_3b067 {s : State} {args : Array Value} (hG : GG s) : CYS s args yJ1_charAt_3b067 cJ1_charAt_3b067 2 (some .char) 2 := CYS.of hG (fun _ _ hG => tq_269 hG) (tq_15 hG) (tq_268 hG) (by decide +kernel)
def PcS (Z : ZT) (sz : Nat) (h : PH) (av : List Value) (aK aV len : Nat) (byt : List Int32) : Array Value → State → Prop := va_Pc av (fun U => U.heap.size = sz ∧ GG U ∧ va_K Z.1 vwCl (zt Z) U ∧ va_P Z.1 vwCl (wl Z h) U.heap ∧ KS Z U ∧ SC Z aK aV len byt U)
theorem pcs_bl {Z : ZT} {sz : Nat} {h : PH} {av : List Value} {aK aV len : Nat} {byt : List Int32} : FrameBlind (PcS Z sz h av aK aV len byt) := fun a U g mk q => ⟨q.1, q.2.1, GG.vm (s := U) (U := U.calling g mk a) rfl q.2.2.1, va_K.moved (u := U) (U := U.calling g mk a) (Vm.Alike.refl U.vm) q.2.2.2.1, q.2.2.2.2.1, q.2.2.2.2.2.1.up (U := U.calling g mk a) (same_S (s := U) (U := U) rfl) (Vm.Alike.refl U.vm) rfl, q.2.2.2.2.2.2.up (U := U.calling g mk a) (same_S (s := U) (U := U) rfl) (Vm.Alike.refl U.vm) rfl⟩
theorem open_S {Z : ZT} {l : Launch} {y : MethodName} {cc : ByteArray} {maxL : Nat} {ret : Option FieldType} {rm : Room} {h : PH} {sz : Nat} {av : List Value} {aK aV len : Nat} {byt : List Int32} {Qc : Array Value → State → Outcome → State → Prop} (hZ : ZO Z) (hy : plainName y.cls = true) (hn : (lg_sl av).length ≤ maxL)
    (body : ∀ (p : Program) (e : Env) (s : State) (m : MethodId) (below : List Frame) (meth : Method) (c : Code), Bx Z p s m c meth cc maxL y.cls → meth.sig.returnType = ret → s.heap.size = sz → ∀ ls : Array Slot, lv_has ls maxL (lv_args 0 av) → HH Z s h s.heap [] → KS Z s → SC Z aK aV len byt s →
      W p l e rm s m av.toArray below meth c s.heap [] 0 0 (MQ below Qc av.toArray s 0 0 (fr Z sz)) (F0 m 0 ls [])) : Met l y [.code y cc maxL ret] rm (PcS Z sz h av aK aV len byt) Qc 0 0 (fr Z sz) := by
  refine Met.ofW (cc := cc) (maxL := maxL) (ret := ret) hy rfl ?_
  intro p e s m args below meth c s₁ B hml hv
  obtain ⟨rfl, hsz, hG, hK, hP, hS, hC⟩ := hv
  have hl := lv_entry av (n := maxL) hn
  rw [lg_entry_eq]
  generalize (lg_sl av ++ List.replicate (maxL - (lg_sl av).length) Slot.unset).toArray = ls at hl ⊢
  exact body p e s m below meth c ⟨B.exec, B.bytes, hml, findClass_of_methodNamed B.named, hG, hK, B.notSynchronized, hZ⟩ B.returns hsz ls hl ⟨hP, va_S.rf⟩ hS hC
section ROWSS
variable {Z : ZT} {p : Program} {l : Launch} {e : Env} {R : Room} {s : State} {m : MethodId} {args : Array Value} {below : List Frame} {meth : Method} {c : Code} {H : Heap} {locs : List Loc} {cells slots : Nat} {Q : State → Prop} {cc : ByteArray} {nL : Nat} {own : String} {h : PH} {pc : Nat} {ls : Array Slot} {rest : List Value} {aK aV len : Nat} {byt : List Int32}
theorem s_V_I (B : Bx Z p s m c meth cc nL own) (hH : HH Z s h H locs) (hS : KS Z s) (hC : SC Z aK aV len byt s) {y : MethodName} {bytes : ByteArray} {maxL n index : Nat} {ret : Option FieldType} {rm : Room} {As stk : List Value} {Qm : Int32 → PH → Prop} (cy : CYV s args y bytes maxL ret n) (hM : Met l y [.code y bytes maxL ret] rm (PcS Z H.size h (.ref aK :: As) aK aV len byt) (va_Qi Qm (BZ Z) (fr Z H.size)) 0 0 (fr Z H.size)) (hR : (rm.cells = 0 ∧ rm.slots = 0) ∧ rm.frames + 1 ≤ R.frames ∧ 8 + (maxL + 11) + rm.locals ≤ R.locals ∧ cells ≤ R.cells ∧ slots ≤ R.slots) (hv : y.cls = "java/lang/String") (hlink : (Cond.methodLink own index y).before args s = true) (hn : As.length = n) (hs : ls.size = nL) (hst : stk = As.reverse ++ .ref aK :: rest) (hcat : (rest.map fun v => v.category).sum ≤ 8) (hdg : decode cc pc = .ok (.invokevirtual index, 3))
    (kk : ∀ (r : Int32) (h : PH) (H : Heap) (locs : List Loc), Qm r h → HH Z s h H locs → W p l e R s m args below meth c H locs cells slots Q (F0 m (pc + 3) ls (.int r :: rest))) : W p l e R s m args below meth c H locs cells slots Q (F0 m pc ls stk) := by
  subst hst
  exact va_calli (va_runV (Ts := []) (As := As) (rest := rest) ⟨B.1, B.2.1, B.2.2.1, B.2.2.2.1, fun w hw => nomatch hw⟩ hM ⟨⟨hR.1.1, hR.1.2, hR.2.1, hR.2.2.1, cy.1, List.mem_singleton.mpr rfl, cy.2.1, cy.2.2.1, cy.2.2.2.1, cy.2.2.2.2.1, hlink⟩, cy.2.2.2.2.2.1, cy.2.2.2.2.2.2⟩ ⟨pcs_bl, (by rw [hv]; exact vk_recv (i := 0) hC (by decide) hH.2), fun U hU hW => ⟨rfl, by rw [hU], B.2.2.2.2.1.warm hW, va_K.moved hW.alike B.2.2.2.2.2.1, by rw [hU]; exact hH.1, hS.up hH.2 hW.alike hU, hC.up hH.2 hW.alike hU⟩⟩ rfl hn hs rfl (lv_room hcat) hdg ⟨hR.2.2.2.1, hR.2.2.2.2⟩) hH.2 (fun q _ z => fr_up hH.2.1 z) (fun q z => fr_up hH.2.1 z) (fun r u t H1 locs1 ht hvm hw hB9 hz hk hS => kk r u H1 locs1 hw ⟨by rw [← ht]; exact hB9, hS⟩)
theorem s_S_I (B : Bx Z p s m c meth cc nL own) (hH : HH Z s h H locs) (hS : KS Z s) (hC : SC Z aK aV len byt s) {y : MethodName} {bytes : ByteArray} {maxL n index : Nat} {ret : Option FieldType} {rm : Room} {As stk : List Value} {Qm : Int32 → PH → Prop} (cy : CYS s args y bytes maxL ret n) (hM : Met l y [.code y bytes maxL ret] rm (PcS Z H.size h As aK aV len byt) (va_Qi Qm (BZ Z) (fr Z H.size)) 0 0 (fr Z H.size)) (hR : (rm.cells = 0 ∧ rm.slots = 0) ∧ rm.frames + 1 ≤ R.frames ∧ 8 + (maxL + 11) + rm.locals ≤ R.locals ∧ cells ≤ R.cells ∧ slots ≤ R.slots) (hlink : (Cond.methodLink own index y).before args s = true) (hn : As.length = n) (hs : ls.size = nL) (hst : stk = As.reverse ++ rest) (hcat : (rest.map fun v => v.category).sum ≤ 8) (hdg : decode cc pc = .ok (.invokestatic index, 3))
    (kk : ∀ (r : Int32) (h : PH) (H : Heap) (locs : List Loc), Qm r h → HH Z s h H locs → W p l e R s m args below meth c H locs cells slots Q (F0 m (pc + 3) ls (.int r :: rest))) : W p l e R s m args below meth c H locs cells slots Q (F0 m pc ls stk) := by
  subst hst
  exact va_calli (va_runS (Ts := []) (As := As) (rest := rest) ⟨B.1, B.2.1, B.2.2.1, B.2.2.2.1, fun w hw => nomatch hw⟩ hM ⟨⟨hR.1.1, hR.1.2, hR.2.1, hR.2.2.1, cy.1, List.mem_singleton.mpr rfl, cy.2.1, cy.2.2.1, cy.2.2.2.1, cy.2.2.2.2.1, hlink⟩, cy.2.2.2.2.2⟩ ⟨pcs_bl, fun U hU hW => ⟨rfl, by rw [hU], B.2.2.2.2.1.warm hW, va_K.moved hW.alike B.2.2.2.2.2.1, by rw [hU]; exact hH.1, hS.up hH.2 hW.alike hU, hC.up hH.2 hW.alike hU⟩⟩ rfl hn hs rfl (lv_room hcat) hdg ⟨hR.2.2.2.1, hR.2.2.2.2⟩) hH.2 (fun q _ z => fr_up hH.2.1 z) (fun q z => fr_up hH.2.1 z) (fun r u t H1 locs1 ht hvm hw hB9 hz hk hS => kk r u H1 locs1 hw ⟨by rw [← ht]; exact hB9, hS⟩)
theorem s_S_V (B : Bx Z p s m c meth cc nL own) (hH : HH Z s h H locs) (hS : KS Z s) (hC : SC Z aK aV len byt s) {y : MethodName} {bytes : ByteArray} {maxL n index : Nat} {ret : Option FieldType} {rm : Room} {As stk : List Value} {Qm : PH → Prop} (cy : CYS s args y bytes maxL ret n) (hM : Met l y [.code y bytes maxL ret] rm (PcS Z H.size h As aK aV len byt) (va_Qv Qm (BZ Z) (fr Z H.size)) 0 0 (fr Z H.size)) (hR : (rm.cells = 0 ∧ rm.slots = 0) ∧ rm.frames + 1 ≤ R.frames ∧ 8 + (maxL + 11) + rm.locals ≤ R.locals ∧ cells ≤ R.cells ∧ slots ≤ R.slots) (hlink : (Cond.methodLink own index y).before args s = true) (hn : As.length = n) (hs : ls.size = nL) (hst : stk = As.reverse ++ rest) (hcat : (rest.map fun v => v.category).sum ≤ 8) (hdg : decode cc pc = .ok (.invokestatic index, 3))
    (kk : ∀ (h : PH) (H : Heap) (locs : List Loc), Qm h → HH Z s h H locs → W p l e R s m args below meth c H locs cells slots Q (F0 m (pc + 3) ls (rest))) : W p l e R s m args below meth c H locs cells slots Q (F0 m pc ls stk) := by
  subst hst
  exact va_callv (va_runS (Ts := []) (As := As) (rest := rest) ⟨B.1, B.2.1, B.2.2.1, B.2.2.2.1, fun w hw => nomatch hw⟩ hM ⟨⟨hR.1.1, hR.1.2, hR.2.1, hR.2.2.1, cy.1, List.mem_singleton.mpr rfl, cy.2.1, cy.2.2.1, cy.2.2.2.1, cy.2.2.2.2.1, hlink⟩, cy.2.2.2.2.2⟩ ⟨pcs_bl, fun U hU hW => ⟨rfl, by rw [hU], B.2.2.2.2.1.warm hW, va_K.moved hW.alike B.2.2.2.2.2.1, by rw [hU]; exact hH.1, hS.up hH.2 hW.alike hU, hC.up hH.2 hW.alike hU⟩⟩ rfl hn hs rfl (lv_room hcat) hdg ⟨hR.2.2.2.1, hR.2.2.2.2⟩) hH.2 (fun q _ z => fr_up hH.2.1 z) (fun q z => fr_up hH.2.1 z) (fun u t H1 locs1 ht hvm hw hB9 hz hk hS => kk u H1 locs1 hw ⟨by rw [← ht]; exact hB9, hS⟩)
theorem e_b (B : Bx Z p s m c meth cc nL own) {v : Int32} {ty : FieldType} {Qm : Int32 → PH → Prop} (hr : meth.sig.returnType = some ty) (hn : narrow ty (.int v) = .int v) (hH : HH Z s h H locs) (hq : Qm v h) (hdg : decode cc pc = .ok (.ireturn, 1)) : W p l e R s m args below meth c H locs cells slots (MQ below (va_Qi Qm (BZ Z) (fr Z s.heap.size)) args s cells slots (fr Z s.heap.size)) (F0 m pc ls [.int v]) :=
  W.zret B.1 B.2.1 hr hn (fun t ht hW => ⟨⟨v, h, rfl, hq, by show va_P _ _ _ t.heap; rw [ht]; exact hH.1⟩, hH.2.F ht⟩) hH.2.2.2 hdg B.2.2.2.2.2.2.1
end ROWSS
set_option maxRecDepth 100000 in
set_option maxHeartbeats 4000000 in
theorem ct_J3_checkIndex_8e157 {Z : ZT} (hZ : ZO Z) (l : Launch) {aK aV len : Nat} {byt : List Int32} (i n : Int32) (r : Option Nat) (h : PH) (sz : Nat) (Q : Int32 → PH → Prop) (h1 : ¬ i < 0) (h2 : i < n) (hq : Q i h) : Met l yJ3_checkIndex_8e157 [.code yJ3_checkIndex_8e157 cJ3_checkIndex_8e157 3 (some .int)] ({ frames := 0, cells := 0, slots := 0, locals := 0 } : Room) (PcS Z sz h [.int i, .int n, va_rf r] aK aV len byt) (va_Qi Q (BZ Z) (fr Z sz)) 0 0 (fr Z sz) := by
  refine open_S hZ (by decide +kernel) (by rcases r with _ | _ <;> exact Nat.le_of_ble_eq_true rfl) ?_
  intro p e s m below meth c B hr hsz ls hl hH hS hC
  subst hsz
  have hl : lv_has ls 3 [(0, .int i), (1, .int n), (2, va_rf r)] := by
    have e9 : lv_args 0 [.int i, .int n, va_rf r] = [(0, .int i), (1, .int n), (2, va_rf r)] := by rcases r with _ | _ <;> rfl
    rw [e9] at hl
    exact hl
  refine lv_iload_n B.1 B.2.1 dJ3_checkIndex_8e157_0 rfl (lv_at hl 0 rfl) ?_
  refine lv_if_lt (tgt := 9) B.1 B.2.1 dJ3_checkIndex_8e157_1 (by decide) (fun z => absurd z h1) (fun _ => ?_)
  refine lv_iload_n B.1 B.2.1 dJ3_checkIndex_8e157_4 rfl (lv_at hl 0 rfl) ?_
  refine lv_iload_n B.1 B.2.1 dJ3_checkIndex_8e157_5 rfl (lv_at hl 1 rfl) ?_
  refine lv_icmp_lt (tgt := 16) B.1 B.2.1 dJ3_checkIndex_8e157_6 (by decide) (fun _ => ?_) (fun z => absurd h2 z)
  refine lv_iload_n B.1 B.2.1 dJ3_checkIndex_8e157_16 rfl (lv_at hl 0 rfl) ?_
  exact e_i B hr hH hq dJ3_checkIndex_8e157_17
set_option maxRecDepth 100000 in
set_option maxHeartbeats 4000000 in
theorem ct_J0_checkIndex_df160 {Z : ZT} (hZ : ZO Z) (l : Launch) {aK aV len : Nat} {byt : List Int32} (i n : Int32) (h : PH) (sz : Nat) (Q : PH → Prop) (h1 : ¬ i < 0) (h2 : i < n) (hq : Q h) : Met l yJ0_checkIndex_df160 [.code yJ0_checkIndex_df160 cJ0_checkIndex_df160 2 none] ({ frames := 1, cells := 0, slots := 0, locals := 22 } : Room) (PcS Z sz h [.int i, .int n] aK aV len byt) (va_Qv Q (BZ Z) (fr Z sz)) 0 0 (fr Z sz) := by
  refine open_S hZ (by decide +kernel) (by exact Nat.le_of_ble_eq_true rfl) ?_
  intro p e s m below meth c B hr hsz ls hl hH hS hC
  subst hsz
  have hl : lv_has ls 2 [(0, .int i), (1, .int n)] := hl
  obtain ⟨r, hz⟩ : ∃ r : Option Nat, va_Z "jdk/internal/util/Preconditions" "SIOOBE_FORMATTER" "Ljava/util/function/BiFunction;" (va_rf r) (fr Z s.heap.size) s s.heap := by
    rcases hS.2 with hz | ⟨t, hz⟩
    · exact ⟨none, hz⟩
    · exact ⟨some t, hz⟩
  refine lv_iload_n B.1 B.2.1 dJ0_checkIndex_df160_0 rfl (lv_at hl 0 rfl) ?_
  refine lv_iload_n B.1 B.2.1 dJ0_checkIndex_df160_1 rfl (lv_at hl 1 rfl) ?_
  refine va_gets B.1 B.2.1 (own := RJ0) hz hH.2 B.2.2.2.1 (tq_273 B.2.2.2.2.1) (fun _ h => h) dJ0_checkIndex_df160_2 ?_
  refine s_S_I (own := RJ0) (As := [.int i, .int n, va_rf r]) (rest := []) B hH hS hC (cy_J3_checkIndex_8e157 B.2.2.2.2.1) (ct_J3_checkIndex_8e157 hZ l i n r h _ (fun _ h9 => h9 = h) h1 h2 rfl) ⟨⟨rfl, rfl⟩, Nat.le_of_ble_eq_true rfl, Nat.le_of_ble_eq_true rfl, Nat.zero_le _, Nat.zero_le _⟩ (tq_275 B.2.2.2.2.1) rfl hl.1 (by rfl) (Nat.le_of_ble_eq_true rfl) dJ0_checkIndex_df160_5 ?_
  clear hH
  intro r9 h9 H locs hw hH
  subst hw
  refine lv_pop B.1 B.2.1 dJ0_checkIndex_df160_8 rfl ?_
  exact e_v B hr hH hq dJ0_checkIndex_df160_9
set_option maxRecDepth 100000 in
set_option maxHeartbeats 4000000 in
theorem ct_J1_charAt_3b067 {Z : ZT} (hZ : ZO Z) (l : Launch) {aK aV len : Nat} {byt : List Int32} (k : Nat) (h : PH) (sz : Nat) (Q : Int32 → PH → Prop) (hk : k < len) (hlen : len < 2 ^ 31) (hq : Q (byt.getD k 0 &&& 255) h) : Met l yJ1_charAt_3b067 [.code yJ1_charAt_3b067 cJ1_charAt_3b067 2 (some .char)] ({ frames := 2, cells := 0, slots := 0, locals := 43 } : Room) (PcS Z sz h [.ref aV, .int (nI k)] aK aV len byt) (va_Qi Q (BZ Z) (fr Z sz)) 0 0 (fr Z sz) := by
  refine open_S hZ (by decide +kernel) (by exact Nat.le_of_ble_eq_true rfl) ?_
  intro p e s m below meth c B hr hsz ls hl hH hS hC
  subst hsz
  have hl : lv_has ls 2 [(0, .ref aV), (1, .int (nI k))] := hl
  have hT : va_T .byte aV len (fun j => .int (byt.getD j 0)) (fr Z s.heap.size) s s.heap := (hC.1 0 (by decide)).2.2.2
  refine lv_iload_n B.1 B.2.1 dJ1_charAt_3b067_0 rfl (lv_at hl 1 rfl) ?_
  refine lv_aload_n B.1 B.2.1 dJ1_charAt_3b067_1 rfl (lv_at hl 0 rfl) ?_
  refine va_tlen B.1 B.2.1 hT hH.2 (v := nI len) rfl dJ1_charAt_3b067_2 ?_
  refine s_S_V (own := RJ1) (As := [.int (nI k), .int (nI len)]) (rest := []) B hH hS hC (cy_J0_checkIndex_df160 B.2.2.2.2.1) (ct_J0_checkIndex_df160 hZ l (nI k) (nI len) h _ (fun h9 => h9 = h) (nI_pos (by omega)) (nI_lt hk hlen) rfl) ⟨⟨rfl, rfl⟩, Nat.le_of_ble_eq_true rfl, Nat.le_of_ble_eq_true rfl, Nat.zero_le _, Nat.zero_le _⟩ (tq_270 B.2.2.2.2.1) rfl hl.1 rfl (Nat.le_of_ble_eq_true rfl) dJ1_charAt_3b067_3 ?_
  clear hH
  intro h9 H locs hw hH
  subst hw
  refine lv_aload_n B.1 B.2.1 dJ1_charAt_3b067_6 rfl (lv_at hl 0 rfl) ?_
  refine lv_iload_n B.1 B.2.1 dJ1_charAt_3b067_7 rfl (lv_at hl 1 rfl) ?_
  refine va_tb B.1 B.2.1 hT hH.2 (vp_in_nI hk hlen) (v := .int (byt.getD k 0)) (by rw [nI_clamp (by omega)]) dJ1_charAt_3b067_8 ?_
  refine lv_sipush (v := 255) B.1 B.2.1 dJ1_charAt_3b067_9 (by decide) ?_
  refine lv_iand B.1 B.2.1 dJ1_charAt_3b067_12 ?_
  refine lv_i2c (v := byt.getD k 0 &&& 255) B.1 B.2.1 dJ1_charAt_3b067_13 (sc_c2 _) ?_
  exact e_b B hr (sc_nar _) hH hq dJ1_charAt_3b067_14
set_option maxRecDepth 100000 in
set_option maxHeartbeats 4000000 in
theorem ct_J0_coder_7d493 {Z : ZT} (hZ : ZO Z) (l : Launch) {aK aV len : Nat} {byt : List Int32}  (h : PH) (sz : Nat) (Q : Int32 → PH → Prop) (hq : Q 0 h) : Met l yJ0_coder_7d493 [.code yJ0_coder_7d493 cJ0_coder_7d493 1 (some .byte)] ({ frames := 0, cells := 0, slots := 0, locals := 0 } : Room) (PcS Z sz h [.ref aK] aK aV len byt) (va_Qi Q (BZ Z) (fr Z sz)) 0 0 (fr Z sz) := by
  refine open_S hZ (by decide +kernel) (by exact Nat.le_of_ble_eq_true rfl) ?_
  intro p e s m below meth c B hr hsz ls hl hH hS hC
  subst hsz
  have hl : lv_has ls 1 [(0, .ref aK)] := hl
  refine va_gets B.1 B.2.1 (own := RJ0) hS.1 hH.2 B.2.2.2.1 (tq_257 B.2.2.2.2.1) (fun _ h => h) dJ0_coder_7d493_0 ?_
  refine lv_if_eq (tgt := 13) B.1 B.2.1 dJ0_coder_7d493_3 (by decide) (fun z => absurd z (by decide)) (fun _ => ?_)
  refine lv_aload_n B.1 B.2.1 dJ0_coder_7d493_6 rfl (lv_at hl 0 rfl) ?_
  refine vk_getf B.1 B.2.1 (own := RJ0) (hC.1 0 (by decide)).2.1 hH.2 B.2.2.2.1 (tq_1311 B.2.2.2.2.1) (fun _ h => h) dJ0_coder_7d493_7 ?_
  refine lv_goto (tgt := 14) B.1 B.2.1 dJ0_coder_7d493_10 (by decide) ?_
  exact e_b B hr rfl hH hq dJ0_coder_7d493_14
set_option maxRecDepth 100000 in
set_option maxHeartbeats 4000000 in
theorem ct_J0_isLatin1_aae02 {Z : ZT} (hZ : ZO Z) (l : Launch) {aK aV len : Nat} {byt : List Int32}  (h : PH) (sz : Nat) (Q : Int32 → PH → Prop) (hq : Q 1 h) : Met l yJ0_isLatin1_aae02 [.code yJ0_isLatin1_aae02 cJ0_isLatin1_aae02 1 (some .boolean)] ({ frames := 0, cells := 0, slots := 0, locals := 0 } : Room) (PcS Z sz h [.ref aK] aK aV len byt) (va_Qi Q (BZ Z) (fr Z sz)) 0 0 (fr Z sz) := by
  refine open_S hZ (by decide +kernel) (by exact Nat.le_of_ble_eq_true rfl) ?_
  intro p e s m below meth c B hr hsz ls hl hH hS hC
  subst hsz
  have hl : lv_has ls 1 [(0, .ref aK)] := hl
  refine va_gets B.1 B.2.1 (own := RJ0) hS.1 hH.2 B.2.2.2.1 (tq_257 B.2.2.2.2.1) (fun _ h => h) dJ0_isLatin1_aae02_0 ?_
  refine lv_if_eq (tgt := 17) B.1 B.2.1 dJ0_isLatin1_aae02_3 (by decide) (fun z => absurd z (by decide)) (fun _ => ?_)
  refine lv_aload_n B.1 B.2.1 dJ0_isLatin1_aae02_6 rfl (lv_at hl 0 rfl) ?_
  refine vk_getf B.1 B.2.1 (own := RJ0) (hC.1 0 (by decide)).2.1 hH.2 B.2.2.2.1 (tq_1311 B.2.2.2.2.1) (fun _ h => h) dJ0_isLatin1_aae02_7 ?_
  refine lv_if_ne (tgt := 17) B.1 B.2.1 dJ0_isLatin1_aae02_10 (by decide) (fun z => absurd rfl z) (fun _ => ?_)
  refine lv_iconst (v := 1) B.1 B.2.1 dJ0_isLatin1_aae02_13 (by decide) ?_
  refine lv_goto (tgt := 18) B.1 B.2.1 dJ0_isLatin1_aae02_14 (by decide) ?_
  exact e_z B hr (Or.inr rfl) hH hq dJ0_isLatin1_aae02_18
set_option maxRecDepth 100000 in
set_option maxHeartbeats 4000000 in
theorem ct_J0_length_8abf5 {Z : ZT} (hZ : ZO Z) (l : Launch) {aK aV len : Nat} {byt : List Int32}  (h : PH) (sz : Nat) (Q : Int32 → PH → Prop) (hlen : len < 2 ^ 31) (hq : Q (nI len) h) : Met l yJ0_length_8abf5 [.code yJ0_length_8abf5 cJ0_length_8abf5 1 (some .int)] ({ frames := 1, cells := 0, slots := 0, locals := 20 } : Room) (PcS Z sz h [.ref aK] aK aV len byt) (va_Qi Q (BZ Z) (fr Z sz)) 0 0 (fr Z sz) := by
  refine open_S hZ (by decide +kernel) (by exact Nat.le_of_ble_eq_true rfl) ?_
  intro p e s m below meth c B hr hsz ls hl hH hS hC
  subst hsz
  have hl : lv_has ls 1 [(0, .ref aK)] := hl
  have hT : va_T .byte aV len (fun j => .int (byt.getD j 0)) (fr Z s.heap.size) s s.heap := (hC.1 0 (by decide)).2.2.2
  refine lv_aload_n B.1 B.2.1 dJ0_length_8abf5_0 rfl (lv_at hl 0 rfl) ?_
  refine vk_getf B.1 B.2.1 (own := RJ0) (hC.1 0 (by decide)).2.2.1 hH.2 B.2.2.2.1 (tq_1310 B.2.2.2.2.1) (fun _ h => h) dJ0_length_8abf5_1 ?_
  refine va_tlen B.1 B.2.1 hT hH.2 (v := nI len) rfl dJ0_length_8abf5_4 ?_
  refine lv_aload_n B.1 B.2.1 dJ0_length_8abf5_5 rfl (lv_at hl 0 rfl) ?_
  refine s_V_I (own := RJ0) (As := []) (rest := [.int (nI len)]) B hH hS hC (cy_J0_coder_7d493 B.2.2.2.2.1) (ct_J0_coder_7d493 hZ l h _ (fun r9 h9 => r9 = 0 ∧ h9 = h) ⟨rfl, rfl⟩) ⟨⟨rfl, rfl⟩, Nat.le_of_ble_eq_true rfl, Nat.le_of_ble_eq_true rfl, Nat.zero_le _, Nat.zero_le _⟩ rfl (tq_253 B.2.2.2.2.1) rfl hl.1 rfl (Nat.le_of_ble_eq_true rfl) dJ0_length_8abf5_6 ?_
  clear hH
  intro r9 h9 H locs hw hH
  obtain ⟨hw1, hw2⟩ := hw
  subst hw1
  subst hw2
  refine lv_ishr B.1 B.2.1 dJ0_length_8abf5_9 ?_
  exact e_i B hr hH (by rw [sc_shr0 hlen]; exact hq) dJ0_length_8abf5_10
set_option maxRecDepth 100000 in
set_option maxHeartbeats 4000000 in
theorem ct_J0_charAt_5068e {Z : ZT} (hZ : ZO Z) (l : Launch) {aK aV len : Nat} {byt : List Int32} (k : Nat) (h : PH) (sz : Nat) (Q : Int32 → PH → Prop) (hk : k < len) (hlen : len < 2 ^ 31) (hq : Q (byt.getD k 0 &&& 255) h) : Met l yJ0_charAt_5068e [.code yJ0_charAt_5068e cJ0_charAt_5068e 2 (some .char)] ({ frames := 3, cells := 0, slots := 0, locals := 64 } : Room) (PcS Z sz h [.ref aK, .int (nI k)] aK aV len byt) (va_Qi Q (BZ Z) (fr Z sz)) 0 0 (fr Z sz) := by
  refine open_S hZ (by decide +kernel) (by exact Nat.le_of_ble_eq_true rfl) ?_
  intro p e s m below meth c B hr hsz ls hl hH hS hC
  subst hsz
  have hl : lv_has ls 2 [(0, .ref aK), (1, .int (nI k))] := hl
  refine lv_aload_n B.1 B.2.1 dJ0_charAt_5068e_0 rfl (lv_at hl 0 rfl) ?_
  refine s_V_I (own := RJ0) (As := []) (rest := []) B hH hS hC (cy_J0_isLatin1_aae02 B.2.2.2.2.1) (ct_J0_isLatin1_aae02 hZ l h _ (fun r9 h9 => r9 = 1 ∧ h9 = h) ⟨rfl, rfl⟩) ⟨⟨rfl, rfl⟩, Nat.le_of_ble_eq_true rfl, Nat.le_of_ble_eq_true rfl, Nat.zero_le _, Nat.zero_le _⟩ rfl (tq_263 B.2.2.2.2.1) rfl hl.1 rfl (Nat.le_of_ble_eq_true rfl) dJ0_charAt_5068e_1 ?_
  clear hH
  intro r9 h9 H locs hw hH
  obtain ⟨hw1, hw2⟩ := hw
  subst hw1
  subst hw2
  refine lv_if_eq (tgt := 16) B.1 B.2.1 dJ0_charAt_5068e_4 (by decide) (fun z => absurd z (by decide)) (fun _ => ?_)
  refine lv_aload_n B.1 B.2.1 dJ0_charAt_5068e_7 rfl (lv_at hl 0 rfl) ?_
  refine vk_getf B.1 B.2.1 (own := RJ0) (hC.1 0 (by decide)).2.2.1 hH.2 B.2.2.2.1 (tq_1310 B.2.2.2.2.1) (fun _ h => h) dJ0_charAt_5068e_8 ?_
  refine lv_iload_n B.1 B.2.1 dJ0_charAt_5068e_11 rfl (lv_at hl 1 rfl) ?_
  refine s_S_I (own := RJ0) (As := [.ref aV, .int (nI k)]) (rest := []) B hH hS hC (cy_J1_charAt_3b067 B.2.2.2.2.1) (ct_J1_charAt_3b067 hZ l k h9 _ (fun r9 h8 => r9 = (byt.getD k 0 &&& 255) ∧ h8 = h9) hk hlen ⟨rfl, rfl⟩) ⟨⟨rfl, rfl⟩, Nat.le_of_ble_eq_true rfl, Nat.le_of_ble_eq_true rfl, Nat.zero_le _, Nat.zero_le _⟩ (tq_267 B.2.2.2.2.1) rfl hl.1 rfl (Nat.le_of_ble_eq_true rfl) dJ0_charAt_5068e_12 ?_
  clear hH
  intro r9 h8 H locs hw hH
  obtain ⟨hw1, hw2⟩ := hw
  subst hw1
  subst hw2
  exact e_b B hr (sc_nar _) hH hq dJ0_charAt_5068e_15
/-! the constants by their place in KL -/
def kq (t : Nat) : Nat × String × Nat × List Int32 := KL.getD t (0, "", 0, [])
def klen (t : Nat) : Nat := (kq t).2.2.1
def kch (t j : Nat) : Int32 := ((kq t).2.2.2).getD j 0 &&& 255
def AD (ad : Nat → Nat) (U : State) : Prop := ∀ t : Nat, t < 8 → vk_R RX6 (kq t).1 (kq t).2.1 (ad t) U
theorem kq_in {t : Nat} (h : t < 8) : kq t ∈ KL := (by decide +kernel : ∀ t, t < 8 → kq t ∈ KL) t h
theorem klen_s {t : Nat} (h : t < 8) : klen t < 2 ^ 31 := Nat.lt_of_lt_of_le ((by decide +kernel : ∀ t, t < 8 → klen t < 5) t h) (by decide)
theorem KT.ad {Z : ZT} {s : State} (h : KT Z s) : ∃ ad av : Nat → Nat, AD ad s ∧ ∀ t : Nat, t < 8 → SC Z (ad t) (av t) (klen t) (kq t).2.2.2 s := by
  have h0 : ∀ t : Nat, ∃ q : Nat × Nat, t < 8 → vk_R RX6 (kq t).1 (kq t).2.1 q.1 s ∧ SC Z q.1 q.2 (klen t) (kq t).2.2.2 s := by
    intro t
    by_cases ht : t < 8
    · obtain ⟨aK, aV, h1, h2⟩ := h (kq t) (kq_in ht)
      exact ⟨(aK, aV), fun _ => ⟨h1, h2⟩⟩
    · exact ⟨(0, 0), fun z => absurd z ht⟩
  exact ⟨fun t => (h0 t).choose.1, fun t => (h0 t).choose.2, fun t ht => ((h0 t).choose_spec ht).1, fun t ht => ((h0 t).choose_spec ht).2⟩
theorem AD.warm {ad : Nat → Nat} {s U : State} (hW : s.WarmedH U.vm) (h : AD ad s) : AD ad U := fun t ht => vk_R.warm hW (h t ht)
theorem AD.vm {ad : Nat → Nat} {s U : State} (hv : U.vm = s.vm) (h : AD ad s) : AD ad U := fun t ht => vk_R.same hv (h t ht)
def PcT (Z : ZT) (sz : Nat) (h : PH) (ad : Nat → Nat) (av : List Value) : Array Value → State → Prop := va_Pc av (fun U => U.heap.size = sz ∧ GG U ∧ va_K Z.1 vwCl (zt Z) U ∧ va_P Z.1 vwCl (wl Z h) U.heap ∧ AD ad U)
theorem pct_bl {Z : ZT} {sz : Nat} {h : PH} {ad : Nat → Nat} {av : List Value} : FrameBlind (PcT Z sz h ad av) := fun a U g mk q => ⟨q.1, q.2.1, GG.vm (s := U) (U := U.calling g mk a) rfl q.2.2.1, va_K.moved (u := U) (U := U.calling g mk a) (Vm.Alike.refl U.vm) q.2.2.2.1, q.2.2.2.2.1, AD.vm (s := U) (U := U.calling g mk a) rfl q.2.2.2.2.2⟩
def QT8 (Q : Nat → PH → Prop) : Option Nat → PH → Prop := fun r h => ∃ t : Nat, r = some t ∧ t < 8 ∧ Q t h
theorem open_T {Z : ZT} {l : Launch} {y : MethodName} {cc : ByteArray} {maxL : Nat} {ret : Option FieldType} {rm : Room} {h : PH} {sz : Nat} {ad : Nat → Nat} {av : List Value} {Qc : Array Value → State → Outcome → State → Prop} (hZ : ZO Z) (hy : plainName y.cls = true) (hn : (lg_sl av).length ≤ maxL)
    (body : ∀ (p : Program) (e : Env) (s : State) (m : MethodId) (below : List Frame) (meth : Method) (c : Code), Bx Z p s m c meth cc maxL y.cls → meth.sig.returnType = ret → s.heap.size = sz → ∀ ls : Array Slot, lv_has ls maxL (lv_args 0 av) → HH Z s h s.heap [] → AD ad s →
      W p l e rm s m av.toArray below meth c s.heap [] 0 0 (MQ below Qc av.toArray s 0 0 (fr Z sz)) (F0 m 0 ls [])) : Met l y [.code y cc maxL ret] rm (PcT Z sz h ad av) Qc 0 0 (fr Z sz) := by
  refine Met.ofW (cc := cc) (maxL := maxL) (ret := ret) hy rfl ?_
  intro p e s m args below meth c s₁ B hml hv
  obtain ⟨rfl, hsz, hG, hK, hP, hA⟩ := hv
  have hl := lv_entry av (n := maxL) hn
  rw [lg_entry_eq]
  generalize (lg_sl av ++ List.replicate (maxL - (lg_sl av).length) Slot.unset).toArray = ls at hl ⊢
  exact body p e s m below meth c ⟨B.exec, B.bytes, hml, findClass_of_methodNamed B.named, hG, hK, B.notSynchronized, hZ⟩ B.returns hsz ls hl ⟨hP, va_S.rf⟩ hA
section ROWST
variable {Z : ZT} {p : Program} {l : Launch} {e : Env} {R : Room} {s : State} {m : MethodId} {args : Array Value} {below : List Frame} {meth : Method} {c : Code} {H : Heap} {locs : List Loc} {cells slots : Nat} {Q : State → Prop} {cc : ByteArray} {nL : Nat} {own : String} {h : PH} {pc : Nat} {ls : Array Slot} {rest : List Value} {ad : Nat → Nat}
theorem e_t (B : Bx Z p s m c meth cc nL own) {t : Nat} {n9 : String} {Qm : Nat → PH → Prop} (hr : meth.sig.returnType = some (.object n9)) (ht8 : t < 8) (hH : HH Z s h H locs) (hq : Qm t h) (hdg : decode cc pc = .ok (.areturn, 1)) : W p l e R s m args below meth c H locs cells slots (MQ below (va_Qe ad (QT8 Qm) (BZ Z) (fr Z s.heap.size)) args s cells slots (fr Z s.heap.size)) (F0 m pc ls [.ref (ad t)]) :=
  W.aret B.1 B.2.1 hr (Or.inl ⟨n9, rfl⟩) (Or.inr ⟨_, rfl⟩) (fun u hu hW => ⟨⟨some t, h, rfl, ⟨t, rfl, ht8, hq⟩, by show va_P _ _ _ u.heap; rw [hu]; exact hH.1⟩, hH.2.F hu⟩) hH.2.2.2 hdg B.2.2.2.2.2.2.1
theorem t_S (B : Bx Z p s m c meth cc nL own) (hH : HH Z s h H locs) (hA : AD ad s) {y : MethodName} {bytes : ByteArray} {maxL n index : Nat} {ret : Option FieldType} {rm : Room} {As stk : List Value} {Qm : Nat → PH → Prop} (cy : CYS s args y bytes maxL ret n) (hM : Met l y [.code y bytes maxL ret] rm (PcT Z H.size h ad As) (va_Qe ad (QT8 Qm) (BZ Z) (fr Z H.size)) 0 0 (fr Z H.size)) (hR : (rm.cells = 0 ∧ rm.slots = 0) ∧ rm.frames + 1 ≤ R.frames ∧ 8 + (maxL + 11) + rm.locals ≤ R.locals ∧ cells ≤ R.cells ∧ slots ≤ R.slots) (hlink : (Cond.methodLink own index y).before args s = true) (hn : As.length = n) (hs : ls.size = nL) (hst : stk = As.reverse ++ rest) (hcat : (rest.map fun v => v.category).sum ≤ 8) (hdg : decode cc pc = .ok (.invokestatic index, 3))
    (kk : ∀ (t : Nat) (h : PH) (H : Heap) (locs : List Loc), t < 8 → Qm t h → HH Z s h H locs → W p l e R s m args below meth c H locs cells slots Q (F0 m (pc + 3) ls (.ref (ad t) :: rest))) : W p l e R s m args below meth c H locs cells slots Q (F0 m pc ls stk) := by
  subst hst
  refine va_calle (ad := ad) (va_runS (Ts := []) (As := As) (rest := rest) ⟨B.1, B.2.1, B.2.2.1, B.2.2.2.1, fun w hw => nomatch hw⟩ hM ⟨⟨hR.1.1, hR.1.2, hR.2.1, hR.2.2.1, cy.1, List.mem_singleton.mpr rfl, cy.2.1, cy.2.2.1, cy.2.2.2.1, cy.2.2.2.2.1, hlink⟩, cy.2.2.2.2.2⟩ ⟨pct_bl, fun U hU hW => ⟨rfl, by rw [hU], B.2.2.2.2.1.warm hW, va_K.moved hW.alike B.2.2.2.2.2.1, by rw [hU]; exact hH.1, hA.warm hW⟩⟩ rfl hn hs rfl (lv_room hcat) hdg ⟨hR.2.2.2.1, hR.2.2.2.2⟩) hH.2 (fun q _ z => fr_up hH.2.1 z) (fun q z => fr_up hH.2.1 z) ?_
  intro r u t H1 locs1 ht hvm hw hB9 hz hk hS
  obtain ⟨t8, rfl, h8, hq⟩ := hw
  exact kk t8 u H1 locs1 h8 hq ⟨by rw [← ht]; exact hB9, hS⟩
end ROWST
/-- charAt at any place that lies within -/
theorem ct_chx {Z : ZT} (hZ : ZO Z) (l : Launch) {aK aV len : Nat} {byt : List Int32} (x : Int32) (h : PH) (sz : Nat) (Q : Int32 → PH → Prop) (hx : vp_in x len) (hlen : len < 2 ^ 31) (hq : Q (byt.getD x.toNatClampNeg 0 &&& 255) h) : Met l yJ0_charAt_5068e [.code yJ0_charAt_5068e cJ0_charAt_5068e 2 (some .char)] ({ frames := 3, cells := 0, slots := 0, locals := 64 } : Room) (PcS Z sz h [.ref aK, .int x] aK aV len byt) (va_Qi Q (BZ Z) (fr Z sz)) 0 0 (fr Z sz) := by
  obtain ⟨j, hj, rfl⟩ := vp_in_of hx hlen
  rw [nI_clamp (by omega)] at hq
  exact ct_J0_charAt_5068e hZ l j h sz Q hj hlen hq
