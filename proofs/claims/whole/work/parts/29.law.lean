theorem tv_201 {U : State} {A : Array Value} (h : GG U) : (Cond.methodLink RL 117 yX7_clearText).before A U = true := h.use (List.mem_append_right _ (List.mem_of_getElem? (i := 201) (by decide +kernel))) (by decide +kernel)
theorem tv_209 {U : State} {A : Array Value} (h : GG U) : (Cond.methodLink RL 121 yX7_errorPosition).before A U = true := h.use (List.mem_append_right _ (List.mem_of_getElem? (i := 209) (by decide +kernel))) (by decide +kernel)
theorem tv_311 {U : State} {A : Array Value} (h : GG U) : (Cond.methodLink RL 190 yX7_meetAll).before A U = true := h.use (List.mem_append_right _ (List.mem_of_getElem? (i := 311) (by decide +kernel))) (by decide +kernel)
theorem tv_352 {U : State} {A : Array Value} (h : GG U) : (Cond.methodLink RL 108 yL_append).before A U = true := h.use (List.mem_append_right _ (List.mem_of_getElem? (i := 352) (by decide +kernel))) (by decide +kernel)
theorem tv_453 {U : State} {A : Array Value} (h : GG U) : (Cond.methodLink RL 125 yL_load).before A U = true := h.use (List.mem_append_right _ (List.mem_of_getElem? (i := 453) (by decide +kernel))) (by decide +kernel)
theorem tv_599 {U : State} {A : Array Value} (h : GG U) : (Cond.methodLink RL 129 yL_about).before A U = true := h.use (List.mem_append_right _ (List.mem_of_getElem? (i := 599) (by decide +kernel))) (by decide +kernel)
theorem tv_620 {U : State} {A : Array Value} (h : GG U) : (Cond.methodLink RL 132 yL_reelOf).before A U = true := h.use (List.mem_append_right _ (List.mem_of_getElem? (i := 620) (by decide +kernel))) (by decide +kernel)
theorem tv_670 {U : State} {A : Array Value} (h : GG U) : (Cond.methodLink RL 136 yL_sound).before A U = true := h.use (List.mem_append_right _ (List.mem_of_getElem? (i := 670) (by decide +kernel))) (by decide +kernel)
theorem tv_680 {U : State} {A : Array Value} (h : GG U) : (Cond.methodLink RL 139 yL_silence).before A U = true := h.use (List.mem_append_right _ (List.mem_of_getElem? (i := 680) (by decide +kernel))) (by decide +kernel)
theorem tv_698 {U : State} {A : Array Value} (h : GG U) : (Cond.methodLink RL 143 yL_piece).before A U = true := h.use (List.mem_append_right _ (List.mem_of_getElem? (i := 698) (by decide +kernel))) (by decide +kernel)
theorem tv_710 {U : State} {A : Array Value} (h : GG U) : (Cond.methodLink RL 146 yL_loopOf).before A U = true := h.use (List.mem_append_right _ (List.mem_of_getElem? (i := 710) (by decide +kernel))) (by decide +kernel)
theorem tv_721 {U : State} {A : Array Value} (h : GG U) : (Cond.methodLink RL 149 yL_cell).before A U = true := h.use (List.mem_append_right _ (List.mem_of_getElem? (i := 721) (by decide +kernel))) (by decide +kernel)
theorem tv_729 {U : State} {A : Array Value} (h : GG U) : (Cond.methodLink RL 152 yL_reel).before A U = true := h.use (List.mem_append_right _ (List.mem_of_getElem? (i := 729) (by decide +kernel))) (by decide +kernel)
theorem tv_779 {U : State} {A : Array Value} (h : GG U) : (Cond.methodLink RL 155 yL_paint).before A U = true := h.use (List.mem_append_right _ (List.mem_of_getElem? (i := 779) (by decide +kernel))) (by decide +kernel)
theorem tv_786 {U : State} {A : Array Value} (h : GG U) : (Cond.methodLink RL 159 yL_loop).before A U = true := h.use (List.mem_append_right _ (List.mem_of_getElem? (i := 786) (by decide +kernel))) (by decide +kernel)
theorem tv_793 {U : State} {A : Array Value} (h : GG U) : (Cond.methodLink RL 162 yL_splice).before A U = true := h.use (List.mem_append_right _ (List.mem_of_getElem? (i := 793) (by decide +kernel))) (by decide +kernel)
theorem tv_800 {U : State} {A : Array Value} (h : GG U) : (Cond.methodLink RL 165 yL_unsplice).before A U = true := h.use (List.mem_append_right _ (List.mem_of_getElem? (i := 800) (by decide +kernel))) (by decide +kernel)
theorem tv_807 {U : State} {A : Array Value} (h : GG U) : (Cond.methodLink RL 168 yL_speed).before A U = true := h.use (List.mem_append_right _ (List.mem_of_getElem? (i := 807) (by decide +kernel))) (by decide +kernel)
theorem tv_814 {U : State} {A : Array Value} (h : GG U) : (Cond.methodLink RL 171 yL_mute).before A U = true := h.use (List.mem_append_right _ (List.mem_of_getElem? (i := 814) (by decide +kernel))) (by decide +kernel)
theorem tv_821 {U : State} {A : Array Value} (h : GG U) : (Cond.methodLink RL 175 yL_ticks).before A U = true := h.use (List.mem_append_right _ (List.mem_of_getElem? (i := 821) (by decide +kernel))) (by decide +kernel)
theorem tv_828 {U : State} {A : Array Value} (h : GG U) : (Cond.methodLink RL 178 yL_record).before A U = true := h.use (List.mem_append_right _ (List.mem_of_getElem? (i := 828) (by decide +kernel))) (by decide +kernel)
theorem tv_835 {U : State} {A : Array Value} (h : GG U) : (Cond.methodLink RL 181 yL_undo).before A U = true := h.use (List.mem_append_right _ (List.mem_of_getElem? (i := 835) (by decide +kernel))) (by decide +kernel)
theorem tv_847 {U : State} {A : Array Value} (h : GG U) : (Cond.methodLink RL 184 yL_soundIn).before A U = true := h.use (List.mem_append_right _ (List.mem_of_getElem? (i := 847) (by decide +kernel))) (by decide +kernel)
theorem tv_856 {U : State} {A : Array Value} (h : GG U) : (Cond.methodLink RL 187 yL_meet).before A U = true := h.use (List.mem_append_right _ (List.mem_of_getElem? (i := 856) (by decide +kernel))) (by decide +kernel)
theorem tv_876 {U : State} {A : Array Value} (h : GG U) : (Cond.methodLink RL 194 yL_loudest).before A U = true := h.use (List.mem_append_right _ (List.mem_of_getElem? (i := 876) (by decide +kernel))) (by decide +kernel)
theorem tv_884 {U : State} {A : Array Value} (h : GG U) : (Cond.methodLink RL 197 yL_turnedBy).before A U = true := h.use (List.mem_append_right _ (List.mem_of_getElem? (i := 884) (by decide +kernel))) (by decide +kernel)
theorem tv_895 {U : State} {A : Array Value} (h : GG U) : (Cond.methodLink RL 202 yL_runScript).before A U = true := h.use (List.mem_append_right _ (List.mem_of_getElem? (i := 895) (by decide +kernel))) (by decide +kernel)
theorem tv_923 {U : State} {A : Array Value} (h : GG U) : (Cond.methodLink RL 206 yL_simulate).before A U = true := h.use (List.mem_append_right _ (List.mem_of_getElem? (i := 923) (by decide +kernel))) (by decide +kernel)
theorem tv_937 {U : State} {A : Array Value} (h : GG U) : (Cond.methodLink RL 210 yL_save).before A U = true := h.use (List.mem_append_right _ (List.mem_of_getElem? (i := 937) (by decide +kernel))) (by decide +kernel)
theorem tv_949 {U : State} {A : Array Value} (h : GG U) : (Cond.methodLink RL 213 yL_restore).before A U = true := h.use (List.mem_append_right _ (List.mem_of_getElem? (i := 949) (by decide +kernel))) (by decide +kernel)
theorem tv_1001 {U : State} {A : Array Value} (h : GG U) : (Cond.methodLink RL 114 yX8_thrown).before A U = true := h.use (List.mem_append_right _ (List.mem_of_getElem? (i := 1001) (by decide +kernel))) (by decide +kernel)
theorem tv_1005 {U : State} {A : Array Value} (h : GG U) : (Cond.methodLink RL 113 yX8_append).before A U = true := h.use (List.mem_append_right _ (List.mem_of_getElem? (i := 1005) (by decide +kernel))) (by decide +kernel)
theorem tv_1017 {U : State} {A : Array Value} (h : GG U) : (Cond.methodLink RL 120 yX8_clearText).before A U = true := h.use (List.mem_append_right _ (List.mem_of_getElem? (i := 1017) (by decide +kernel))) (by decide +kernel)
theorem tv_1021 {U : State} {A : Array Value} (h : GG U) : (Cond.methodLink RL 124 yX8_errorPosition).before A U = true := h.use (List.mem_append_right _ (List.mem_of_getElem? (i := 1021) (by decide +kernel))) (by decide +kernel)
theorem tv_1132 {U : State} {A : Array Value} (h : GG U) : (Cond.methodLink RL 128 yX8_load).before A U = true := h.use (List.mem_append_right _ (List.mem_of_getElem? (i := 1132) (by decide +kernel))) (by decide +kernel)
theorem tv_1139 {U : State} {A : Array Value} (h : GG U) : (Cond.methodLink RL 131 yX8_about).before A U = true := h.use (List.mem_append_right _ (List.mem_of_getElem? (i := 1139) (by decide +kernel))) (by decide +kernel)
theorem tv_1147 {U : State} {A : Array Value} (h : GG U) : (Cond.methodLink RL 135 yX8_reelOf).before A U = true := h.use (List.mem_append_right _ (List.mem_of_getElem? (i := 1147) (by decide +kernel))) (by decide +kernel)
theorem tv_1161 {U : State} {A : Array Value} (h : GG U) : (Cond.methodLink RL 138 yX8_sound).before A U = true := h.use (List.mem_append_right _ (List.mem_of_getElem? (i := 1161) (by decide +kernel))) (by decide +kernel)
theorem tv_1165 {U : State} {A : Array Value} (h : GG U) : (Cond.methodLink RL 142 yX8_silence).before A U = true := h.use (List.mem_append_right _ (List.mem_of_getElem? (i := 1165) (by decide +kernel))) (by decide +kernel)
theorem tv_1173 {U : State} {A : Array Value} (h : GG U) : (Cond.methodLink RL 145 yX8_piece).before A U = true := h.use (List.mem_append_right _ (List.mem_of_getElem? (i := 1173) (by decide +kernel))) (by decide +kernel)
theorem tv_1177 {U : State} {A : Array Value} (h : GG U) : (Cond.methodLink RL 148 yX8_loopOf).before A U = true := h.use (List.mem_append_right _ (List.mem_of_getElem? (i := 1177) (by decide +kernel))) (by decide +kernel)
theorem tv_1188 {U : State} {A : Array Value} (h : GG U) : (Cond.methodLink RL 151 yX8_cell).before A U = true := h.use (List.mem_append_right _ (List.mem_of_getElem? (i := 1188) (by decide +kernel))) (by decide +kernel)
theorem tv_1192 {U : State} {A : Array Value} (h : GG U) : (Cond.methodLink RL 154 yX8_reel).before A U = true := h.use (List.mem_append_right _ (List.mem_of_getElem? (i := 1192) (by decide +kernel))) (by decide +kernel)
theorem tv_1201 {U : State} {A : Array Value} (h : GG U) : (Cond.methodLink RL 158 yX8_paint).before A U = true := h.use (List.mem_append_right _ (List.mem_of_getElem? (i := 1201) (by decide +kernel))) (by decide +kernel)
theorem tv_1205 {U : State} {A : Array Value} (h : GG U) : (Cond.methodLink RL 161 yX8_loop).before A U = true := h.use (List.mem_append_right _ (List.mem_of_getElem? (i := 1205) (by decide +kernel))) (by decide +kernel)
theorem tv_1209 {U : State} {A : Array Value} (h : GG U) : (Cond.methodLink RL 164 yX8_splice).before A U = true := h.use (List.mem_append_right _ (List.mem_of_getElem? (i := 1209) (by decide +kernel))) (by decide +kernel)
theorem tv_1213 {U : State} {A : Array Value} (h : GG U) : (Cond.methodLink RL 167 yX8_unsplice).before A U = true := h.use (List.mem_append_right _ (List.mem_of_getElem? (i := 1213) (by decide +kernel))) (by decide +kernel)
theorem tv_1220 {U : State} {A : Array Value} (h : GG U) : (Cond.methodLink RL 170 yX8_speed).before A U = true := h.use (List.mem_append_right _ (List.mem_of_getElem? (i := 1220) (by decide +kernel))) (by decide +kernel)
theorem tv_1224 {U : State} {A : Array Value} (h : GG U) : (Cond.methodLink RL 174 yX8_mute).before A U = true := h.use (List.mem_append_right _ (List.mem_of_getElem? (i := 1224) (by decide +kernel))) (by decide +kernel)
theorem tv_1228 {U : State} {A : Array Value} (h : GG U) : (Cond.methodLink RL 177 yX8_ticks).before A U = true := h.use (List.mem_append_right _ (List.mem_of_getElem? (i := 1228) (by decide +kernel))) (by decide +kernel)
theorem tv_1233 {U : State} {A : Array Value} (h : GG U) : (Cond.methodLink RL 180 yX8_record).before A U = true := h.use (List.mem_append_right _ (List.mem_of_getElem? (i := 1233) (by decide +kernel))) (by decide +kernel)
theorem tv_1237 {U : State} {A : Array Value} (h : GG U) : (Cond.methodLink RL 183 yX8_undo).before A U = true := h.use (List.mem_append_right _ (List.mem_of_getElem? (i := 1237) (by decide +kernel))) (by decide +kernel)
theorem tv_1241 {U : State} {A : Array Value} (h : GG U) : (Cond.methodLink RL 186 yX8_soundIn).before A U = true := h.use (List.mem_append_right _ (List.mem_of_getElem? (i := 1241) (by decide +kernel))) (by decide +kernel)
theorem tv_1246 {U : State} {A : Array Value} (h : GG U) : (Cond.methodLink RL 189 yX8_meet).before A U = true := h.use (List.mem_append_right _ (List.mem_of_getElem? (i := 1246) (by decide +kernel))) (by decide +kernel)
theorem tv_1254 {U : State} {A : Array Value} (h : GG U) : (Cond.methodLink RL 193 yX8_meetAll).before A U = true := h.use (List.mem_append_right _ (List.mem_of_getElem? (i := 1254) (by decide +kernel))) (by decide +kernel)
theorem tv_1261 {U : State} {A : Array Value} (h : GG U) : (Cond.methodLink RL 196 yX8_loudest).before A U = true := h.use (List.mem_append_right _ (List.mem_of_getElem? (i := 1261) (by decide +kernel))) (by decide +kernel)
theorem tv_1266 {U : State} {A : Array Value} (h : GG U) : (Cond.methodLink RL 199 yX8_turnedBy).before A U = true := h.use (List.mem_append_right _ (List.mem_of_getElem? (i := 1266) (by decide +kernel))) (by decide +kernel)
theorem tv_1273 {U : State} {A : Array Value} (h : GG U) : (Cond.methodLink RL 205 yX8_runScript).before A U = true := h.use (List.mem_append_right _ (List.mem_of_getElem? (i := 1273) (by decide +kernel))) (by decide +kernel)
theorem tv_1287 {U : State} {A : Array Value} (h : GG U) : (Cond.methodLink RL 209 yX8_simulate).before A U = true := h.use (List.mem_append_right _ (List.mem_of_getElem? (i := 1287) (by decide +kernel))) (by decide +kernel)
theorem tv_1299 {U : State} {A : Array Value} (h : GG U) : (Cond.methodLink RL 212 yX8_save).before A U = true := h.use (List.mem_append_right _ (List.mem_of_getElem? (i := 1299) (by decide +kernel))) (by decide +kernel)
theorem tv_1303 {U : State} {A : Array Value} (h : GG U) : (Cond.methodLink RL 215 yX8_restore).before A U = true := h.use (List.mem_append_right _ (List.mem_of_getElem? (i := 1303) (by decide +kernel))) (by decide +kernel)
theorem tv_1307 {U : State} {A : Array Value} (h : GG U) : (Cond.constantLong RL 200 4294967295).before A U = true := h.use (List.mem_append_right _ (List.mem_of_getElem? (i := 1307) (by decide +kernel))) (by decide +kernel)
theorem e_law {Z : ZT} {p : Program} {l : Launch} {e : Env} {s : State} {m : MethodId} {below : List Frame} {meth : Method} {c : Code} {b : Nat} {H : Heap} {locs : List Loc} {cells slots : Nat} {h : PH} {pc : Nat} {ls : Array Slot} (B : Bx Z p s m c meth code 7 RL) (hr : meth.sig.returnType = ret) (hH : HH Z s h H locs) (hfr : ∀ k, k < zN Z → s.heap.size ≤ zA Z k) (hc : cells ≤ 601024) (hs : slots ≤ 7293034) (hdg : decode code pc = .ok (.ireturn, 1)) : W p l e room_1 s m #[Value.ref b] below meth c H locs cells slots (lw_Z below #[Value.ref b] s) (F0 m pc ls [.int 1]) :=
  va_forget (fun q hq => (hH.2.2.2 q hq).elim (fun ⟨k, hk, e⟩ => by rw [e]; exact hfr k hk) id) (W.widen hc hs (lw_ret B.1 B.2.1 hr B.2.2.2.2.2.2.1 hdg))
set_option maxRecDepth 100000 in
set_option maxHeartbeats 16000000 in
theorem law_loop {Z : ZT} {p : Program} {e : Env} {s : State} {m : MethodId} {below : List Frame} {meth : Method} {c : Code} (l : Launch) {b L : Nat} {xs : Nat → Int32} (B : Bx Z p s m c meth code 7 RL) (hr : meth.sig.returnType = ret) (hB : BX Z l s) (hN : zN Z = 352) (hX : va_X b L xs s s.heap) (hbl : b < s.heap.size) (hbA : ¬ fr Z s.heap.size b) (hfr : ∀ k, k < zN Z → s.heap.size ≤ zA Z k) (Q : Int32 → PH → Prop) (hQ : ∀ r h, Q r h → r = 1) (b1 b2 b3 : Nat) (kb1 : kd b1 = 1) (kb2 : kd b2 = 8) (kb3 : kd b3 = 12) :
    ∀ (n : Nat) (b4 : Int32) (h : PH) (cells slots : Nat) (H : Heap) (locs : List Loc) (ls : Array Slot), cells + n ≤ 601024 → slots + 6 * n ≤ 7293034 → wp_L_law_b23 L xs b1 b2 b3 Q n b4 h → HH Z s h H locs → lv_has ls 7 [(0, .ref b), (1, .ref (zA Z b1)), (2, .ref (zA Z b2)), (3, .ref (zA Z b3)), (4, .int b4)] →
      W p l e room_1 s m #[Value.ref b] below meth c H locs cells slots (lw_Z below #[Value.ref b] s) (F0 m 23 ls []) := by
    intro n
    induction n with
    | zero => intro b4 h cells slots H locs ls hc hs hw hH hl; exact absurd hw id
    | succ n ih =>
      intro b4 h cells slots H locs ls hc hs hw hH hl
      unfold wp_L_law_b23 at hw
      refine lv_iload B.1 B.2.1 dL_law_23 (lv_at hl 4 rfl) ?_
      refine lv_aload_n B.1 B.2.1 dL_law_25 rfl (lv_at hl 0 rfl) ?_
      refine va_slen B.1 B.2.1 hX hbl hbA hH.2 dL_law_26 ?_
      refine lv_iconst (v := 5) B.1 B.2.1 dL_law_27 (by decide) ?_
      refine lv_isub B.1 B.2.1 dL_law_28 ?_
      refine lv_icmp_gt (tgt := 2061) B.1 B.2.1 dL_law_29 (by decide) (fun c1 => ?_) (fun c1 => ?_)
      · replace hw := hw.1 c1
        refine lv_iconst (v := 1) B.1 B.2.1 dL_law_2061 (by decide) ?_
        exact e_law B hr hH hfr (by omega) (by omega) dL_law_2062
      · replace hw := hw.2 c1
        refine lv_aload_n B.1 B.2.1 dL_law_32 rfl (lv_at hl 0 rfl) ?_
        refine lv_iload B.1 B.2.1 dL_law_33 (lv_at hl 4 rfl) ?_
        have q2 := hw.1
        replace hw := hw.2
        refine va_sld B.1 B.2.1 hX hbl hbA hH.2 q2 dL_law_35 ?_
        refine lv_bipush (v := 31) B.1 B.2.1 dL_law_36 (by decide) ?_
        refine lv_iand B.1 B.2.1 dL_law_38 ?_
        refine lv_topi (fun x3 ex3 => ?_)
        replace hw := hw x3 ex3
        by_cases c4 : (x3 = 0)
        · replace hw := hw.1 c4
          refine lv_tableIn (off := 133) (tgt := 172) B.1 B.2.1 dL_law_39 (by rw [c4]; decide) (by rw [c4]; decide) (by rw [c4]; rfl) (by decide) ?_
          refine lv_aload_n B.1 B.2.1 dL_law_172 rfl (lv_at hl 1 rfl) ?_
          refine lv_aload_n B.1 B.2.1 dL_law_173 rfl (lv_at hl 0 rfl) ?_
          refine lv_iload B.1 B.2.1 dL_law_174 (lv_at hl 4 rfl) ?_
          refine lv_iconst (v := 1) B.1 B.2.1 dL_law_176 (by decide) ?_
          refine lv_iadd B.1 B.2.1 dL_law_177 ?_
          have q5 := hw.1
          replace hw := hw.2
          refine va_sld B.1 B.2.1 hX hbl hbA hH.2 q5 dL_law_178 ?_
          refine lv_aload_n B.1 B.2.1 dL_law_179 rfl (lv_at hl 3 rfl) ?_
          refine w_call (own := RL) (As := [.ref (zA Z b1), .int (xs (b4 + 1).toNatClampNeg), .ref (zA Z b3)]) (rest := []) B hH hB (cy_L_append B.2.2.2.2.1) (ct_L_append B.2.2.2.2.2.2.2 l hB.2.2.2 hN b1 (xs (b4 + 1).toNatClampNeg) b3 h _ _ (kb1) (kb3) hw) ⟨⟨rfl, rfl⟩, Nat.le_of_ble_eq_true rfl, Nat.le_of_ble_eq_true rfl, (by show cells + 1 ≤ 601024; omega), (by show slots + 6 ≤ 7293034; omega)⟩ (tv_352 B.2.2.2.2.1) rfl hl.1 rfl (Nat.le_of_ble_eq_true rfl) dL_law_180 ?_
          clear hw hH
          intro r7 h6 H locs hw hH
          refine lv_istore (lv' := [(5, .int r7), (0, .ref b), (1, .ref (zA Z b1)), (2, .ref (zA Z b2)), (3, .ref (zA Z b3)), (4, .int b4)]) B.1 B.2.1 dL_law_183 hl (by decide) (by first | rfl | simp [va_re_cat, Value.category]) ?_
          clear hl
          intro ls hl
          refine lv_aload_n B.1 B.2.1 dL_law_185 rfl (lv_at hl 3 rfl) ?_
          refine lv_aload_n B.1 B.2.1 dL_law_186 rfl (lv_at hl 1 rfl) ?_
          refine lv_iload B.1 B.2.1 dL_law_187 (lv_at hl 5 rfl) ?_
          refine lv_iconst (v := 1) B.1 B.2.1 dL_law_189 (by decide) ?_
          refine lv_iadd B.1 B.2.1 dL_law_190 ?_
          have q8 := hw.1
          replace hw := hw.2
          refine va_sld B.1 B.2.1 hX hbl hbA hH.2 q8 dL_law_191 ?_
          refine c_V_I (own := RL) (As := [.int (xs (b4 + 1).toNatClampNeg)]) (rest := []) B hH (cy_X8_append B.2.2.2.2.1) (ct_X8_append B.2.2.2.2.2.2.2 l b2 (xs (b4 + 1).toNatClampNeg) h6 _ _ (kb2) hw) ⟨⟨rfl, rfl⟩, Nat.le_of_ble_eq_true rfl, Nat.le_of_ble_eq_true rfl, (by show cells + 1 ≤ 601024; omega), (by show slots + 6 ≤ 7293034; omega)⟩ (rv_8 B hH (kb2)) (tv_1005 B.2.2.2.2.1) rfl hl.1 rfl (Nat.le_of_ble_eq_true rfl) dL_law_192 ?_
          clear hw hH
          intro r10 h9 H locs hw hH
          refine lv_istore (lv' := [(6, .int r10), (5, .int r7), (0, .ref b), (1, .ref (zA Z b1)), (2, .ref (zA Z b2)), (3, .ref (zA Z b3)), (4, .int b4)]) B.1 B.2.1 dL_law_195 hl (by decide) (by first | rfl | simp [va_re_cat, Value.category]) ?_
          clear hl
          intro ls hl
          refine lv_aload_n B.1 B.2.1 dL_law_197 rfl (lv_at hl 4 rfl) ?_
          refine c_V_I (own := RL) (As := []) (rest := []) B hH (cy_X8_thrown B.2.2.2.2.1) (ct_X8_thrown B.2.2.2.2.2.2.2 l b2 h9 _ _ (kb2) hw) ⟨⟨rfl, rfl⟩, Nat.le_of_ble_eq_true rfl, Nat.le_of_ble_eq_true rfl, (by show cells + 1 ≤ 601024; omega), (by show slots + 6 ≤ 7293034; omega)⟩ (rv_8 B hH (kb2)) (tv_1001 B.2.2.2.2.1) rfl hl.1 rfl (Nat.le_of_ble_eq_true rfl) dL_law_198 ?_
          clear hw hH
          intro r12 h11 H locs hw hH
          refine lv_iload B.1 B.2.1 dL_law_201 (lv_at hl 1 rfl) ?_
          refine lv_icmp_eq (tgt := 208) B.1 B.2.1 dL_law_203 (by decide) (fun c13 => ?_) (fun c13 => ?_)
          · replace hw := hw.1 c13
            refine lv_iload B.1 B.2.1 dL_law_208 (lv_at hl 1 rfl) ?_
            refine lv_if_ne (tgt := 225) B.1 B.2.1 dL_law_210 (by decide) (fun c14 => ?_) (fun c14 => ?_)
            · replace hw := hw.1 c14
              refine lv_goto (tgt := 2055) B.1 B.2.1 dL_law_225 (by decide) ?_
              obtain ⟨x15, ex15⟩ : ∃ y : Int32, y = b4 + 5 := ⟨_, rfl⟩
              replace hw := hw x15 ex15
              refine lv_iinc (v := x15) (lv' := [(4, .int x15), (6, .int r10), (5, .int r7), (0, .ref b), (1, .ref (zA Z b1)), (2, .ref (zA Z b2)), (3, .ref (zA Z b3))]) B.1 B.2.1 dL_law_2055 hl (k := 6) rfl (by rw [ex15]; rfl) (by decide) (by first | rfl | simp [va_re_cat, Value.category]) ?_
              clear hl
              intro ls hl
              refine lv_goto (tgt := 23) B.1 B.2.1 dL_law_2058 (by decide) ?_
              exact ih x15 h11 (cells + 1) (slots + 6) _ _ _ (by omega) (by omega) hw hH (lv_sub hl [3, 4, 5, 6, 0] rfl)
            · replace hw := hw.2 c14
              refine lv_aload_n B.1 B.2.1 dL_law_213 rfl (lv_at hl 5 rfl) ?_
              refine lv_iconst (v := 0) B.1 B.2.1 dL_law_214 (by decide) ?_
              have q16 := hw.1
              replace hw := hw.2
              refine r_lald B hN hH (kb3) q16 dL_law_215 ?_
              refine lv_iload B.1 B.2.1 dL_law_216 (lv_at hl 0 rfl) ?_
              refine lv_i2l B.1 B.2.1 dL_law_218 rfl ?_
              refine W.lcmp B.1 B.2.1 dL_law_219 ?_
              refine lv_if_eq (tgt := 225) B.1 B.2.1 dL_law_220 (by decide) (fun c17 => ?_) (fun c17 => ?_)
              · replace hw := hw.1 c17
                refine lv_goto (tgt := 2055) B.1 B.2.1 dL_law_225 (by decide) ?_
                obtain ⟨x18, ex18⟩ : ∃ y : Int32, y = b4 + 5 := ⟨_, rfl⟩
                replace hw := hw x18 ex18
                refine lv_iinc (v := x18) (lv' := [(4, .int x18), (6, .int r10), (5, .int r7), (0, .ref b), (1, .ref (zA Z b1)), (2, .ref (zA Z b2)), (3, .ref (zA Z b3))]) B.1 B.2.1 dL_law_2055 hl (k := 6) rfl (by rw [ex18]; rfl) (by decide) (by first | rfl | simp [va_re_cat, Value.category]) ?_
                clear hl
                intro ls hl
                refine lv_goto (tgt := 23) B.1 B.2.1 dL_law_2058 (by decide) ?_
                exact ih x18 h11 (cells + 1) (slots + 6) _ _ _ (by omega) (by omega) hw hH (lv_sub hl [3, 4, 5, 6, 0] rfl)
              · replace hw := hw.2 c17
                refine lv_iconst (v := 0) B.1 B.2.1 dL_law_223 (by decide) ?_
                exact absurd (hQ _ _ hw) (by decide)
          · replace hw := hw.2 c13
            refine lv_iconst (v := 0) B.1 B.2.1 dL_law_206 (by decide) ?_
            exact absurd (hQ _ _ hw) (by decide)
        · by_cases c19 : (x3 = 1)
          · replace hw := hw.2.1 c19
            refine lv_tableIn (off := 189) (tgt := 228) B.1 B.2.1 dL_law_39 (by rw [c19]; decide) (by rw [c19]; decide) (by rw [c19]; rfl) (by decide) ?_
            refine lv_aload_n B.1 B.2.1 dL_law_228 rfl (lv_at hl 1 rfl) ?_
            refine c_V_I (own := RL) (As := []) (rest := []) B hH (cy_X7_clearText B.2.2.2.2.1) (ct_X7_clearText B.2.2.2.2.2.2.2 l b1 h _ _ (kb1) hw) ⟨⟨rfl, rfl⟩, Nat.le_of_ble_eq_true rfl, Nat.le_of_ble_eq_true rfl, (by show cells ≤ 601024; omega), (by show slots ≤ 7293034; omega)⟩ (rv_1 B hH (kb1)) (tv_201 B.2.2.2.2.1) rfl hl.1 rfl (Nat.le_of_ble_eq_true rfl) dL_law_229 ?_
            clear hw hH
            intro r21 h20 H locs hw hH
            refine lv_aload_n B.1 B.2.1 dL_law_232 rfl (lv_at hl 2 rfl) ?_
            refine c_V_I (own := RL) (As := []) (rest := [.int r21]) B hH (cy_X8_clearText B.2.2.2.2.1) (ct_X8_clearText B.2.2.2.2.2.2.2 l b2 h20 _ _ (kb2) hw) ⟨⟨rfl, rfl⟩, Nat.le_of_ble_eq_true rfl, Nat.le_of_ble_eq_true rfl, (by show cells ≤ 601024; omega), (by show slots ≤ 7293034; omega)⟩ (rv_8 B hH (kb2)) (tv_1017 B.2.2.2.2.1) rfl hl.1 rfl (Nat.le_of_ble_eq_true rfl) dL_law_233 ?_
            clear hw hH
            intro r23 h22 H locs hw hH
            refine lv_icmp_eq (tgt := 2055) B.1 B.2.1 dL_law_236 (by decide) (fun c24 => ?_) (fun c24 => ?_)
            · replace hw := hw.1 c24
              obtain ⟨x25, ex25⟩ : ∃ y : Int32, y = b4 + 5 := ⟨_, rfl⟩
              replace hw := hw x25 ex25
              refine lv_iinc (v := x25) (lv' := [(4, .int x25), (0, .ref b), (1, .ref (zA Z b1)), (2, .ref (zA Z b2)), (3, .ref (zA Z b3))]) B.1 B.2.1 dL_law_2055 hl (k := 4) rfl (by rw [ex25]; rfl) (by decide) (by first | rfl | simp [va_re_cat, Value.category]) ?_
              clear hl
              intro ls hl
              refine lv_goto (tgt := 23) B.1 B.2.1 dL_law_2058 (by decide) ?_
              exact ih x25 h22 cells slots _ _ _ (by omega) (by omega) hw hH (lv_sub hl [1, 2, 3, 4, 0] rfl)
            · replace hw := hw.2 c24
              refine lv_iconst (v := 0) B.1 B.2.1 dL_law_239 (by decide) ?_
              exact absurd (hQ _ _ hw) (by decide)
          · by_cases c26 : (x3 = 2)
            · replace hw := hw.2.2.1 c26
              refine lv_tableIn (off := 202) (tgt := 241) B.1 B.2.1 dL_law_39 (by rw [c26]; decide) (by rw [c26]; decide) (by rw [c26]; rfl) (by decide) ?_
              refine lv_aload_n B.1 B.2.1 dL_law_241 rfl (lv_at hl 1 rfl) ?_
              refine k_V_I (own := RL) (As := []) (rest := []) B hH hB (cy_X7_errorPosition B.2.2.2.2.1) (ct_X7_errorPosition B.2.2.2.2.2.2.2 l hB.2.2.2 b1 h _ _ (kb1) hw) ⟨⟨rfl, rfl⟩, Nat.le_of_ble_eq_true rfl, Nat.le_of_ble_eq_true rfl, (by show cells ≤ 601024; omega), (by show slots ≤ 7293034; omega)⟩ (rv_1 B hH (kb1)) (tv_209 B.2.2.2.2.1) rfl hl.1 rfl (Nat.le_of_ble_eq_true rfl) dL_law_242 ?_
              clear hw hH
              intro r28 h27 H locs hw hH
              refine lv_aload_n B.1 B.2.1 dL_law_245 rfl (lv_at hl 2 rfl) ?_
              refine c_V_I (own := RL) (As := []) (rest := [.int r28]) B hH (cy_X8_errorPosition B.2.2.2.2.1) (ct_X8_errorPosition B.2.2.2.2.2.2.2 l b2 h27 _ _ (kb2) hw) ⟨⟨rfl, rfl⟩, Nat.le_of_ble_eq_true rfl, Nat.le_of_ble_eq_true rfl, (by show cells ≤ 601024; omega), (by show slots ≤ 7293034; omega)⟩ (rv_8 B hH (kb2)) (tv_1021 B.2.2.2.2.1) rfl hl.1 rfl (Nat.le_of_ble_eq_true rfl) dL_law_246 ?_
              clear hw hH
              intro r30 h29 H locs hw hH
              refine lv_icmp_eq (tgt := 2055) B.1 B.2.1 dL_law_249 (by decide) (fun c31 => ?_) (fun c31 => ?_)
              · replace hw := hw.1 c31
                obtain ⟨x32, ex32⟩ : ∃ y : Int32, y = b4 + 5 := ⟨_, rfl⟩
                replace hw := hw x32 ex32
                refine lv_iinc (v := x32) (lv' := [(4, .int x32), (0, .ref b), (1, .ref (zA Z b1)), (2, .ref (zA Z b2)), (3, .ref (zA Z b3))]) B.1 B.2.1 dL_law_2055 hl (k := 4) rfl (by rw [ex32]; rfl) (by decide) (by first | rfl | simp [va_re_cat, Value.category]) ?_
                clear hl
                intro ls hl
                refine lv_goto (tgt := 23) B.1 B.2.1 dL_law_2058 (by decide) ?_
                exact ih x32 h29 cells slots _ _ _ (by omega) (by omega) hw hH (lv_sub hl [1, 2, 3, 4, 0] rfl)
              · replace hw := hw.2 c31
                refine lv_iconst (v := 0) B.1 B.2.1 dL_law_252 (by decide) ?_
                exact absurd (hQ _ _ hw) (by decide)
            · by_cases c33 : (x3 = 3)
              · replace hw := hw.2.2.2.1 c33
                refine lv_tableIn (off := 215) (tgt := 254) B.1 B.2.1 dL_law_39 (by rw [c33]; decide) (by rw [c33]; decide) (by rw [c33]; rfl) (by decide) ?_
                refine lv_aload_n B.1 B.2.1 dL_law_254 rfl (lv_at hl 1 rfl) ?_
                refine lv_aload_n B.1 B.2.1 dL_law_255 rfl (lv_at hl 3 rfl) ?_
                refine w_call (own := RL) (As := [.ref (zA Z b1), .ref (zA Z b3)]) (rest := []) B hH hB (cy_L_load B.2.2.2.2.1) (ct_L_load B.2.2.2.2.2.2.2 l hB.2.2.2 hN b1 b3 h _ _ (kb1) (kb3) hw) ⟨⟨rfl, rfl⟩, Nat.le_of_ble_eq_true rfl, Nat.le_of_ble_eq_true rfl, (by show cells + 1 ≤ 601024; omega), (by show slots + 6 ≤ 7293034; omega)⟩ (tv_453 B.2.2.2.2.1) rfl hl.1 rfl (Nat.le_of_ble_eq_true rfl) dL_law_256 ?_
                clear hw hH
                intro r35 h34 H locs hw hH
                refine lv_istore (lv' := [(5, .int r35), (0, .ref b), (1, .ref (zA Z b1)), (2, .ref (zA Z b2)), (3, .ref (zA Z b3)), (4, .int b4)]) B.1 B.2.1 dL_law_259 hl (by decide) (by first | rfl | simp [va_re_cat, Value.category]) ?_
                clear hl
                intro ls hl
                refine lv_aload_n B.1 B.2.1 dL_law_261 rfl (lv_at hl 3 rfl) ?_
                refine c_V_I (own := RL) (As := []) (rest := []) B hH (cy_X8_load B.2.2.2.2.1) (ct_X8_load B.2.2.2.2.2.2.2 l b2 h34 _ _ (kb2) hw) ⟨⟨rfl, rfl⟩, Nat.le_of_ble_eq_true rfl, Nat.le_of_ble_eq_true rfl, (by show cells + 1 ≤ 601024; omega), (by show slots + 6 ≤ 7293034; omega)⟩ (rv_8 B hH (kb2)) (tv_1132 B.2.2.2.2.1) rfl hl.1 rfl (Nat.le_of_ble_eq_true rfl) dL_law_262 ?_
                clear hw hH
                intro r37 h36 H locs hw hH
                refine lv_istore (lv' := [(6, .int r37), (5, .int r35), (0, .ref b), (1, .ref (zA Z b1)), (2, .ref (zA Z b2)), (3, .ref (zA Z b3)), (4, .int b4)]) B.1 B.2.1 dL_law_265 hl (by decide) (by first | rfl | simp [va_re_cat, Value.category]) ?_
                clear hl
                intro ls hl
                refine lv_aload_n B.1 B.2.1 dL_law_267 rfl (lv_at hl 4 rfl) ?_
                refine c_V_I (own := RL) (As := []) (rest := []) B hH (cy_X8_thrown B.2.2.2.2.1) (ct_X8_thrown B.2.2.2.2.2.2.2 l b2 h36 _ _ (kb2) hw) ⟨⟨rfl, rfl⟩, Nat.le_of_ble_eq_true rfl, Nat.le_of_ble_eq_true rfl, (by show cells + 1 ≤ 601024; omega), (by show slots + 6 ≤ 7293034; omega)⟩ (rv_8 B hH (kb2)) (tv_1001 B.2.2.2.2.1) rfl hl.1 rfl (Nat.le_of_ble_eq_true rfl) dL_law_268 ?_
                clear hw hH
                intro r39 h38 H locs hw hH
                refine lv_iload B.1 B.2.1 dL_law_271 (lv_at hl 1 rfl) ?_
                refine lv_icmp_eq (tgt := 278) B.1 B.2.1 dL_law_273 (by decide) (fun c40 => ?_) (fun c40 => ?_)
                · replace hw := hw.1 c40
                  refine lv_iload B.1 B.2.1 dL_law_278 (lv_at hl 1 rfl) ?_
                  refine lv_if_ne (tgt := 295) B.1 B.2.1 dL_law_280 (by decide) (fun c41 => ?_) (fun c41 => ?_)
                  · replace hw := hw.1 c41
                    refine lv_goto (tgt := 2055) B.1 B.2.1 dL_law_295 (by decide) ?_
                    obtain ⟨x42, ex42⟩ : ∃ y : Int32, y = b4 + 5 := ⟨_, rfl⟩
                    replace hw := hw x42 ex42
                    refine lv_iinc (v := x42) (lv' := [(4, .int x42), (6, .int r37), (5, .int r35), (0, .ref b), (1, .ref (zA Z b1)), (2, .ref (zA Z b2)), (3, .ref (zA Z b3))]) B.1 B.2.1 dL_law_2055 hl (k := 6) rfl (by rw [ex42]; rfl) (by decide) (by first | rfl | simp [va_re_cat, Value.category]) ?_
                    clear hl
                    intro ls hl
                    refine lv_goto (tgt := 23) B.1 B.2.1 dL_law_2058 (by decide) ?_
                    exact ih x42 h38 (cells + 1) (slots + 6) _ _ _ (by omega) (by omega) hw hH (lv_sub hl [3, 4, 5, 6, 0] rfl)
                  · replace hw := hw.2 c41
                    refine lv_aload_n B.1 B.2.1 dL_law_283 rfl (lv_at hl 5 rfl) ?_
                    refine lv_iconst (v := 0) B.1 B.2.1 dL_law_284 (by decide) ?_
                    have q43 := hw.1
                    replace hw := hw.2
                    refine r_lald B hN hH (kb3) q43 dL_law_285 ?_
                    refine lv_iload B.1 B.2.1 dL_law_286 (lv_at hl 0 rfl) ?_
                    refine lv_i2l B.1 B.2.1 dL_law_288 rfl ?_
                    refine W.lcmp B.1 B.2.1 dL_law_289 ?_
                    refine lv_if_eq (tgt := 295) B.1 B.2.1 dL_law_290 (by decide) (fun c44 => ?_) (fun c44 => ?_)
                    · replace hw := hw.1 c44
                      refine lv_goto (tgt := 2055) B.1 B.2.1 dL_law_295 (by decide) ?_
                      obtain ⟨x45, ex45⟩ : ∃ y : Int32, y = b4 + 5 := ⟨_, rfl⟩
                      replace hw := hw x45 ex45
                      refine lv_iinc (v := x45) (lv' := [(4, .int x45), (6, .int r37), (5, .int r35), (0, .ref b), (1, .ref (zA Z b1)), (2, .ref (zA Z b2)), (3, .ref (zA Z b3))]) B.1 B.2.1 dL_law_2055 hl (k := 6) rfl (by rw [ex45]; rfl) (by decide) (by first | rfl | simp [va_re_cat, Value.category]) ?_
                      clear hl
                      intro ls hl
                      refine lv_goto (tgt := 23) B.1 B.2.1 dL_law_2058 (by decide) ?_
                      exact ih x45 h38 (cells + 1) (slots + 6) _ _ _ (by omega) (by omega) hw hH (lv_sub hl [3, 4, 5, 6, 0] rfl)
                    · replace hw := hw.2 c44
                      refine lv_iconst (v := 0) B.1 B.2.1 dL_law_293 (by decide) ?_
                      exact absurd (hQ _ _ hw) (by decide)
                · replace hw := hw.2 c40
                  refine lv_iconst (v := 0) B.1 B.2.1 dL_law_276 (by decide) ?_
                  exact absurd (hQ _ _ hw) (by decide)
              · by_cases c46 : (x3 = 4)
                · replace hw := hw.2.2.2.2.1 c46
                  refine lv_tableIn (off := 259) (tgt := 298) B.1 B.2.1 dL_law_39 (by rw [c46]; decide) (by rw [c46]; decide) (by rw [c46]; rfl) (by decide) ?_
                  refine lv_aload_n B.1 B.2.1 dL_law_298 rfl (lv_at hl 1 rfl) ?_
                  refine lv_aload_n B.1 B.2.1 dL_law_299 rfl (lv_at hl 0 rfl) ?_
                  refine lv_iload B.1 B.2.1 dL_law_300 (lv_at hl 4 rfl) ?_
                  refine lv_iconst (v := 1) B.1 B.2.1 dL_law_302 (by decide) ?_
                  refine lv_iadd B.1 B.2.1 dL_law_303 ?_
                  have q47 := hw.1
                  replace hw := hw.2
                  refine va_sld B.1 B.2.1 hX hbl hbA hH.2 q47 dL_law_304 ?_
                  refine lv_aload_n B.1 B.2.1 dL_law_305 rfl (lv_at hl 3 rfl) ?_
                  refine w_call (own := RL) (As := [.ref (zA Z b1), .int (xs (b4 + 1).toNatClampNeg), .ref (zA Z b3)]) (rest := []) B hH hB (cy_L_about B.2.2.2.2.1) (ct_L_about B.2.2.2.2.2.2.2 l hB.2.2.2 hN b1 (xs (b4 + 1).toNatClampNeg) b3 h _ _ (kb1) (kb3) hw) ⟨⟨rfl, rfl⟩, Nat.le_of_ble_eq_true rfl, Nat.le_of_ble_eq_true rfl, (by show cells + 1 ≤ 601024; omega), (by show slots + 6 ≤ 7293034; omega)⟩ (tv_599 B.2.2.2.2.1) rfl hl.1 rfl (Nat.le_of_ble_eq_true rfl) dL_law_306 ?_
                  clear hw hH
                  intro r49 h48 H locs hw hH
                  refine lv_istore (lv' := [(5, .int r49), (0, .ref b), (1, .ref (zA Z b1)), (2, .ref (zA Z b2)), (3, .ref (zA Z b3)), (4, .int b4)]) B.1 B.2.1 dL_law_309 hl (by decide) (by first | rfl | simp [va_re_cat, Value.category]) ?_
                  clear hl
                  intro ls hl
                  refine lv_aload_n B.1 B.2.1 dL_law_311 rfl (lv_at hl 3 rfl) ?_
                  refine lv_aload_n B.1 B.2.1 dL_law_312 rfl (lv_at hl 1 rfl) ?_
                  refine lv_iload B.1 B.2.1 dL_law_313 (lv_at hl 5 rfl) ?_
                  refine lv_iconst (v := 1) B.1 B.2.1 dL_law_315 (by decide) ?_
                  refine lv_iadd B.1 B.2.1 dL_law_316 ?_
                  have q50 := hw.1
                  replace hw := hw.2
                  refine va_sld B.1 B.2.1 hX hbl hbA hH.2 q50 dL_law_317 ?_
                  refine c_V_I (own := RL) (As := [.int (xs (b4 + 1).toNatClampNeg)]) (rest := []) B hH (cy_X8_about B.2.2.2.2.1) (ct_X8_about B.2.2.2.2.2.2.2 l b2 (xs (b4 + 1).toNatClampNeg) h48 _ _ (kb2) hw) ⟨⟨rfl, rfl⟩, Nat.le_of_ble_eq_true rfl, Nat.le_of_ble_eq_true rfl, (by show cells + 1 ≤ 601024; omega), (by show slots + 6 ≤ 7293034; omega)⟩ (rv_8 B hH (kb2)) (tv_1139 B.2.2.2.2.1) rfl hl.1 rfl (Nat.le_of_ble_eq_true rfl) dL_law_318 ?_
                  clear hw hH
                  intro r52 h51 H locs hw hH
                  refine lv_istore (lv' := [(6, .int r52), (5, .int r49), (0, .ref b), (1, .ref (zA Z b1)), (2, .ref (zA Z b2)), (3, .ref (zA Z b3)), (4, .int b4)]) B.1 B.2.1 dL_law_321 hl (by decide) (by first | rfl | simp [va_re_cat, Value.category]) ?_
                  clear hl
                  intro ls hl
                  refine lv_aload_n B.1 B.2.1 dL_law_323 rfl (lv_at hl 4 rfl) ?_
                  refine c_V_I (own := RL) (As := []) (rest := []) B hH (cy_X8_thrown B.2.2.2.2.1) (ct_X8_thrown B.2.2.2.2.2.2.2 l b2 h51 _ _ (kb2) hw) ⟨⟨rfl, rfl⟩, Nat.le_of_ble_eq_true rfl, Nat.le_of_ble_eq_true rfl, (by show cells + 1 ≤ 601024; omega), (by show slots + 6 ≤ 7293034; omega)⟩ (rv_8 B hH (kb2)) (tv_1001 B.2.2.2.2.1) rfl hl.1 rfl (Nat.le_of_ble_eq_true rfl) dL_law_324 ?_
                  clear hw hH
                  intro r54 h53 H locs hw hH
                  refine lv_iload B.1 B.2.1 dL_law_327 (lv_at hl 1 rfl) ?_
                  refine lv_icmp_eq (tgt := 334) B.1 B.2.1 dL_law_329 (by decide) (fun c55 => ?_) (fun c55 => ?_)
                  · replace hw := hw.1 c55
                    refine lv_iload B.1 B.2.1 dL_law_334 (lv_at hl 1 rfl) ?_
                    refine lv_if_ne (tgt := 351) B.1 B.2.1 dL_law_336 (by decide) (fun c56 => ?_) (fun c56 => ?_)
                    · replace hw := hw.1 c56
                      refine lv_goto (tgt := 2055) B.1 B.2.1 dL_law_351 (by decide) ?_
                      obtain ⟨x57, ex57⟩ : ∃ y : Int32, y = b4 + 5 := ⟨_, rfl⟩
                      replace hw := hw x57 ex57
                      refine lv_iinc (v := x57) (lv' := [(4, .int x57), (6, .int r52), (5, .int r49), (0, .ref b), (1, .ref (zA Z b1)), (2, .ref (zA Z b2)), (3, .ref (zA Z b3))]) B.1 B.2.1 dL_law_2055 hl (k := 6) rfl (by rw [ex57]; rfl) (by decide) (by first | rfl | simp [va_re_cat, Value.category]) ?_
                      clear hl
                      intro ls hl
                      refine lv_goto (tgt := 23) B.1 B.2.1 dL_law_2058 (by decide) ?_
                      exact ih x57 h53 (cells + 1) (slots + 6) _ _ _ (by omega) (by omega) hw hH (lv_sub hl [3, 4, 5, 6, 0] rfl)
                    · replace hw := hw.2 c56
                      refine lv_aload_n B.1 B.2.1 dL_law_339 rfl (lv_at hl 5 rfl) ?_
                      refine lv_iconst (v := 0) B.1 B.2.1 dL_law_340 (by decide) ?_
                      have q58 := hw.1
                      replace hw := hw.2
                      refine r_lald B hN hH (kb3) q58 dL_law_341 ?_
                      refine lv_iload B.1 B.2.1 dL_law_342 (lv_at hl 0 rfl) ?_
                      refine lv_i2l B.1 B.2.1 dL_law_344 rfl ?_
                      refine W.lcmp B.1 B.2.1 dL_law_345 ?_
                      refine lv_if_eq (tgt := 351) B.1 B.2.1 dL_law_346 (by decide) (fun c59 => ?_) (fun c59 => ?_)
                      · replace hw := hw.1 c59
                        refine lv_goto (tgt := 2055) B.1 B.2.1 dL_law_351 (by decide) ?_
                        obtain ⟨x60, ex60⟩ : ∃ y : Int32, y = b4 + 5 := ⟨_, rfl⟩
                        replace hw := hw x60 ex60
                        refine lv_iinc (v := x60) (lv' := [(4, .int x60), (6, .int r52), (5, .int r49), (0, .ref b), (1, .ref (zA Z b1)), (2, .ref (zA Z b2)), (3, .ref (zA Z b3))]) B.1 B.2.1 dL_law_2055 hl (k := 6) rfl (by rw [ex60]; rfl) (by decide) (by first | rfl | simp [va_re_cat, Value.category]) ?_
                        clear hl
                        intro ls hl
                        refine lv_goto (tgt := 23) B.1 B.2.1 dL_law_2058 (by decide) ?_
                        exact ih x60 h53 (cells + 1) (slots + 6) _ _ _ (by omega) (by omega) hw hH (lv_sub hl [3, 4, 5, 6, 0] rfl)
                      · replace hw := hw.2 c59
                        refine lv_iconst (v := 0) B.1 B.2.1 dL_law_349 (by decide) ?_
                        exact absurd (hQ _ _ hw) (by decide)
                  · replace hw := hw.2 c55
                    refine lv_iconst (v := 0) B.1 B.2.1 dL_law_332 (by decide) ?_
                    exact absurd (hQ _ _ hw) (by decide)
                · by_cases c61 : (x3 = 5)
                  · replace hw := hw.2.2.2.2.2.1 c61
                    refine lv_tableIn (off := 315) (tgt := 354) B.1 B.2.1 dL_law_39 (by rw [c61]; decide) (by rw [c61]; decide) (by rw [c61]; rfl) (by decide) ?_
                    refine lv_aload_n B.1 B.2.1 dL_law_354 rfl (lv_at hl 1 rfl) ?_
                    refine lv_aload_n B.1 B.2.1 dL_law_355 rfl (lv_at hl 0 rfl) ?_
                    refine lv_iload B.1 B.2.1 dL_law_356 (lv_at hl 4 rfl) ?_
                    refine lv_iconst (v := 1) B.1 B.2.1 dL_law_358 (by decide) ?_
                    refine lv_iadd B.1 B.2.1 dL_law_359 ?_
                    have q62 := hw.1
                    replace hw := hw.2
                    refine va_sld B.1 B.2.1 hX hbl hbA hH.2 q62 dL_law_360 ?_
                    refine lv_aload_n B.1 B.2.1 dL_law_361 rfl (lv_at hl 0 rfl) ?_
                    refine lv_iload B.1 B.2.1 dL_law_362 (lv_at hl 4 rfl) ?_
                    refine lv_iconst (v := 2) B.1 B.2.1 dL_law_364 (by decide) ?_
                    refine lv_iadd B.1 B.2.1 dL_law_365 ?_
                    have q63 := hw.1
                    replace hw := hw.2
                    refine va_sld B.1 B.2.1 hX hbl hbA hH.2 q63 dL_law_366 ?_
                    refine lv_aload_n B.1 B.2.1 dL_law_367 rfl (lv_at hl 3 rfl) ?_
                    refine w_call (own := RL) (As := [.ref (zA Z b1), .int (xs (b4 + 1).toNatClampNeg), .int (xs (b4 + 2).toNatClampNeg), .ref (zA Z b3)]) (rest := []) B hH hB (cy_L_reelOf B.2.2.2.2.1) (ct_L_reelOf B.2.2.2.2.2.2.2 l hB.2.2.2 hN b1 (xs (b4 + 1).toNatClampNeg) (xs (b4 + 2).toNatClampNeg) b3 h _ _ (kb1) (kb3) hw) ⟨⟨rfl, rfl⟩, Nat.le_of_ble_eq_true rfl, Nat.le_of_ble_eq_true rfl, (by show cells + 1 ≤ 601024; omega), (by show slots + 6 ≤ 7293034; omega)⟩ (tv_620 B.2.2.2.2.1) rfl hl.1 rfl (Nat.le_of_ble_eq_true rfl) dL_law_368 ?_
                    clear hw hH
                    intro r65 h64 H locs hw hH
                    refine lv_istore (lv' := [(5, .int r65), (0, .ref b), (1, .ref (zA Z b1)), (2, .ref (zA Z b2)), (3, .ref (zA Z b3)), (4, .int b4)]) B.1 B.2.1 dL_law_371 hl (by decide) (by first | rfl | simp [va_re_cat, Value.category]) ?_
                    clear hl
                    intro ls hl
                    refine lv_aload_n B.1 B.2.1 dL_law_373 rfl (lv_at hl 3 rfl) ?_
                    refine lv_aload_n B.1 B.2.1 dL_law_374 rfl (lv_at hl 1 rfl) ?_
                    refine lv_iload B.1 B.2.1 dL_law_375 (lv_at hl 5 rfl) ?_
                    refine lv_iconst (v := 1) B.1 B.2.1 dL_law_377 (by decide) ?_
                    refine lv_iadd B.1 B.2.1 dL_law_378 ?_
                    have q66 := hw.1
                    replace hw := hw.2
                    refine va_sld B.1 B.2.1 hX hbl hbA hH.2 q66 dL_law_379 ?_
                    refine lv_aload_n B.1 B.2.1 dL_law_380 rfl (lv_at hl 1 rfl) ?_
                    refine lv_iload B.1 B.2.1 dL_law_381 (lv_at hl 5 rfl) ?_
                    refine lv_iconst (v := 2) B.1 B.2.1 dL_law_383 (by decide) ?_
                    refine lv_iadd B.1 B.2.1 dL_law_384 ?_
                    have q67 := hw.1
                    replace hw := hw.2
                    refine va_sld B.1 B.2.1 hX hbl hbA hH.2 q67 dL_law_385 ?_
                    refine c_V_I (own := RL) (As := [.int (xs (b4 + 1).toNatClampNeg), .int (xs (b4 + 2).toNatClampNeg)]) (rest := []) B hH (cy_X8_reelOf B.2.2.2.2.1) (ct_X8_reelOf B.2.2.2.2.2.2.2 l b2 (xs (b4 + 1).toNatClampNeg) (xs (b4 + 2).toNatClampNeg) h64 _ _ (kb2) hw) ⟨⟨rfl, rfl⟩, Nat.le_of_ble_eq_true rfl, Nat.le_of_ble_eq_true rfl, (by show cells + 1 ≤ 601024; omega), (by show slots + 6 ≤ 7293034; omega)⟩ (rv_8 B hH (kb2)) (tv_1147 B.2.2.2.2.1) rfl hl.1 rfl (Nat.le_of_ble_eq_true rfl) dL_law_386 ?_
                    clear hw hH
                    intro r69 h68 H locs hw hH
                    refine lv_istore (lv' := [(6, .int r69), (5, .int r65), (0, .ref b), (1, .ref (zA Z b1)), (2, .ref (zA Z b2)), (3, .ref (zA Z b3)), (4, .int b4)]) B.1 B.2.1 dL_law_389 hl (by decide) (by first | rfl | simp [va_re_cat, Value.category]) ?_
                    clear hl
                    intro ls hl
                    refine lv_aload_n B.1 B.2.1 dL_law_391 rfl (lv_at hl 4 rfl) ?_
                    refine c_V_I (own := RL) (As := []) (rest := []) B hH (cy_X8_thrown B.2.2.2.2.1) (ct_X8_thrown B.2.2.2.2.2.2.2 l b2 h68 _ _ (kb2) hw) ⟨⟨rfl, rfl⟩, Nat.le_of_ble_eq_true rfl, Nat.le_of_ble_eq_true rfl, (by show cells + 1 ≤ 601024; omega), (by show slots + 6 ≤ 7293034; omega)⟩ (rv_8 B hH (kb2)) (tv_1001 B.2.2.2.2.1) rfl hl.1 rfl (Nat.le_of_ble_eq_true rfl) dL_law_392 ?_
                    clear hw hH
                    intro r71 h70 H locs hw hH
                    refine lv_iload B.1 B.2.1 dL_law_395 (lv_at hl 1 rfl) ?_
                    refine lv_icmp_eq (tgt := 402) B.1 B.2.1 dL_law_397 (by decide) (fun c72 => ?_) (fun c72 => ?_)
                    · replace hw := hw.1 c72
                      refine lv_iload B.1 B.2.1 dL_law_402 (lv_at hl 1 rfl) ?_
                      refine lv_if_ne (tgt := 419) B.1 B.2.1 dL_law_404 (by decide) (fun c73 => ?_) (fun c73 => ?_)
                      · replace hw := hw.1 c73
                        refine lv_goto (tgt := 2055) B.1 B.2.1 dL_law_419 (by decide) ?_
                        obtain ⟨x74, ex74⟩ : ∃ y : Int32, y = b4 + 5 := ⟨_, rfl⟩
                        replace hw := hw x74 ex74
                        refine lv_iinc (v := x74) (lv' := [(4, .int x74), (6, .int r69), (5, .int r65), (0, .ref b), (1, .ref (zA Z b1)), (2, .ref (zA Z b2)), (3, .ref (zA Z b3))]) B.1 B.2.1 dL_law_2055 hl (k := 6) rfl (by rw [ex74]; rfl) (by decide) (by first | rfl | simp [va_re_cat, Value.category]) ?_
                        clear hl
                        intro ls hl
                        refine lv_goto (tgt := 23) B.1 B.2.1 dL_law_2058 (by decide) ?_
                        exact ih x74 h70 (cells + 1) (slots + 6) _ _ _ (by omega) (by omega) hw hH (lv_sub hl [3, 4, 5, 6, 0] rfl)
                      · replace hw := hw.2 c73
                        refine lv_aload_n B.1 B.2.1 dL_law_407 rfl (lv_at hl 5 rfl) ?_
                        refine lv_iconst (v := 0) B.1 B.2.1 dL_law_408 (by decide) ?_
                        have q75 := hw.1
                        replace hw := hw.2
                        refine r_lald B hN hH (kb3) q75 dL_law_409 ?_
                        refine lv_iload B.1 B.2.1 dL_law_410 (lv_at hl 0 rfl) ?_
                        refine lv_i2l B.1 B.2.1 dL_law_412 rfl ?_
                        refine W.lcmp B.1 B.2.1 dL_law_413 ?_
                        refine lv_if_eq (tgt := 419) B.1 B.2.1 dL_law_414 (by decide) (fun c76 => ?_) (fun c76 => ?_)
                        · replace hw := hw.1 c76
                          refine lv_goto (tgt := 2055) B.1 B.2.1 dL_law_419 (by decide) ?_
                          obtain ⟨x77, ex77⟩ : ∃ y : Int32, y = b4 + 5 := ⟨_, rfl⟩
                          replace hw := hw x77 ex77
                          refine lv_iinc (v := x77) (lv' := [(4, .int x77), (6, .int r69), (5, .int r65), (0, .ref b), (1, .ref (zA Z b1)), (2, .ref (zA Z b2)), (3, .ref (zA Z b3))]) B.1 B.2.1 dL_law_2055 hl (k := 6) rfl (by rw [ex77]; rfl) (by decide) (by first | rfl | simp [va_re_cat, Value.category]) ?_
                          clear hl
                          intro ls hl
                          refine lv_goto (tgt := 23) B.1 B.2.1 dL_law_2058 (by decide) ?_
                          exact ih x77 h70 (cells + 1) (slots + 6) _ _ _ (by omega) (by omega) hw hH (lv_sub hl [3, 4, 5, 6, 0] rfl)
                        · replace hw := hw.2 c76
                          refine lv_iconst (v := 0) B.1 B.2.1 dL_law_417 (by decide) ?_
                          exact absurd (hQ _ _ hw) (by decide)
                    · replace hw := hw.2 c72
                      refine lv_iconst (v := 0) B.1 B.2.1 dL_law_400 (by decide) ?_
                      exact absurd (hQ _ _ hw) (by decide)
                  · by_cases c78 : (x3 = 6)
                    · replace hw := hw.2.2.2.2.2.2.1 c78
                      refine lv_tableIn (off := 383) (tgt := 422) B.1 B.2.1 dL_law_39 (by rw [c78]; decide) (by rw [c78]; decide) (by rw [c78]; rfl) (by decide) ?_
                      refine lv_aload_n B.1 B.2.1 dL_law_422 rfl (lv_at hl 1 rfl) ?_
                      refine lv_aload_n B.1 B.2.1 dL_law_423 rfl (lv_at hl 0 rfl) ?_
                      refine lv_iload B.1 B.2.1 dL_law_424 (lv_at hl 4 rfl) ?_
                      refine lv_iconst (v := 1) B.1 B.2.1 dL_law_426 (by decide) ?_
                      refine lv_iadd B.1 B.2.1 dL_law_427 ?_
                      have q79 := hw.1
                      replace hw := hw.2
                      refine va_sld B.1 B.2.1 hX hbl hbA hH.2 q79 dL_law_428 ?_
                      refine lv_aload_n B.1 B.2.1 dL_law_429 rfl (lv_at hl 0 rfl) ?_
                      refine lv_iload B.1 B.2.1 dL_law_430 (lv_at hl 4 rfl) ?_
                      refine lv_iconst (v := 2) B.1 B.2.1 dL_law_432 (by decide) ?_
                      refine lv_iadd B.1 B.2.1 dL_law_433 ?_
                      have q80 := hw.1
                      replace hw := hw.2
                      refine va_sld B.1 B.2.1 hX hbl hbA hH.2 q80 dL_law_434 ?_
                      refine lv_aload_n B.1 B.2.1 dL_law_435 rfl (lv_at hl 3 rfl) ?_
                      refine w_call (own := RL) (As := [.ref (zA Z b1), .int (xs (b4 + 1).toNatClampNeg), .int (xs (b4 + 2).toNatClampNeg), .ref (zA Z b3)]) (rest := []) B hH hB (cy_L_sound B.2.2.2.2.1) (ct_L_sound B.2.2.2.2.2.2.2 l hB.2.2.2 hN b1 (xs (b4 + 1).toNatClampNeg) (xs (b4 + 2).toNatClampNeg) b3 h _ _ (kb1) (kb3) hw) ⟨⟨rfl, rfl⟩, Nat.le_of_ble_eq_true rfl, Nat.le_of_ble_eq_true rfl, (by show cells + 1 ≤ 601024; omega), (by show slots + 6 ≤ 7293034; omega)⟩ (tv_670 B.2.2.2.2.1) rfl hl.1 rfl (Nat.le_of_ble_eq_true rfl) dL_law_436 ?_
                      clear hw hH
                      intro r82 h81 H locs hw hH
                      refine lv_istore (lv' := [(5, .int r82), (0, .ref b), (1, .ref (zA Z b1)), (2, .ref (zA Z b2)), (3, .ref (zA Z b3)), (4, .int b4)]) B.1 B.2.1 dL_law_439 hl (by decide) (by first | rfl | simp [va_re_cat, Value.category]) ?_
                      clear hl
                      intro ls hl
                      refine lv_aload_n B.1 B.2.1 dL_law_441 rfl (lv_at hl 3 rfl) ?_
                      refine lv_aload_n B.1 B.2.1 dL_law_442 rfl (lv_at hl 1 rfl) ?_
                      refine lv_iload B.1 B.2.1 dL_law_443 (lv_at hl 5 rfl) ?_
                      refine lv_iconst (v := 1) B.1 B.2.1 dL_law_445 (by decide) ?_
                      refine lv_iadd B.1 B.2.1 dL_law_446 ?_
                      have q83 := hw.1
                      replace hw := hw.2
                      refine va_sld B.1 B.2.1 hX hbl hbA hH.2 q83 dL_law_447 ?_
                      refine lv_aload_n B.1 B.2.1 dL_law_448 rfl (lv_at hl 1 rfl) ?_
                      refine lv_iload B.1 B.2.1 dL_law_449 (lv_at hl 5 rfl) ?_
                      refine lv_iconst (v := 2) B.1 B.2.1 dL_law_451 (by decide) ?_
                      refine lv_iadd B.1 B.2.1 dL_law_452 ?_
                      have q84 := hw.1
                      replace hw := hw.2
                      refine va_sld B.1 B.2.1 hX hbl hbA hH.2 q84 dL_law_453 ?_
                      refine c_V_I (own := RL) (As := [.int (xs (b4 + 1).toNatClampNeg), .int (xs (b4 + 2).toNatClampNeg)]) (rest := []) B hH (cy_X8_sound B.2.2.2.2.1) (ct_X8_sound B.2.2.2.2.2.2.2 l b2 (xs (b4 + 1).toNatClampNeg) (xs (b4 + 2).toNatClampNeg) h81 _ _ (kb2) hw) ⟨⟨rfl, rfl⟩, Nat.le_of_ble_eq_true rfl, Nat.le_of_ble_eq_true rfl, (by show cells + 1 ≤ 601024; omega), (by show slots + 6 ≤ 7293034; omega)⟩ (rv_8 B hH (kb2)) (tv_1161 B.2.2.2.2.1) rfl hl.1 rfl (Nat.le_of_ble_eq_true rfl) dL_law_454 ?_
                      clear hw hH
                      intro r86 h85 H locs hw hH
                      refine lv_istore (lv' := [(6, .int r86), (5, .int r82), (0, .ref b), (1, .ref (zA Z b1)), (2, .ref (zA Z b2)), (3, .ref (zA Z b3)), (4, .int b4)]) B.1 B.2.1 dL_law_457 hl (by decide) (by first | rfl | simp [va_re_cat, Value.category]) ?_
                      clear hl
                      intro ls hl
                      refine lv_aload_n B.1 B.2.1 dL_law_459 rfl (lv_at hl 4 rfl) ?_
                      refine c_V_I (own := RL) (As := []) (rest := []) B hH (cy_X8_thrown B.2.2.2.2.1) (ct_X8_thrown B.2.2.2.2.2.2.2 l b2 h85 _ _ (kb2) hw) ⟨⟨rfl, rfl⟩, Nat.le_of_ble_eq_true rfl, Nat.le_of_ble_eq_true rfl, (by show cells + 1 ≤ 601024; omega), (by show slots + 6 ≤ 7293034; omega)⟩ (rv_8 B hH (kb2)) (tv_1001 B.2.2.2.2.1) rfl hl.1 rfl (Nat.le_of_ble_eq_true rfl) dL_law_460 ?_
                      clear hw hH
                      intro r88 h87 H locs hw hH
                      refine lv_iload B.1 B.2.1 dL_law_463 (lv_at hl 1 rfl) ?_
                      refine lv_icmp_eq (tgt := 470) B.1 B.2.1 dL_law_465 (by decide) (fun c89 => ?_) (fun c89 => ?_)
                      · replace hw := hw.1 c89
                        refine lv_iload B.1 B.2.1 dL_law_470 (lv_at hl 1 rfl) ?_
                        refine lv_if_ne (tgt := 487) B.1 B.2.1 dL_law_472 (by decide) (fun c90 => ?_) (fun c90 => ?_)
                        · replace hw := hw.1 c90
                          refine lv_goto (tgt := 2055) B.1 B.2.1 dL_law_487 (by decide) ?_
                          obtain ⟨x91, ex91⟩ : ∃ y : Int32, y = b4 + 5 := ⟨_, rfl⟩
                          replace hw := hw x91 ex91
                          refine lv_iinc (v := x91) (lv' := [(4, .int x91), (6, .int r86), (5, .int r82), (0, .ref b), (1, .ref (zA Z b1)), (2, .ref (zA Z b2)), (3, .ref (zA Z b3))]) B.1 B.2.1 dL_law_2055 hl (k := 6) rfl (by rw [ex91]; rfl) (by decide) (by first | rfl | simp [va_re_cat, Value.category]) ?_
                          clear hl
                          intro ls hl
                          refine lv_goto (tgt := 23) B.1 B.2.1 dL_law_2058 (by decide) ?_
                          exact ih x91 h87 (cells + 1) (slots + 6) _ _ _ (by omega) (by omega) hw hH (lv_sub hl [3, 4, 5, 6, 0] rfl)
                        · replace hw := hw.2 c90
                          refine lv_aload_n B.1 B.2.1 dL_law_475 rfl (lv_at hl 5 rfl) ?_
                          refine lv_iconst (v := 0) B.1 B.2.1 dL_law_476 (by decide) ?_
                          have q92 := hw.1
                          replace hw := hw.2
                          refine r_lald B hN hH (kb3) q92 dL_law_477 ?_
                          refine lv_iload B.1 B.2.1 dL_law_478 (lv_at hl 0 rfl) ?_
                          refine lv_i2l B.1 B.2.1 dL_law_480 rfl ?_
                          refine W.lcmp B.1 B.2.1 dL_law_481 ?_
                          refine lv_if_eq (tgt := 487) B.1 B.2.1 dL_law_482 (by decide) (fun c93 => ?_) (fun c93 => ?_)
                          · replace hw := hw.1 c93
                            refine lv_goto (tgt := 2055) B.1 B.2.1 dL_law_487 (by decide) ?_
                            obtain ⟨x94, ex94⟩ : ∃ y : Int32, y = b4 + 5 := ⟨_, rfl⟩
                            replace hw := hw x94 ex94
                            refine lv_iinc (v := x94) (lv' := [(4, .int x94), (6, .int r86), (5, .int r82), (0, .ref b), (1, .ref (zA Z b1)), (2, .ref (zA Z b2)), (3, .ref (zA Z b3))]) B.1 B.2.1 dL_law_2055 hl (k := 6) rfl (by rw [ex94]; rfl) (by decide) (by first | rfl | simp [va_re_cat, Value.category]) ?_
                            clear hl
                            intro ls hl
                            refine lv_goto (tgt := 23) B.1 B.2.1 dL_law_2058 (by decide) ?_
                            exact ih x94 h87 (cells + 1) (slots + 6) _ _ _ (by omega) (by omega) hw hH (lv_sub hl [3, 4, 5, 6, 0] rfl)
                          · replace hw := hw.2 c93
                            refine lv_iconst (v := 0) B.1 B.2.1 dL_law_485 (by decide) ?_
                            exact absurd (hQ _ _ hw) (by decide)
                      · replace hw := hw.2 c89
                        refine lv_iconst (v := 0) B.1 B.2.1 dL_law_468 (by decide) ?_
                        exact absurd (hQ _ _ hw) (by decide)
                    · by_cases c95 : (x3 = 7)
                      · replace hw := hw.2.2.2.2.2.2.2.1 c95
                        refine lv_tableIn (off := 451) (tgt := 490) B.1 B.2.1 dL_law_39 (by rw [c95]; decide) (by rw [c95]; decide) (by rw [c95]; rfl) (by decide) ?_
                        refine lv_aload_n B.1 B.2.1 dL_law_490 rfl (lv_at hl 1 rfl) ?_
                        refine lv_aload_n B.1 B.2.1 dL_law_491 rfl (lv_at hl 0 rfl) ?_
                        refine lv_iload B.1 B.2.1 dL_law_492 (lv_at hl 4 rfl) ?_
                        refine lv_iconst (v := 1) B.1 B.2.1 dL_law_494 (by decide) ?_
                        refine lv_iadd B.1 B.2.1 dL_law_495 ?_
                        have q96 := hw.1
                        replace hw := hw.2
                        refine va_sld B.1 B.2.1 hX hbl hbA hH.2 q96 dL_law_496 ?_
                        refine lv_aload_n B.1 B.2.1 dL_law_497 rfl (lv_at hl 0 rfl) ?_
                        refine lv_iload B.1 B.2.1 dL_law_498 (lv_at hl 4 rfl) ?_
                        refine lv_iconst (v := 2) B.1 B.2.1 dL_law_500 (by decide) ?_
                        refine lv_iadd B.1 B.2.1 dL_law_501 ?_
                        have q97 := hw.1
                        replace hw := hw.2
                        refine va_sld B.1 B.2.1 hX hbl hbA hH.2 q97 dL_law_502 ?_
                        refine lv_aload_n B.1 B.2.1 dL_law_503 rfl (lv_at hl 0 rfl) ?_
                        refine lv_iload B.1 B.2.1 dL_law_504 (lv_at hl 4 rfl) ?_
                        refine lv_iconst (v := 3) B.1 B.2.1 dL_law_506 (by decide) ?_
                        refine lv_iadd B.1 B.2.1 dL_law_507 ?_
                        have q98 := hw.1
                        replace hw := hw.2
                        refine va_sld B.1 B.2.1 hX hbl hbA hH.2 q98 dL_law_508 ?_
                        refine lv_aload_n B.1 B.2.1 dL_law_509 rfl (lv_at hl 3 rfl) ?_
                        refine w_call (own := RL) (As := [.ref (zA Z b1), .int (xs (b4 + 1).toNatClampNeg), .int (xs (b4 + 2).toNatClampNeg), .int (xs (b4 + 3).toNatClampNeg), .ref (zA Z b3)]) (rest := []) B hH hB (cy_L_silence B.2.2.2.2.1) (ct_L_silence B.2.2.2.2.2.2.2 l hB.2.2.2 hN b1 (xs (b4 + 1).toNatClampNeg) (xs (b4 + 2).toNatClampNeg) (xs (b4 + 3).toNatClampNeg) b3 h _ _ (kb1) (kb3) hw) ⟨⟨rfl, rfl⟩, Nat.le_of_ble_eq_true rfl, Nat.le_of_ble_eq_true rfl, (by show cells + 1 ≤ 601024; omega), (by show slots + 6 ≤ 7293034; omega)⟩ (tv_680 B.2.2.2.2.1) rfl hl.1 rfl (Nat.le_of_ble_eq_true rfl) dL_law_510 ?_
                        clear hw hH
                        intro r100 h99 H locs hw hH
                        refine lv_istore (lv' := [(5, .int r100), (0, .ref b), (1, .ref (zA Z b1)), (2, .ref (zA Z b2)), (3, .ref (zA Z b3)), (4, .int b4)]) B.1 B.2.1 dL_law_513 hl (by decide) (by first | rfl | simp [va_re_cat, Value.category]) ?_
                        clear hl
                        intro ls hl
                        refine lv_aload_n B.1 B.2.1 dL_law_515 rfl (lv_at hl 3 rfl) ?_
                        refine lv_aload_n B.1 B.2.1 dL_law_516 rfl (lv_at hl 1 rfl) ?_
                        refine lv_iload B.1 B.2.1 dL_law_517 (lv_at hl 5 rfl) ?_
                        refine lv_iconst (v := 1) B.1 B.2.1 dL_law_519 (by decide) ?_
                        refine lv_iadd B.1 B.2.1 dL_law_520 ?_
                        have q101 := hw.1
                        replace hw := hw.2
                        refine va_sld B.1 B.2.1 hX hbl hbA hH.2 q101 dL_law_521 ?_
                        refine lv_aload_n B.1 B.2.1 dL_law_522 rfl (lv_at hl 1 rfl) ?_
                        refine lv_iload B.1 B.2.1 dL_law_523 (lv_at hl 5 rfl) ?_
                        refine lv_iconst (v := 2) B.1 B.2.1 dL_law_525 (by decide) ?_
                        refine lv_iadd B.1 B.2.1 dL_law_526 ?_
                        have q102 := hw.1
                        replace hw := hw.2
                        refine va_sld B.1 B.2.1 hX hbl hbA hH.2 q102 dL_law_527 ?_
                        refine lv_aload_n B.1 B.2.1 dL_law_528 rfl (lv_at hl 1 rfl) ?_
                        refine lv_iload B.1 B.2.1 dL_law_529 (lv_at hl 5 rfl) ?_
                        refine lv_iconst (v := 3) B.1 B.2.1 dL_law_531 (by decide) ?_
                        refine lv_iadd B.1 B.2.1 dL_law_532 ?_
                        have q103 := hw.1
                        replace hw := hw.2
                        refine va_sld B.1 B.2.1 hX hbl hbA hH.2 q103 dL_law_533 ?_
                        refine c_V_I (own := RL) (As := [.int (xs (b4 + 1).toNatClampNeg), .int (xs (b4 + 2).toNatClampNeg), .int (xs (b4 + 3).toNatClampNeg)]) (rest := []) B hH (cy_X8_silence B.2.2.2.2.1) (ct_X8_silence B.2.2.2.2.2.2.2 l b2 (xs (b4 + 1).toNatClampNeg) (xs (b4 + 2).toNatClampNeg) (xs (b4 + 3).toNatClampNeg) h99 _ _ (kb2) hw) ⟨⟨rfl, rfl⟩, Nat.le_of_ble_eq_true rfl, Nat.le_of_ble_eq_true rfl, (by show cells + 1 ≤ 601024; omega), (by show slots + 6 ≤ 7293034; omega)⟩ (rv_8 B hH (kb2)) (tv_1165 B.2.2.2.2.1) rfl hl.1 rfl (Nat.le_of_ble_eq_true rfl) dL_law_534 ?_
                        clear hw hH
                        intro r105 h104 H locs hw hH
                        refine lv_istore (lv' := [(6, .int r105), (5, .int r100), (0, .ref b), (1, .ref (zA Z b1)), (2, .ref (zA Z b2)), (3, .ref (zA Z b3)), (4, .int b4)]) B.1 B.2.1 dL_law_537 hl (by decide) (by first | rfl | simp [va_re_cat, Value.category]) ?_
                        clear hl
                        intro ls hl
                        refine lv_aload_n B.1 B.2.1 dL_law_539 rfl (lv_at hl 4 rfl) ?_
                        refine c_V_I (own := RL) (As := []) (rest := []) B hH (cy_X8_thrown B.2.2.2.2.1) (ct_X8_thrown B.2.2.2.2.2.2.2 l b2 h104 _ _ (kb2) hw) ⟨⟨rfl, rfl⟩, Nat.le_of_ble_eq_true rfl, Nat.le_of_ble_eq_true rfl, (by show cells + 1 ≤ 601024; omega), (by show slots + 6 ≤ 7293034; omega)⟩ (rv_8 B hH (kb2)) (tv_1001 B.2.2.2.2.1) rfl hl.1 rfl (Nat.le_of_ble_eq_true rfl) dL_law_540 ?_
                        clear hw hH
                        intro r107 h106 H locs hw hH
                        refine lv_iload B.1 B.2.1 dL_law_543 (lv_at hl 1 rfl) ?_
                        refine lv_icmp_eq (tgt := 550) B.1 B.2.1 dL_law_545 (by decide) (fun c108 => ?_) (fun c108 => ?_)
                        · replace hw := hw.1 c108
                          refine lv_iload B.1 B.2.1 dL_law_550 (lv_at hl 1 rfl) ?_
                          refine lv_if_ne (tgt := 567) B.1 B.2.1 dL_law_552 (by decide) (fun c109 => ?_) (fun c109 => ?_)
                          · replace hw := hw.1 c109
                            refine lv_goto (tgt := 2055) B.1 B.2.1 dL_law_567 (by decide) ?_
                            obtain ⟨x110, ex110⟩ : ∃ y : Int32, y = b4 + 5 := ⟨_, rfl⟩
                            replace hw := hw x110 ex110
                            refine lv_iinc (v := x110) (lv' := [(4, .int x110), (6, .int r105), (5, .int r100), (0, .ref b), (1, .ref (zA Z b1)), (2, .ref (zA Z b2)), (3, .ref (zA Z b3))]) B.1 B.2.1 dL_law_2055 hl (k := 6) rfl (by rw [ex110]; rfl) (by decide) (by first | rfl | simp [va_re_cat, Value.category]) ?_
                            clear hl
                            intro ls hl
                            refine lv_goto (tgt := 23) B.1 B.2.1 dL_law_2058 (by decide) ?_
                            exact ih x110 h106 (cells + 1) (slots + 6) _ _ _ (by omega) (by omega) hw hH (lv_sub hl [3, 4, 5, 6, 0] rfl)
                          · replace hw := hw.2 c109
                            refine lv_aload_n B.1 B.2.1 dL_law_555 rfl (lv_at hl 5 rfl) ?_
                            refine lv_iconst (v := 0) B.1 B.2.1 dL_law_556 (by decide) ?_
                            have q111 := hw.1
                            replace hw := hw.2
                            refine r_lald B hN hH (kb3) q111 dL_law_557 ?_
                            refine lv_iload B.1 B.2.1 dL_law_558 (lv_at hl 0 rfl) ?_
                            refine lv_i2l B.1 B.2.1 dL_law_560 rfl ?_
                            refine W.lcmp B.1 B.2.1 dL_law_561 ?_
                            refine lv_if_eq (tgt := 567) B.1 B.2.1 dL_law_562 (by decide) (fun c112 => ?_) (fun c112 => ?_)
                            · replace hw := hw.1 c112
                              refine lv_goto (tgt := 2055) B.1 B.2.1 dL_law_567 (by decide) ?_
                              obtain ⟨x113, ex113⟩ : ∃ y : Int32, y = b4 + 5 := ⟨_, rfl⟩
                              replace hw := hw x113 ex113
                              refine lv_iinc (v := x113) (lv' := [(4, .int x113), (6, .int r105), (5, .int r100), (0, .ref b), (1, .ref (zA Z b1)), (2, .ref (zA Z b2)), (3, .ref (zA Z b3))]) B.1 B.2.1 dL_law_2055 hl (k := 6) rfl (by rw [ex113]; rfl) (by decide) (by first | rfl | simp [va_re_cat, Value.category]) ?_
                              clear hl
                              intro ls hl
                              refine lv_goto (tgt := 23) B.1 B.2.1 dL_law_2058 (by decide) ?_
                              exact ih x113 h106 (cells + 1) (slots + 6) _ _ _ (by omega) (by omega) hw hH (lv_sub hl [3, 4, 5, 6, 0] rfl)
                            · replace hw := hw.2 c112
                              refine lv_iconst (v := 0) B.1 B.2.1 dL_law_565 (by decide) ?_
                              exact absurd (hQ _ _ hw) (by decide)
                        · replace hw := hw.2 c108
                          refine lv_iconst (v := 0) B.1 B.2.1 dL_law_548 (by decide) ?_
                          exact absurd (hQ _ _ hw) (by decide)
                      · by_cases c114 : (x3 = 8)
                        · replace hw := hw.2.2.2.2.2.2.2.2.1 c114
                          refine lv_tableIn (off := 531) (tgt := 570) B.1 B.2.1 dL_law_39 (by rw [c114]; decide) (by rw [c114]; decide) (by rw [c114]; rfl) (by decide) ?_
                          refine lv_aload_n B.1 B.2.1 dL_law_570 rfl (lv_at hl 1 rfl) ?_
                          refine lv_aload_n B.1 B.2.1 dL_law_571 rfl (lv_at hl 0 rfl) ?_
                          refine lv_iload B.1 B.2.1 dL_law_572 (lv_at hl 4 rfl) ?_
                          refine lv_iconst (v := 1) B.1 B.2.1 dL_law_574 (by decide) ?_
                          refine lv_iadd B.1 B.2.1 dL_law_575 ?_
                          have q115 := hw.1
                          replace hw := hw.2
                          refine va_sld B.1 B.2.1 hX hbl hbA hH.2 q115 dL_law_576 ?_
                          refine lv_aload_n B.1 B.2.1 dL_law_577 rfl (lv_at hl 0 rfl) ?_
                          refine lv_iload B.1 B.2.1 dL_law_578 (lv_at hl 4 rfl) ?_
                          refine lv_iconst (v := 2) B.1 B.2.1 dL_law_580 (by decide) ?_
                          refine lv_iadd B.1 B.2.1 dL_law_581 ?_
                          have q116 := hw.1
                          replace hw := hw.2
                          refine va_sld B.1 B.2.1 hX hbl hbA hH.2 q116 dL_law_582 ?_
                          refine lv_aload_n B.1 B.2.1 dL_law_583 rfl (lv_at hl 0 rfl) ?_
                          refine lv_iload B.1 B.2.1 dL_law_584 (lv_at hl 4 rfl) ?_
                          refine lv_iconst (v := 3) B.1 B.2.1 dL_law_586 (by decide) ?_
                          refine lv_iadd B.1 B.2.1 dL_law_587 ?_
                          have q117 := hw.1
                          replace hw := hw.2
                          refine va_sld B.1 B.2.1 hX hbl hbA hH.2 q117 dL_law_588 ?_
                          refine lv_aload_n B.1 B.2.1 dL_law_589 rfl (lv_at hl 3 rfl) ?_
                          refine w_call (own := RL) (As := [.ref (zA Z b1), .int (xs (b4 + 1).toNatClampNeg), .int (xs (b4 + 2).toNatClampNeg), .int (xs (b4 + 3).toNatClampNeg), .ref (zA Z b3)]) (rest := []) B hH hB (cy_L_piece B.2.2.2.2.1) (ct_L_piece B.2.2.2.2.2.2.2 l hB.2.2.2 hN b1 (xs (b4 + 1).toNatClampNeg) (xs (b4 + 2).toNatClampNeg) (xs (b4 + 3).toNatClampNeg) b3 h _ _ (kb1) (kb3) hw) ⟨⟨rfl, rfl⟩, Nat.le_of_ble_eq_true rfl, Nat.le_of_ble_eq_true rfl, (by show cells + 1 ≤ 601024; omega), (by show slots + 6 ≤ 7293034; omega)⟩ (tv_698 B.2.2.2.2.1) rfl hl.1 rfl (Nat.le_of_ble_eq_true rfl) dL_law_590 ?_
                          clear hw hH
                          intro r119 h118 H locs hw hH
                          refine lv_istore (lv' := [(5, .int r119), (0, .ref b), (1, .ref (zA Z b1)), (2, .ref (zA Z b2)), (3, .ref (zA Z b3)), (4, .int b4)]) B.1 B.2.1 dL_law_593 hl (by decide) (by first | rfl | simp [va_re_cat, Value.category]) ?_
                          clear hl
                          intro ls hl
                          refine lv_aload_n B.1 B.2.1 dL_law_595 rfl (lv_at hl 3 rfl) ?_
                          refine lv_aload_n B.1 B.2.1 dL_law_596 rfl (lv_at hl 1 rfl) ?_
                          refine lv_iload B.1 B.2.1 dL_law_597 (lv_at hl 5 rfl) ?_
                          refine lv_iconst (v := 1) B.1 B.2.1 dL_law_599 (by decide) ?_
                          refine lv_iadd B.1 B.2.1 dL_law_600 ?_
                          have q120 := hw.1
                          replace hw := hw.2
                          refine va_sld B.1 B.2.1 hX hbl hbA hH.2 q120 dL_law_601 ?_
                          refine lv_aload_n B.1 B.2.1 dL_law_602 rfl (lv_at hl 1 rfl) ?_
                          refine lv_iload B.1 B.2.1 dL_law_603 (lv_at hl 5 rfl) ?_
                          refine lv_iconst (v := 2) B.1 B.2.1 dL_law_605 (by decide) ?_
                          refine lv_iadd B.1 B.2.1 dL_law_606 ?_
                          have q121 := hw.1
                          replace hw := hw.2
                          refine va_sld B.1 B.2.1 hX hbl hbA hH.2 q121 dL_law_607 ?_
                          refine lv_aload_n B.1 B.2.1 dL_law_608 rfl (lv_at hl 1 rfl) ?_
                          refine lv_iload B.1 B.2.1 dL_law_609 (lv_at hl 5 rfl) ?_
                          refine lv_iconst (v := 3) B.1 B.2.1 dL_law_611 (by decide) ?_
                          refine lv_iadd B.1 B.2.1 dL_law_612 ?_
                          have q122 := hw.1
                          replace hw := hw.2
                          refine va_sld B.1 B.2.1 hX hbl hbA hH.2 q122 dL_law_613 ?_
                          refine c_V_I (own := RL) (As := [.int (xs (b4 + 1).toNatClampNeg), .int (xs (b4 + 2).toNatClampNeg), .int (xs (b4 + 3).toNatClampNeg)]) (rest := []) B hH (cy_X8_piece B.2.2.2.2.1) (ct_X8_piece B.2.2.2.2.2.2.2 l b2 (xs (b4 + 1).toNatClampNeg) (xs (b4 + 2).toNatClampNeg) (xs (b4 + 3).toNatClampNeg) h118 _ _ (kb2) hw) ⟨⟨rfl, rfl⟩, Nat.le_of_ble_eq_true rfl, Nat.le_of_ble_eq_true rfl, (by show cells + 1 ≤ 601024; omega), (by show slots + 6 ≤ 7293034; omega)⟩ (rv_8 B hH (kb2)) (tv_1173 B.2.2.2.2.1) rfl hl.1 rfl (Nat.le_of_ble_eq_true rfl) dL_law_614 ?_
                          clear hw hH
                          intro r124 h123 H locs hw hH
                          refine lv_istore (lv' := [(6, .int r124), (5, .int r119), (0, .ref b), (1, .ref (zA Z b1)), (2, .ref (zA Z b2)), (3, .ref (zA Z b3)), (4, .int b4)]) B.1 B.2.1 dL_law_617 hl (by decide) (by first | rfl | simp [va_re_cat, Value.category]) ?_
                          clear hl
                          intro ls hl
                          refine lv_aload_n B.1 B.2.1 dL_law_619 rfl (lv_at hl 4 rfl) ?_
                          refine c_V_I (own := RL) (As := []) (rest := []) B hH (cy_X8_thrown B.2.2.2.2.1) (ct_X8_thrown B.2.2.2.2.2.2.2 l b2 h123 _ _ (kb2) hw) ⟨⟨rfl, rfl⟩, Nat.le_of_ble_eq_true rfl, Nat.le_of_ble_eq_true rfl, (by show cells + 1 ≤ 601024; omega), (by show slots + 6 ≤ 7293034; omega)⟩ (rv_8 B hH (kb2)) (tv_1001 B.2.2.2.2.1) rfl hl.1 rfl (Nat.le_of_ble_eq_true rfl) dL_law_620 ?_
                          clear hw hH
                          intro r126 h125 H locs hw hH
                          refine lv_iload B.1 B.2.1 dL_law_623 (lv_at hl 1 rfl) ?_
                          refine lv_icmp_eq (tgt := 630) B.1 B.2.1 dL_law_625 (by decide) (fun c127 => ?_) (fun c127 => ?_)
                          · replace hw := hw.1 c127
                            refine lv_iload B.1 B.2.1 dL_law_630 (lv_at hl 1 rfl) ?_
                            refine lv_if_ne (tgt := 647) B.1 B.2.1 dL_law_632 (by decide) (fun c128 => ?_) (fun c128 => ?_)
                            · replace hw := hw.1 c128
                              refine lv_goto (tgt := 2055) B.1 B.2.1 dL_law_647 (by decide) ?_
                              obtain ⟨x129, ex129⟩ : ∃ y : Int32, y = b4 + 5 := ⟨_, rfl⟩
                              replace hw := hw x129 ex129
                              refine lv_iinc (v := x129) (lv' := [(4, .int x129), (6, .int r124), (5, .int r119), (0, .ref b), (1, .ref (zA Z b1)), (2, .ref (zA Z b2)), (3, .ref (zA Z b3))]) B.1 B.2.1 dL_law_2055 hl (k := 6) rfl (by rw [ex129]; rfl) (by decide) (by first | rfl | simp [va_re_cat, Value.category]) ?_
                              clear hl
                              intro ls hl
                              refine lv_goto (tgt := 23) B.1 B.2.1 dL_law_2058 (by decide) ?_
                              exact ih x129 h125 (cells + 1) (slots + 6) _ _ _ (by omega) (by omega) hw hH (lv_sub hl [3, 4, 5, 6, 0] rfl)
                            · replace hw := hw.2 c128
                              refine lv_aload_n B.1 B.2.1 dL_law_635 rfl (lv_at hl 5 rfl) ?_
                              refine lv_iconst (v := 0) B.1 B.2.1 dL_law_636 (by decide) ?_
                              have q130 := hw.1
                              replace hw := hw.2
                              refine r_lald B hN hH (kb3) q130 dL_law_637 ?_
                              refine lv_iload B.1 B.2.1 dL_law_638 (lv_at hl 0 rfl) ?_
                              refine lv_i2l B.1 B.2.1 dL_law_640 rfl ?_
                              refine W.lcmp B.1 B.2.1 dL_law_641 ?_
                              refine lv_if_eq (tgt := 647) B.1 B.2.1 dL_law_642 (by decide) (fun c131 => ?_) (fun c131 => ?_)
                              · replace hw := hw.1 c131
                                refine lv_goto (tgt := 2055) B.1 B.2.1 dL_law_647 (by decide) ?_
                                obtain ⟨x132, ex132⟩ : ∃ y : Int32, y = b4 + 5 := ⟨_, rfl⟩
                                replace hw := hw x132 ex132
                                refine lv_iinc (v := x132) (lv' := [(4, .int x132), (6, .int r124), (5, .int r119), (0, .ref b), (1, .ref (zA Z b1)), (2, .ref (zA Z b2)), (3, .ref (zA Z b3))]) B.1 B.2.1 dL_law_2055 hl (k := 6) rfl (by rw [ex132]; rfl) (by decide) (by first | rfl | simp [va_re_cat, Value.category]) ?_
                                clear hl
                                intro ls hl
                                refine lv_goto (tgt := 23) B.1 B.2.1 dL_law_2058 (by decide) ?_
                                exact ih x132 h125 (cells + 1) (slots + 6) _ _ _ (by omega) (by omega) hw hH (lv_sub hl [3, 4, 5, 6, 0] rfl)
                              · replace hw := hw.2 c131
                                refine lv_iconst (v := 0) B.1 B.2.1 dL_law_645 (by decide) ?_
                                exact absurd (hQ _ _ hw) (by decide)
                          · replace hw := hw.2 c127
                            refine lv_iconst (v := 0) B.1 B.2.1 dL_law_628 (by decide) ?_
                            exact absurd (hQ _ _ hw) (by decide)
                        · by_cases c133 : (x3 = 9)
                          · replace hw := hw.2.2.2.2.2.2.2.2.2.1 c133
                            refine lv_tableIn (off := 611) (tgt := 650) B.1 B.2.1 dL_law_39 (by rw [c133]; decide) (by rw [c133]; decide) (by rw [c133]; rfl) (by decide) ?_
                            refine lv_aload_n B.1 B.2.1 dL_law_650 rfl (lv_at hl 1 rfl) ?_
                            refine lv_aload_n B.1 B.2.1 dL_law_651 rfl (lv_at hl 0 rfl) ?_
                            refine lv_iload B.1 B.2.1 dL_law_652 (lv_at hl 4 rfl) ?_
                            refine lv_iconst (v := 1) B.1 B.2.1 dL_law_654 (by decide) ?_
                            refine lv_iadd B.1 B.2.1 dL_law_655 ?_
                            have q134 := hw.1
                            replace hw := hw.2
                            refine va_sld B.1 B.2.1 hX hbl hbA hH.2 q134 dL_law_656 ?_
                            refine lv_aload_n B.1 B.2.1 dL_law_657 rfl (lv_at hl 0 rfl) ?_
                            refine lv_iload B.1 B.2.1 dL_law_658 (lv_at hl 4 rfl) ?_
                            refine lv_iconst (v := 2) B.1 B.2.1 dL_law_660 (by decide) ?_
                            refine lv_iadd B.1 B.2.1 dL_law_661 ?_
                            have q135 := hw.1
                            replace hw := hw.2
                            refine va_sld B.1 B.2.1 hX hbl hbA hH.2 q135 dL_law_662 ?_
                            refine lv_aload_n B.1 B.2.1 dL_law_663 rfl (lv_at hl 3 rfl) ?_
                            refine w_call (own := RL) (As := [.ref (zA Z b1), .int (xs (b4 + 1).toNatClampNeg), .int (xs (b4 + 2).toNatClampNeg), .ref (zA Z b3)]) (rest := []) B hH hB (cy_L_loopOf B.2.2.2.2.1) (ct_L_loopOf B.2.2.2.2.2.2.2 l hB.2.2.2 hN b1 (xs (b4 + 1).toNatClampNeg) (xs (b4 + 2).toNatClampNeg) b3 h _ _ (kb1) (kb3) hw) ⟨⟨rfl, rfl⟩, Nat.le_of_ble_eq_true rfl, Nat.le_of_ble_eq_true rfl, (by show cells + 1 ≤ 601024; omega), (by show slots + 6 ≤ 7293034; omega)⟩ (tv_710 B.2.2.2.2.1) rfl hl.1 rfl (Nat.le_of_ble_eq_true rfl) dL_law_664 ?_
                            clear hw hH
                            intro r137 h136 H locs hw hH
                            refine lv_istore (lv' := [(5, .int r137), (0, .ref b), (1, .ref (zA Z b1)), (2, .ref (zA Z b2)), (3, .ref (zA Z b3)), (4, .int b4)]) B.1 B.2.1 dL_law_667 hl (by decide) (by first | rfl | simp [va_re_cat, Value.category]) ?_
                            clear hl
                            intro ls hl
                            refine lv_aload_n B.1 B.2.1 dL_law_669 rfl (lv_at hl 3 rfl) ?_
                            refine lv_aload_n B.1 B.2.1 dL_law_670 rfl (lv_at hl 1 rfl) ?_
                            refine lv_iload B.1 B.2.1 dL_law_671 (lv_at hl 5 rfl) ?_
                            refine lv_iconst (v := 1) B.1 B.2.1 dL_law_673 (by decide) ?_
                            refine lv_iadd B.1 B.2.1 dL_law_674 ?_
                            have q138 := hw.1
                            replace hw := hw.2
                            refine va_sld B.1 B.2.1 hX hbl hbA hH.2 q138 dL_law_675 ?_
                            refine lv_aload_n B.1 B.2.1 dL_law_676 rfl (lv_at hl 1 rfl) ?_
                            refine lv_iload B.1 B.2.1 dL_law_677 (lv_at hl 5 rfl) ?_
                            refine lv_iconst (v := 2) B.1 B.2.1 dL_law_679 (by decide) ?_
                            refine lv_iadd B.1 B.2.1 dL_law_680 ?_
                            have q139 := hw.1
                            replace hw := hw.2
                            refine va_sld B.1 B.2.1 hX hbl hbA hH.2 q139 dL_law_681 ?_
                            refine c_V_I (own := RL) (As := [.int (xs (b4 + 1).toNatClampNeg), .int (xs (b4 + 2).toNatClampNeg)]) (rest := []) B hH (cy_X8_loopOf B.2.2.2.2.1) (ct_X8_loopOf B.2.2.2.2.2.2.2 l b2 (xs (b4 + 1).toNatClampNeg) (xs (b4 + 2).toNatClampNeg) h136 _ _ (kb2) hw) ⟨⟨rfl, rfl⟩, Nat.le_of_ble_eq_true rfl, Nat.le_of_ble_eq_true rfl, (by show cells + 1 ≤ 601024; omega), (by show slots + 6 ≤ 7293034; omega)⟩ (rv_8 B hH (kb2)) (tv_1177 B.2.2.2.2.1) rfl hl.1 rfl (Nat.le_of_ble_eq_true rfl) dL_law_682 ?_
                            clear hw hH
                            intro r141 h140 H locs hw hH
                            refine lv_istore (lv' := [(6, .int r141), (5, .int r137), (0, .ref b), (1, .ref (zA Z b1)), (2, .ref (zA Z b2)), (3, .ref (zA Z b3)), (4, .int b4)]) B.1 B.2.1 dL_law_685 hl (by decide) (by first | rfl | simp [va_re_cat, Value.category]) ?_
                            clear hl
                            intro ls hl
                            refine lv_aload_n B.1 B.2.1 dL_law_687 rfl (lv_at hl 4 rfl) ?_
                            refine c_V_I (own := RL) (As := []) (rest := []) B hH (cy_X8_thrown B.2.2.2.2.1) (ct_X8_thrown B.2.2.2.2.2.2.2 l b2 h140 _ _ (kb2) hw) ⟨⟨rfl, rfl⟩, Nat.le_of_ble_eq_true rfl, Nat.le_of_ble_eq_true rfl, (by show cells + 1 ≤ 601024; omega), (by show slots + 6 ≤ 7293034; omega)⟩ (rv_8 B hH (kb2)) (tv_1001 B.2.2.2.2.1) rfl hl.1 rfl (Nat.le_of_ble_eq_true rfl) dL_law_688 ?_
                            clear hw hH
                            intro r143 h142 H locs hw hH
                            refine lv_iload B.1 B.2.1 dL_law_691 (lv_at hl 1 rfl) ?_
                            refine lv_icmp_eq (tgt := 698) B.1 B.2.1 dL_law_693 (by decide) (fun c144 => ?_) (fun c144 => ?_)
                            · replace hw := hw.1 c144
                              refine lv_iload B.1 B.2.1 dL_law_698 (lv_at hl 1 rfl) ?_
                              refine lv_if_ne (tgt := 715) B.1 B.2.1 dL_law_700 (by decide) (fun c145 => ?_) (fun c145 => ?_)
                              · replace hw := hw.1 c145
                                refine lv_goto (tgt := 2055) B.1 B.2.1 dL_law_715 (by decide) ?_
                                obtain ⟨x146, ex146⟩ : ∃ y : Int32, y = b4 + 5 := ⟨_, rfl⟩
                                replace hw := hw x146 ex146
                                refine lv_iinc (v := x146) (lv' := [(4, .int x146), (6, .int r141), (5, .int r137), (0, .ref b), (1, .ref (zA Z b1)), (2, .ref (zA Z b2)), (3, .ref (zA Z b3))]) B.1 B.2.1 dL_law_2055 hl (k := 6) rfl (by rw [ex146]; rfl) (by decide) (by first | rfl | simp [va_re_cat, Value.category]) ?_
                                clear hl
                                intro ls hl
                                refine lv_goto (tgt := 23) B.1 B.2.1 dL_law_2058 (by decide) ?_
                                exact ih x146 h142 (cells + 1) (slots + 6) _ _ _ (by omega) (by omega) hw hH (lv_sub hl [3, 4, 5, 6, 0] rfl)
                              · replace hw := hw.2 c145
                                refine lv_aload_n B.1 B.2.1 dL_law_703 rfl (lv_at hl 5 rfl) ?_
                                refine lv_iconst (v := 0) B.1 B.2.1 dL_law_704 (by decide) ?_
                                have q147 := hw.1
                                replace hw := hw.2
                                refine r_lald B hN hH (kb3) q147 dL_law_705 ?_
                                refine lv_iload B.1 B.2.1 dL_law_706 (lv_at hl 0 rfl) ?_
                                refine lv_i2l B.1 B.2.1 dL_law_708 rfl ?_
                                refine W.lcmp B.1 B.2.1 dL_law_709 ?_
                                refine lv_if_eq (tgt := 715) B.1 B.2.1 dL_law_710 (by decide) (fun c148 => ?_) (fun c148 => ?_)
                                · replace hw := hw.1 c148
                                  refine lv_goto (tgt := 2055) B.1 B.2.1 dL_law_715 (by decide) ?_
                                  obtain ⟨x149, ex149⟩ : ∃ y : Int32, y = b4 + 5 := ⟨_, rfl⟩
                                  replace hw := hw x149 ex149
                                  refine lv_iinc (v := x149) (lv' := [(4, .int x149), (6, .int r141), (5, .int r137), (0, .ref b), (1, .ref (zA Z b1)), (2, .ref (zA Z b2)), (3, .ref (zA Z b3))]) B.1 B.2.1 dL_law_2055 hl (k := 6) rfl (by rw [ex149]; rfl) (by decide) (by first | rfl | simp [va_re_cat, Value.category]) ?_
                                  clear hl
                                  intro ls hl
                                  refine lv_goto (tgt := 23) B.1 B.2.1 dL_law_2058 (by decide) ?_
                                  exact ih x149 h142 (cells + 1) (slots + 6) _ _ _ (by omega) (by omega) hw hH (lv_sub hl [3, 4, 5, 6, 0] rfl)
                                · replace hw := hw.2 c148
                                  refine lv_iconst (v := 0) B.1 B.2.1 dL_law_713 (by decide) ?_
                                  exact absurd (hQ _ _ hw) (by decide)
                            · replace hw := hw.2 c144
                              refine lv_iconst (v := 0) B.1 B.2.1 dL_law_696 (by decide) ?_
                              exact absurd (hQ _ _ hw) (by decide)
                          · by_cases c150 : (x3 = 10)
                            · replace hw := hw.2.2.2.2.2.2.2.2.2.2.1 c150
                              refine lv_tableIn (off := 679) (tgt := 718) B.1 B.2.1 dL_law_39 (by rw [c150]; decide) (by rw [c150]; decide) (by rw [c150]; rfl) (by decide) ?_
                              refine lv_aload_n B.1 B.2.1 dL_law_718 rfl (lv_at hl 1 rfl) ?_
                              refine lv_aload_n B.1 B.2.1 dL_law_719 rfl (lv_at hl 0 rfl) ?_
                              refine lv_iload B.1 B.2.1 dL_law_720 (lv_at hl 4 rfl) ?_
                              refine lv_iconst (v := 1) B.1 B.2.1 dL_law_722 (by decide) ?_
                              refine lv_iadd B.1 B.2.1 dL_law_723 ?_
                              have q151 := hw.1
                              replace hw := hw.2
                              refine va_sld B.1 B.2.1 hX hbl hbA hH.2 q151 dL_law_724 ?_
                              refine lv_aload_n B.1 B.2.1 dL_law_725 rfl (lv_at hl 0 rfl) ?_
                              refine lv_iload B.1 B.2.1 dL_law_726 (lv_at hl 4 rfl) ?_
                              refine lv_iconst (v := 2) B.1 B.2.1 dL_law_728 (by decide) ?_
                              refine lv_iadd B.1 B.2.1 dL_law_729 ?_
                              have q152 := hw.1
                              replace hw := hw.2
                              refine va_sld B.1 B.2.1 hX hbl hbA hH.2 q152 dL_law_730 ?_
                              refine lv_aload_n B.1 B.2.1 dL_law_731 rfl (lv_at hl 3 rfl) ?_
                              refine w_call (own := RL) (As := [.ref (zA Z b1), .int (xs (b4 + 1).toNatClampNeg), .int (xs (b4 + 2).toNatClampNeg), .ref (zA Z b3)]) (rest := []) B hH hB (cy_L_cell B.2.2.2.2.1) (ct_L_cell B.2.2.2.2.2.2.2 l hB.2.2.2 hN b1 (xs (b4 + 1).toNatClampNeg) (xs (b4 + 2).toNatClampNeg) b3 h _ _ (kb1) (kb3) hw) ⟨⟨rfl, rfl⟩, Nat.le_of_ble_eq_true rfl, Nat.le_of_ble_eq_true rfl, (by show cells + 1 ≤ 601024; omega), (by show slots + 6 ≤ 7293034; omega)⟩ (tv_721 B.2.2.2.2.1) rfl hl.1 rfl (Nat.le_of_ble_eq_true rfl) dL_law_732 ?_
                              clear hw hH
                              intro r154 h153 H locs hw hH
                              refine lv_istore (lv' := [(5, .int r154), (0, .ref b), (1, .ref (zA Z b1)), (2, .ref (zA Z b2)), (3, .ref (zA Z b3)), (4, .int b4)]) B.1 B.2.1 dL_law_735 hl (by decide) (by first | rfl | simp [va_re_cat, Value.category]) ?_
                              clear hl
                              intro ls hl
                              refine lv_aload_n B.1 B.2.1 dL_law_737 rfl (lv_at hl 3 rfl) ?_
                              refine lv_aload_n B.1 B.2.1 dL_law_738 rfl (lv_at hl 1 rfl) ?_
                              refine lv_iload B.1 B.2.1 dL_law_739 (lv_at hl 5 rfl) ?_
                              refine lv_iconst (v := 1) B.1 B.2.1 dL_law_741 (by decide) ?_
                              refine lv_iadd B.1 B.2.1 dL_law_742 ?_
                              have q155 := hw.1
                              replace hw := hw.2
                              refine va_sld B.1 B.2.1 hX hbl hbA hH.2 q155 dL_law_743 ?_
                              refine lv_aload_n B.1 B.2.1 dL_law_744 rfl (lv_at hl 1 rfl) ?_
                              refine lv_iload B.1 B.2.1 dL_law_745 (lv_at hl 5 rfl) ?_
                              refine lv_iconst (v := 2) B.1 B.2.1 dL_law_747 (by decide) ?_
                              refine lv_iadd B.1 B.2.1 dL_law_748 ?_
                              have q156 := hw.1
                              replace hw := hw.2
                              refine va_sld B.1 B.2.1 hX hbl hbA hH.2 q156 dL_law_749 ?_
                              refine c_V_I (own := RL) (As := [.int (xs (b4 + 1).toNatClampNeg), .int (xs (b4 + 2).toNatClampNeg)]) (rest := []) B hH (cy_X8_cell B.2.2.2.2.1) (ct_X8_cell B.2.2.2.2.2.2.2 l b2 (xs (b4 + 1).toNatClampNeg) (xs (b4 + 2).toNatClampNeg) h153 _ _ (kb2) hw) ⟨⟨rfl, rfl⟩, Nat.le_of_ble_eq_true rfl, Nat.le_of_ble_eq_true rfl, (by show cells + 1 ≤ 601024; omega), (by show slots + 6 ≤ 7293034; omega)⟩ (rv_8 B hH (kb2)) (tv_1188 B.2.2.2.2.1) rfl hl.1 rfl (Nat.le_of_ble_eq_true rfl) dL_law_750 ?_
                              clear hw hH
                              intro r158 h157 H locs hw hH
                              refine lv_istore (lv' := [(6, .int r158), (5, .int r154), (0, .ref b), (1, .ref (zA Z b1)), (2, .ref (zA Z b2)), (3, .ref (zA Z b3)), (4, .int b4)]) B.1 B.2.1 dL_law_753 hl (by decide) (by first | rfl | simp [va_re_cat, Value.category]) ?_
                              clear hl
                              intro ls hl
                              refine lv_aload_n B.1 B.2.1 dL_law_755 rfl (lv_at hl 4 rfl) ?_
                              refine c_V_I (own := RL) (As := []) (rest := []) B hH (cy_X8_thrown B.2.2.2.2.1) (ct_X8_thrown B.2.2.2.2.2.2.2 l b2 h157 _ _ (kb2) hw) ⟨⟨rfl, rfl⟩, Nat.le_of_ble_eq_true rfl, Nat.le_of_ble_eq_true rfl, (by show cells + 1 ≤ 601024; omega), (by show slots + 6 ≤ 7293034; omega)⟩ (rv_8 B hH (kb2)) (tv_1001 B.2.2.2.2.1) rfl hl.1 rfl (Nat.le_of_ble_eq_true rfl) dL_law_756 ?_
                              clear hw hH
                              intro r160 h159 H locs hw hH
                              refine lv_iload B.1 B.2.1 dL_law_759 (lv_at hl 1 rfl) ?_
                              refine lv_icmp_eq (tgt := 766) B.1 B.2.1 dL_law_761 (by decide) (fun c161 => ?_) (fun c161 => ?_)
                              · replace hw := hw.1 c161
                                refine lv_iload B.1 B.2.1 dL_law_766 (lv_at hl 1 rfl) ?_
                                refine lv_if_ne (tgt := 783) B.1 B.2.1 dL_law_768 (by decide) (fun c162 => ?_) (fun c162 => ?_)
                                · replace hw := hw.1 c162
                                  refine lv_goto (tgt := 2055) B.1 B.2.1 dL_law_783 (by decide) ?_
                                  obtain ⟨x163, ex163⟩ : ∃ y : Int32, y = b4 + 5 := ⟨_, rfl⟩
                                  replace hw := hw x163 ex163
                                  refine lv_iinc (v := x163) (lv' := [(4, .int x163), (6, .int r158), (5, .int r154), (0, .ref b), (1, .ref (zA Z b1)), (2, .ref (zA Z b2)), (3, .ref (zA Z b3))]) B.1 B.2.1 dL_law_2055 hl (k := 6) rfl (by rw [ex163]; rfl) (by decide) (by first | rfl | simp [va_re_cat, Value.category]) ?_
                                  clear hl
                                  intro ls hl
                                  refine lv_goto (tgt := 23) B.1 B.2.1 dL_law_2058 (by decide) ?_
                                  exact ih x163 h159 (cells + 1) (slots + 6) _ _ _ (by omega) (by omega) hw hH (lv_sub hl [3, 4, 5, 6, 0] rfl)
                                · replace hw := hw.2 c162
                                  refine lv_aload_n B.1 B.2.1 dL_law_771 rfl (lv_at hl 5 rfl) ?_
                                  refine lv_iconst (v := 0) B.1 B.2.1 dL_law_772 (by decide) ?_
                                  have q164 := hw.1
                                  replace hw := hw.2
                                  refine r_lald B hN hH (kb3) q164 dL_law_773 ?_
                                  refine lv_iload B.1 B.2.1 dL_law_774 (lv_at hl 0 rfl) ?_
                                  refine lv_i2l B.1 B.2.1 dL_law_776 rfl ?_
                                  refine W.lcmp B.1 B.2.1 dL_law_777 ?_
                                  refine lv_if_eq (tgt := 783) B.1 B.2.1 dL_law_778 (by decide) (fun c165 => ?_) (fun c165 => ?_)
                                  · replace hw := hw.1 c165
                                    refine lv_goto (tgt := 2055) B.1 B.2.1 dL_law_783 (by decide) ?_
                                    obtain ⟨x166, ex166⟩ : ∃ y : Int32, y = b4 + 5 := ⟨_, rfl⟩
                                    replace hw := hw x166 ex166
                                    refine lv_iinc (v := x166) (lv' := [(4, .int x166), (6, .int r158), (5, .int r154), (0, .ref b), (1, .ref (zA Z b1)), (2, .ref (zA Z b2)), (3, .ref (zA Z b3))]) B.1 B.2.1 dL_law_2055 hl (k := 6) rfl (by rw [ex166]; rfl) (by decide) (by first | rfl | simp [va_re_cat, Value.category]) ?_
                                    clear hl
                                    intro ls hl
                                    refine lv_goto (tgt := 23) B.1 B.2.1 dL_law_2058 (by decide) ?_
                                    exact ih x166 h159 (cells + 1) (slots + 6) _ _ _ (by omega) (by omega) hw hH (lv_sub hl [3, 4, 5, 6, 0] rfl)
                                  · replace hw := hw.2 c165
                                    refine lv_iconst (v := 0) B.1 B.2.1 dL_law_781 (by decide) ?_
                                    exact absurd (hQ _ _ hw) (by decide)
                              · replace hw := hw.2 c161
                                refine lv_iconst (v := 0) B.1 B.2.1 dL_law_764 (by decide) ?_
                                exact absurd (hQ _ _ hw) (by decide)
                            · by_cases c167 : (x3 = 11)
                              · replace hw := hw.2.2.2.2.2.2.2.2.2.2.2.1 c167
                                refine lv_tableIn (off := 747) (tgt := 786) B.1 B.2.1 dL_law_39 (by rw [c167]; decide) (by rw [c167]; decide) (by rw [c167]; rfl) (by decide) ?_
                                refine lv_aload_n B.1 B.2.1 dL_law_786 rfl (lv_at hl 1 rfl) ?_
                                refine lv_aload_n B.1 B.2.1 dL_law_787 rfl (lv_at hl 0 rfl) ?_
                                refine lv_iload B.1 B.2.1 dL_law_788 (lv_at hl 4 rfl) ?_
                                refine lv_iconst (v := 1) B.1 B.2.1 dL_law_790 (by decide) ?_
                                refine lv_iadd B.1 B.2.1 dL_law_791 ?_
                                have q168 := hw.1
                                replace hw := hw.2
                                refine va_sld B.1 B.2.1 hX hbl hbA hH.2 q168 dL_law_792 ?_
                                refine lv_aload_n B.1 B.2.1 dL_law_793 rfl (lv_at hl 3 rfl) ?_
                                refine w_call (own := RL) (As := [.ref (zA Z b1), .int (xs (b4 + 1).toNatClampNeg), .ref (zA Z b3)]) (rest := []) B hH hB (cy_L_reel B.2.2.2.2.1) (ct_L_reel B.2.2.2.2.2.2.2 l hB.2.2.2 hN b1 (xs (b4 + 1).toNatClampNeg) b3 h _ _ (kb1) (kb3) hw) ⟨⟨rfl, rfl⟩, Nat.le_of_ble_eq_true rfl, Nat.le_of_ble_eq_true rfl, (by show cells + 1 ≤ 601024; omega), (by show slots + 6 ≤ 7293034; omega)⟩ (tv_729 B.2.2.2.2.1) rfl hl.1 rfl (Nat.le_of_ble_eq_true rfl) dL_law_794 ?_
                                clear hw hH
                                intro r170 h169 H locs hw hH
                                refine lv_istore (lv' := [(5, .int r170), (0, .ref b), (1, .ref (zA Z b1)), (2, .ref (zA Z b2)), (3, .ref (zA Z b3)), (4, .int b4)]) B.1 B.2.1 dL_law_797 hl (by decide) (by first | rfl | simp [va_re_cat, Value.category]) ?_
                                clear hl
                                intro ls hl
                                refine lv_aload_n B.1 B.2.1 dL_law_799 rfl (lv_at hl 3 rfl) ?_
                                refine lv_aload_n B.1 B.2.1 dL_law_800 rfl (lv_at hl 1 rfl) ?_
                                refine lv_iload B.1 B.2.1 dL_law_801 (lv_at hl 5 rfl) ?_
                                refine lv_iconst (v := 1) B.1 B.2.1 dL_law_803 (by decide) ?_
                                refine lv_iadd B.1 B.2.1 dL_law_804 ?_
                                have q171 := hw.1
                                replace hw := hw.2
                                refine va_sld B.1 B.2.1 hX hbl hbA hH.2 q171 dL_law_805 ?_
                                refine c_V_I (own := RL) (As := [.int (xs (b4 + 1).toNatClampNeg)]) (rest := []) B hH (cy_X8_reel B.2.2.2.2.1) (ct_X8_reel B.2.2.2.2.2.2.2 l b2 (xs (b4 + 1).toNatClampNeg) h169 _ _ (kb2) hw) ⟨⟨rfl, rfl⟩, Nat.le_of_ble_eq_true rfl, Nat.le_of_ble_eq_true rfl, (by show cells + 1 ≤ 601024; omega), (by show slots + 6 ≤ 7293034; omega)⟩ (rv_8 B hH (kb2)) (tv_1192 B.2.2.2.2.1) rfl hl.1 rfl (Nat.le_of_ble_eq_true rfl) dL_law_806 ?_
                                clear hw hH
                                intro r173 h172 H locs hw hH
                                refine lv_istore (lv' := [(6, .int r173), (5, .int r170), (0, .ref b), (1, .ref (zA Z b1)), (2, .ref (zA Z b2)), (3, .ref (zA Z b3)), (4, .int b4)]) B.1 B.2.1 dL_law_809 hl (by decide) (by first | rfl | simp [va_re_cat, Value.category]) ?_
                                clear hl
                                intro ls hl
                                refine lv_aload_n B.1 B.2.1 dL_law_811 rfl (lv_at hl 4 rfl) ?_
                                refine c_V_I (own := RL) (As := []) (rest := []) B hH (cy_X8_thrown B.2.2.2.2.1) (ct_X8_thrown B.2.2.2.2.2.2.2 l b2 h172 _ _ (kb2) hw) ⟨⟨rfl, rfl⟩, Nat.le_of_ble_eq_true rfl, Nat.le_of_ble_eq_true rfl, (by show cells + 1 ≤ 601024; omega), (by show slots + 6 ≤ 7293034; omega)⟩ (rv_8 B hH (kb2)) (tv_1001 B.2.2.2.2.1) rfl hl.1 rfl (Nat.le_of_ble_eq_true rfl) dL_law_812 ?_
                                clear hw hH
                                intro r175 h174 H locs hw hH
                                refine lv_iload B.1 B.2.1 dL_law_815 (lv_at hl 1 rfl) ?_
                                refine lv_icmp_eq (tgt := 822) B.1 B.2.1 dL_law_817 (by decide) (fun c176 => ?_) (fun c176 => ?_)
                                · replace hw := hw.1 c176
                                  refine lv_iload B.1 B.2.1 dL_law_822 (lv_at hl 1 rfl) ?_
                                  refine lv_if_ne (tgt := 839) B.1 B.2.1 dL_law_824 (by decide) (fun c177 => ?_) (fun c177 => ?_)
                                  · replace hw := hw.1 c177
                                    refine lv_goto (tgt := 2055) B.1 B.2.1 dL_law_839 (by decide) ?_
                                    obtain ⟨x178, ex178⟩ : ∃ y : Int32, y = b4 + 5 := ⟨_, rfl⟩
                                    replace hw := hw x178 ex178
                                    refine lv_iinc (v := x178) (lv' := [(4, .int x178), (6, .int r173), (5, .int r170), (0, .ref b), (1, .ref (zA Z b1)), (2, .ref (zA Z b2)), (3, .ref (zA Z b3))]) B.1 B.2.1 dL_law_2055 hl (k := 6) rfl (by rw [ex178]; rfl) (by decide) (by first | rfl | simp [va_re_cat, Value.category]) ?_
                                    clear hl
                                    intro ls hl
                                    refine lv_goto (tgt := 23) B.1 B.2.1 dL_law_2058 (by decide) ?_
                                    exact ih x178 h174 (cells + 1) (slots + 6) _ _ _ (by omega) (by omega) hw hH (lv_sub hl [3, 4, 5, 6, 0] rfl)
                                  · replace hw := hw.2 c177
                                    refine lv_aload_n B.1 B.2.1 dL_law_827 rfl (lv_at hl 5 rfl) ?_
                                    refine lv_iconst (v := 0) B.1 B.2.1 dL_law_828 (by decide) ?_
                                    have q179 := hw.1
                                    replace hw := hw.2
                                    refine r_lald B hN hH (kb3) q179 dL_law_829 ?_
                                    refine lv_iload B.1 B.2.1 dL_law_830 (lv_at hl 0 rfl) ?_
                                    refine lv_i2l B.1 B.2.1 dL_law_832 rfl ?_
                                    refine W.lcmp B.1 B.2.1 dL_law_833 ?_
                                    refine lv_if_eq (tgt := 839) B.1 B.2.1 dL_law_834 (by decide) (fun c180 => ?_) (fun c180 => ?_)
                                    · replace hw := hw.1 c180
                                      refine lv_goto (tgt := 2055) B.1 B.2.1 dL_law_839 (by decide) ?_
                                      obtain ⟨x181, ex181⟩ : ∃ y : Int32, y = b4 + 5 := ⟨_, rfl⟩
                                      replace hw := hw x181 ex181
                                      refine lv_iinc (v := x181) (lv' := [(4, .int x181), (6, .int r173), (5, .int r170), (0, .ref b), (1, .ref (zA Z b1)), (2, .ref (zA Z b2)), (3, .ref (zA Z b3))]) B.1 B.2.1 dL_law_2055 hl (k := 6) rfl (by rw [ex181]; rfl) (by decide) (by first | rfl | simp [va_re_cat, Value.category]) ?_
                                      clear hl
                                      intro ls hl
                                      refine lv_goto (tgt := 23) B.1 B.2.1 dL_law_2058 (by decide) ?_
                                      exact ih x181 h174 (cells + 1) (slots + 6) _ _ _ (by omega) (by omega) hw hH (lv_sub hl [3, 4, 5, 6, 0] rfl)
                                    · replace hw := hw.2 c180
                                      refine lv_iconst (v := 0) B.1 B.2.1 dL_law_837 (by decide) ?_
                                      exact absurd (hQ _ _ hw) (by decide)
                                · replace hw := hw.2 c176
                                  refine lv_iconst (v := 0) B.1 B.2.1 dL_law_820 (by decide) ?_
                                  exact absurd (hQ _ _ hw) (by decide)
                              · by_cases c182 : (x3 = 12)
                                · replace hw := hw.2.2.2.2.2.2.2.2.2.2.2.2.1 c182
                                  refine lv_tableIn (off := 803) (tgt := 842) B.1 B.2.1 dL_law_39 (by rw [c182]; decide) (by rw [c182]; decide) (by rw [c182]; rfl) (by decide) ?_
                                  refine lv_aload_n B.1 B.2.1 dL_law_842 rfl (lv_at hl 1 rfl) ?_
                                  refine lv_aload_n B.1 B.2.1 dL_law_843 rfl (lv_at hl 0 rfl) ?_
                                  refine lv_iload B.1 B.2.1 dL_law_844 (lv_at hl 4 rfl) ?_
                                  refine lv_iconst (v := 1) B.1 B.2.1 dL_law_846 (by decide) ?_
                                  refine lv_iadd B.1 B.2.1 dL_law_847 ?_
                                  have q183 := hw.1
                                  replace hw := hw.2
                                  refine va_sld B.1 B.2.1 hX hbl hbA hH.2 q183 dL_law_848 ?_
                                  refine lv_aload_n B.1 B.2.1 dL_law_849 rfl (lv_at hl 0 rfl) ?_
                                  refine lv_iload B.1 B.2.1 dL_law_850 (lv_at hl 4 rfl) ?_
                                  refine lv_iconst (v := 2) B.1 B.2.1 dL_law_852 (by decide) ?_
                                  refine lv_iadd B.1 B.2.1 dL_law_853 ?_
                                  have q184 := hw.1
                                  replace hw := hw.2
                                  refine va_sld B.1 B.2.1 hX hbl hbA hH.2 q184 dL_law_854 ?_
                                  refine lv_aload_n B.1 B.2.1 dL_law_855 rfl (lv_at hl 0 rfl) ?_
                                  refine lv_iload B.1 B.2.1 dL_law_856 (lv_at hl 4 rfl) ?_
                                  refine lv_iconst (v := 3) B.1 B.2.1 dL_law_858 (by decide) ?_
                                  refine lv_iadd B.1 B.2.1 dL_law_859 ?_
                                  have q185 := hw.1
                                  replace hw := hw.2
                                  refine va_sld B.1 B.2.1 hX hbl hbA hH.2 q185 dL_law_860 ?_
                                  refine lv_aload_n B.1 B.2.1 dL_law_861 rfl (lv_at hl 0 rfl) ?_
                                  refine lv_iload B.1 B.2.1 dL_law_862 (lv_at hl 4 rfl) ?_
                                  refine lv_iconst (v := 4) B.1 B.2.1 dL_law_864 (by decide) ?_
                                  refine lv_iadd B.1 B.2.1 dL_law_865 ?_
                                  have q186 := hw.1
                                  replace hw := hw.2
                                  refine va_sld B.1 B.2.1 hX hbl hbA hH.2 q186 dL_law_866 ?_
                                  refine lv_aload_n B.1 B.2.1 dL_law_867 rfl (lv_at hl 3 rfl) ?_
                                  refine w_call (own := RL) (As := [.ref (zA Z b1), .int (xs (b4 + 1).toNatClampNeg), .int (xs (b4 + 2).toNatClampNeg), .int (xs (b4 + 3).toNatClampNeg), .int (xs (b4 + 4).toNatClampNeg), .ref (zA Z b3)]) (rest := []) B hH hB (cy_L_paint B.2.2.2.2.1) (ct_L_paint B.2.2.2.2.2.2.2 l hB.2.2.2 hN b1 (xs (b4 + 1).toNatClampNeg) (xs (b4 + 2).toNatClampNeg) (xs (b4 + 3).toNatClampNeg) (xs (b4 + 4).toNatClampNeg) b3 h _ _ (kb1) (kb3) hw) ⟨⟨rfl, rfl⟩, Nat.le_of_ble_eq_true rfl, Nat.le_of_ble_eq_true rfl, (by show cells + 1 ≤ 601024; omega), (by show slots + 6 ≤ 7293034; omega)⟩ (tv_779 B.2.2.2.2.1) rfl hl.1 rfl (Nat.le_of_ble_eq_true rfl) dL_law_868 ?_
                                  clear hw hH
                                  intro r188 h187 H locs hw hH
                                  refine lv_istore (lv' := [(5, .int r188), (0, .ref b), (1, .ref (zA Z b1)), (2, .ref (zA Z b2)), (3, .ref (zA Z b3)), (4, .int b4)]) B.1 B.2.1 dL_law_871 hl (by decide) (by first | rfl | simp [va_re_cat, Value.category]) ?_
                                  clear hl
                                  intro ls hl
                                  refine lv_aload_n B.1 B.2.1 dL_law_873 rfl (lv_at hl 3 rfl) ?_
                                  refine lv_aload_n B.1 B.2.1 dL_law_874 rfl (lv_at hl 1 rfl) ?_
                                  refine lv_iload B.1 B.2.1 dL_law_875 (lv_at hl 5 rfl) ?_
                                  refine lv_iconst (v := 1) B.1 B.2.1 dL_law_877 (by decide) ?_
                                  refine lv_iadd B.1 B.2.1 dL_law_878 ?_
                                  have q189 := hw.1
                                  replace hw := hw.2
                                  refine va_sld B.1 B.2.1 hX hbl hbA hH.2 q189 dL_law_879 ?_
                                  refine lv_aload_n B.1 B.2.1 dL_law_880 rfl (lv_at hl 1 rfl) ?_
                                  refine lv_iload B.1 B.2.1 dL_law_881 (lv_at hl 5 rfl) ?_
                                  refine lv_iconst (v := 2) B.1 B.2.1 dL_law_883 (by decide) ?_
                                  refine lv_iadd B.1 B.2.1 dL_law_884 ?_
                                  have q190 := hw.1
                                  replace hw := hw.2
                                  refine va_sld B.1 B.2.1 hX hbl hbA hH.2 q190 dL_law_885 ?_
                                  refine lv_aload_n B.1 B.2.1 dL_law_886 rfl (lv_at hl 1 rfl) ?_
                                  refine lv_iload B.1 B.2.1 dL_law_887 (lv_at hl 5 rfl) ?_
                                  refine lv_iconst (v := 3) B.1 B.2.1 dL_law_889 (by decide) ?_
                                  refine lv_iadd B.1 B.2.1 dL_law_890 ?_
                                  have q191 := hw.1
                                  replace hw := hw.2
                                  refine va_sld B.1 B.2.1 hX hbl hbA hH.2 q191 dL_law_891 ?_
                                  refine lv_aload_n B.1 B.2.1 dL_law_892 rfl (lv_at hl 1 rfl) ?_
                                  refine lv_iload B.1 B.2.1 dL_law_893 (lv_at hl 5 rfl) ?_
                                  refine lv_iconst (v := 4) B.1 B.2.1 dL_law_895 (by decide) ?_
                                  refine lv_iadd B.1 B.2.1 dL_law_896 ?_
                                  have q192 := hw.1
                                  replace hw := hw.2
                                  refine va_sld B.1 B.2.1 hX hbl hbA hH.2 q192 dL_law_897 ?_
                                  refine c_V_I (own := RL) (As := [.int (xs (b4 + 1).toNatClampNeg), .int (xs (b4 + 2).toNatClampNeg), .int (xs (b4 + 3).toNatClampNeg), .int (xs (b4 + 4).toNatClampNeg)]) (rest := []) B hH (cy_X8_paint B.2.2.2.2.1) (ct_X8_paint B.2.2.2.2.2.2.2 l b2 (xs (b4 + 1).toNatClampNeg) (xs (b4 + 2).toNatClampNeg) (xs (b4 + 3).toNatClampNeg) (xs (b4 + 4).toNatClampNeg) h187 _ _ (kb2) hw) ⟨⟨rfl, rfl⟩, Nat.le_of_ble_eq_true rfl, Nat.le_of_ble_eq_true rfl, (by show cells + 1 ≤ 601024; omega), (by show slots + 6 ≤ 7293034; omega)⟩ (rv_8 B hH (kb2)) (tv_1201 B.2.2.2.2.1) rfl hl.1 rfl (Nat.le_of_ble_eq_true rfl) dL_law_898 ?_
                                  clear hw hH
                                  intro r194 h193 H locs hw hH
                                  refine lv_istore (lv' := [(6, .int r194), (5, .int r188), (0, .ref b), (1, .ref (zA Z b1)), (2, .ref (zA Z b2)), (3, .ref (zA Z b3)), (4, .int b4)]) B.1 B.2.1 dL_law_901 hl (by decide) (by first | rfl | simp [va_re_cat, Value.category]) ?_
                                  clear hl
                                  intro ls hl
                                  refine lv_aload_n B.1 B.2.1 dL_law_903 rfl (lv_at hl 4 rfl) ?_
                                  refine c_V_I (own := RL) (As := []) (rest := []) B hH (cy_X8_thrown B.2.2.2.2.1) (ct_X8_thrown B.2.2.2.2.2.2.2 l b2 h193 _ _ (kb2) hw) ⟨⟨rfl, rfl⟩, Nat.le_of_ble_eq_true rfl, Nat.le_of_ble_eq_true rfl, (by show cells + 1 ≤ 601024; omega), (by show slots + 6 ≤ 7293034; omega)⟩ (rv_8 B hH (kb2)) (tv_1001 B.2.2.2.2.1) rfl hl.1 rfl (Nat.le_of_ble_eq_true rfl) dL_law_904 ?_
                                  clear hw hH
                                  intro r196 h195 H locs hw hH
                                  refine lv_iload B.1 B.2.1 dL_law_907 (lv_at hl 1 rfl) ?_
                                  refine lv_icmp_eq (tgt := 914) B.1 B.2.1 dL_law_909 (by decide) (fun c197 => ?_) (fun c197 => ?_)
                                  · replace hw := hw.1 c197
                                    refine lv_iload B.1 B.2.1 dL_law_914 (lv_at hl 1 rfl) ?_
                                    refine lv_if_ne (tgt := 931) B.1 B.2.1 dL_law_916 (by decide) (fun c198 => ?_) (fun c198 => ?_)
                                    · replace hw := hw.1 c198
                                      refine lv_goto (tgt := 2055) B.1 B.2.1 dL_law_931 (by decide) ?_
                                      obtain ⟨x199, ex199⟩ : ∃ y : Int32, y = b4 + 5 := ⟨_, rfl⟩
                                      replace hw := hw x199 ex199
                                      refine lv_iinc (v := x199) (lv' := [(4, .int x199), (6, .int r194), (5, .int r188), (0, .ref b), (1, .ref (zA Z b1)), (2, .ref (zA Z b2)), (3, .ref (zA Z b3))]) B.1 B.2.1 dL_law_2055 hl (k := 6) rfl (by rw [ex199]; rfl) (by decide) (by first | rfl | simp [va_re_cat, Value.category]) ?_
                                      clear hl
                                      intro ls hl
                                      refine lv_goto (tgt := 23) B.1 B.2.1 dL_law_2058 (by decide) ?_
                                      exact ih x199 h195 (cells + 1) (slots + 6) _ _ _ (by omega) (by omega) hw hH (lv_sub hl [3, 4, 5, 6, 0] rfl)
                                    · replace hw := hw.2 c198
                                      refine lv_aload_n B.1 B.2.1 dL_law_919 rfl (lv_at hl 5 rfl) ?_
                                      refine lv_iconst (v := 0) B.1 B.2.1 dL_law_920 (by decide) ?_
                                      have q200 := hw.1
                                      replace hw := hw.2
                                      refine r_lald B hN hH (kb3) q200 dL_law_921 ?_
                                      refine lv_iload B.1 B.2.1 dL_law_922 (lv_at hl 0 rfl) ?_
                                      refine lv_i2l B.1 B.2.1 dL_law_924 rfl ?_
                                      refine W.lcmp B.1 B.2.1 dL_law_925 ?_
                                      refine lv_if_eq (tgt := 931) B.1 B.2.1 dL_law_926 (by decide) (fun c201 => ?_) (fun c201 => ?_)
                                      · replace hw := hw.1 c201
                                        refine lv_goto (tgt := 2055) B.1 B.2.1 dL_law_931 (by decide) ?_
                                        obtain ⟨x202, ex202⟩ : ∃ y : Int32, y = b4 + 5 := ⟨_, rfl⟩
                                        replace hw := hw x202 ex202
                                        refine lv_iinc (v := x202) (lv' := [(4, .int x202), (6, .int r194), (5, .int r188), (0, .ref b), (1, .ref (zA Z b1)), (2, .ref (zA Z b2)), (3, .ref (zA Z b3))]) B.1 B.2.1 dL_law_2055 hl (k := 6) rfl (by rw [ex202]; rfl) (by decide) (by first | rfl | simp [va_re_cat, Value.category]) ?_
                                        clear hl
                                        intro ls hl
                                        refine lv_goto (tgt := 23) B.1 B.2.1 dL_law_2058 (by decide) ?_
                                        exact ih x202 h195 (cells + 1) (slots + 6) _ _ _ (by omega) (by omega) hw hH (lv_sub hl [3, 4, 5, 6, 0] rfl)
                                      · replace hw := hw.2 c201
                                        refine lv_iconst (v := 0) B.1 B.2.1 dL_law_929 (by decide) ?_
                                        exact absurd (hQ _ _ hw) (by decide)
                                  · replace hw := hw.2 c197
                                    refine lv_iconst (v := 0) B.1 B.2.1 dL_law_912 (by decide) ?_
                                    exact absurd (hQ _ _ hw) (by decide)
                                · by_cases c203 : (x3 = 13)
                                  · replace hw := hw.2.2.2.2.2.2.2.2.2.2.2.2.2.1 c203
                                    refine lv_tableIn (off := 895) (tgt := 934) B.1 B.2.1 dL_law_39 (by rw [c203]; decide) (by rw [c203]; decide) (by rw [c203]; rfl) (by decide) ?_
                                    refine lv_aload_n B.1 B.2.1 dL_law_934 rfl (lv_at hl 1 rfl) ?_
                                    refine lv_aload_n B.1 B.2.1 dL_law_935 rfl (lv_at hl 3 rfl) ?_
                                    refine w_call (own := RL) (As := [.ref (zA Z b1), .ref (zA Z b3)]) (rest := []) B hH hB (cy_L_loop B.2.2.2.2.1) (ct_L_loop B.2.2.2.2.2.2.2 l hB.2.2.2 hN b1 b3 h _ _ (kb1) (kb3) hw) ⟨⟨rfl, rfl⟩, Nat.le_of_ble_eq_true rfl, Nat.le_of_ble_eq_true rfl, (by show cells + 1 ≤ 601024; omega), (by show slots + 6 ≤ 7293034; omega)⟩ (tv_786 B.2.2.2.2.1) rfl hl.1 rfl (Nat.le_of_ble_eq_true rfl) dL_law_936 ?_
                                    clear hw hH
                                    intro r205 h204 H locs hw hH
                                    refine lv_istore (lv' := [(5, .int r205), (0, .ref b), (1, .ref (zA Z b1)), (2, .ref (zA Z b2)), (3, .ref (zA Z b3)), (4, .int b4)]) B.1 B.2.1 dL_law_939 hl (by decide) (by first | rfl | simp [va_re_cat, Value.category]) ?_
                                    clear hl
                                    intro ls hl
                                    refine lv_aload_n B.1 B.2.1 dL_law_941 rfl (lv_at hl 3 rfl) ?_
                                    refine c_V_I (own := RL) (As := []) (rest := []) B hH (cy_X8_loop B.2.2.2.2.1) (ct_X8_loop B.2.2.2.2.2.2.2 l b2 h204 _ _ (kb2) hw) ⟨⟨rfl, rfl⟩, Nat.le_of_ble_eq_true rfl, Nat.le_of_ble_eq_true rfl, (by show cells + 1 ≤ 601024; omega), (by show slots + 6 ≤ 7293034; omega)⟩ (rv_8 B hH (kb2)) (tv_1205 B.2.2.2.2.1) rfl hl.1 rfl (Nat.le_of_ble_eq_true rfl) dL_law_942 ?_
                                    clear hw hH
                                    intro r207 h206 H locs hw hH
                                    refine lv_istore (lv' := [(6, .int r207), (5, .int r205), (0, .ref b), (1, .ref (zA Z b1)), (2, .ref (zA Z b2)), (3, .ref (zA Z b3)), (4, .int b4)]) B.1 B.2.1 dL_law_945 hl (by decide) (by first | rfl | simp [va_re_cat, Value.category]) ?_
                                    clear hl
                                    intro ls hl
                                    refine lv_aload_n B.1 B.2.1 dL_law_947 rfl (lv_at hl 4 rfl) ?_
                                    refine c_V_I (own := RL) (As := []) (rest := []) B hH (cy_X8_thrown B.2.2.2.2.1) (ct_X8_thrown B.2.2.2.2.2.2.2 l b2 h206 _ _ (kb2) hw) ⟨⟨rfl, rfl⟩, Nat.le_of_ble_eq_true rfl, Nat.le_of_ble_eq_true rfl, (by show cells + 1 ≤ 601024; omega), (by show slots + 6 ≤ 7293034; omega)⟩ (rv_8 B hH (kb2)) (tv_1001 B.2.2.2.2.1) rfl hl.1 rfl (Nat.le_of_ble_eq_true rfl) dL_law_948 ?_
                                    clear hw hH
                                    intro r209 h208 H locs hw hH
                                    refine lv_iload B.1 B.2.1 dL_law_951 (lv_at hl 1 rfl) ?_
                                    refine lv_icmp_eq (tgt := 958) B.1 B.2.1 dL_law_953 (by decide) (fun c210 => ?_) (fun c210 => ?_)
                                    · replace hw := hw.1 c210
                                      refine lv_iload B.1 B.2.1 dL_law_958 (lv_at hl 1 rfl) ?_
                                      refine lv_if_ne (tgt := 975) B.1 B.2.1 dL_law_960 (by decide) (fun c211 => ?_) (fun c211 => ?_)
                                      · replace hw := hw.1 c211
                                        refine lv_goto (tgt := 2055) B.1 B.2.1 dL_law_975 (by decide) ?_
                                        obtain ⟨x212, ex212⟩ : ∃ y : Int32, y = b4 + 5 := ⟨_, rfl⟩
                                        replace hw := hw x212 ex212
                                        refine lv_iinc (v := x212) (lv' := [(4, .int x212), (6, .int r207), (5, .int r205), (0, .ref b), (1, .ref (zA Z b1)), (2, .ref (zA Z b2)), (3, .ref (zA Z b3))]) B.1 B.2.1 dL_law_2055 hl (k := 6) rfl (by rw [ex212]; rfl) (by decide) (by first | rfl | simp [va_re_cat, Value.category]) ?_
                                        clear hl
                                        intro ls hl
                                        refine lv_goto (tgt := 23) B.1 B.2.1 dL_law_2058 (by decide) ?_
                                        exact ih x212 h208 (cells + 1) (slots + 6) _ _ _ (by omega) (by omega) hw hH (lv_sub hl [3, 4, 5, 6, 0] rfl)
                                      · replace hw := hw.2 c211
                                        refine lv_aload_n B.1 B.2.1 dL_law_963 rfl (lv_at hl 5 rfl) ?_
                                        refine lv_iconst (v := 0) B.1 B.2.1 dL_law_964 (by decide) ?_
                                        have q213 := hw.1
                                        replace hw := hw.2
                                        refine r_lald B hN hH (kb3) q213 dL_law_965 ?_
                                        refine lv_iload B.1 B.2.1 dL_law_966 (lv_at hl 0 rfl) ?_
                                        refine lv_i2l B.1 B.2.1 dL_law_968 rfl ?_
                                        refine W.lcmp B.1 B.2.1 dL_law_969 ?_
                                        refine lv_if_eq (tgt := 975) B.1 B.2.1 dL_law_970 (by decide) (fun c214 => ?_) (fun c214 => ?_)
                                        · replace hw := hw.1 c214
                                          refine lv_goto (tgt := 2055) B.1 B.2.1 dL_law_975 (by decide) ?_
                                          obtain ⟨x215, ex215⟩ : ∃ y : Int32, y = b4 + 5 := ⟨_, rfl⟩
                                          replace hw := hw x215 ex215
                                          refine lv_iinc (v := x215) (lv' := [(4, .int x215), (6, .int r207), (5, .int r205), (0, .ref b), (1, .ref (zA Z b1)), (2, .ref (zA Z b2)), (3, .ref (zA Z b3))]) B.1 B.2.1 dL_law_2055 hl (k := 6) rfl (by rw [ex215]; rfl) (by decide) (by first | rfl | simp [va_re_cat, Value.category]) ?_
                                          clear hl
                                          intro ls hl
                                          refine lv_goto (tgt := 23) B.1 B.2.1 dL_law_2058 (by decide) ?_
                                          exact ih x215 h208 (cells + 1) (slots + 6) _ _ _ (by omega) (by omega) hw hH (lv_sub hl [3, 4, 5, 6, 0] rfl)
                                        · replace hw := hw.2 c214
                                          refine lv_iconst (v := 0) B.1 B.2.1 dL_law_973 (by decide) ?_
                                          exact absurd (hQ _ _ hw) (by decide)
                                    · replace hw := hw.2 c210
                                      refine lv_iconst (v := 0) B.1 B.2.1 dL_law_956 (by decide) ?_
                                      exact absurd (hQ _ _ hw) (by decide)
                                  · by_cases c216 : (x3 = 14)
                                    · replace hw := hw.2.2.2.2.2.2.2.2.2.2.2.2.2.2.1 c216
                                      refine lv_tableIn (off := 939) (tgt := 978) B.1 B.2.1 dL_law_39 (by rw [c216]; decide) (by rw [c216]; decide) (by rw [c216]; rfl) (by decide) ?_
                                      refine lv_aload_n B.1 B.2.1 dL_law_978 rfl (lv_at hl 1 rfl) ?_
                                      refine lv_aload_n B.1 B.2.1 dL_law_979 rfl (lv_at hl 0 rfl) ?_
                                      refine lv_iload B.1 B.2.1 dL_law_980 (lv_at hl 4 rfl) ?_
                                      refine lv_iconst (v := 1) B.1 B.2.1 dL_law_982 (by decide) ?_
                                      refine lv_iadd B.1 B.2.1 dL_law_983 ?_
                                      have q217 := hw.1
                                      replace hw := hw.2
                                      refine va_sld B.1 B.2.1 hX hbl hbA hH.2 q217 dL_law_984 ?_
                                      refine lv_aload_n B.1 B.2.1 dL_law_985 rfl (lv_at hl 0 rfl) ?_
                                      refine lv_iload B.1 B.2.1 dL_law_986 (lv_at hl 4 rfl) ?_
                                      refine lv_iconst (v := 2) B.1 B.2.1 dL_law_988 (by decide) ?_
                                      refine lv_iadd B.1 B.2.1 dL_law_989 ?_
                                      have q218 := hw.1
                                      replace hw := hw.2
                                      refine va_sld B.1 B.2.1 hX hbl hbA hH.2 q218 dL_law_990 ?_
                                      refine lv_aload_n B.1 B.2.1 dL_law_991 rfl (lv_at hl 0 rfl) ?_
                                      refine lv_iload B.1 B.2.1 dL_law_992 (lv_at hl 4 rfl) ?_
                                      refine lv_iconst (v := 3) B.1 B.2.1 dL_law_994 (by decide) ?_
                                      refine lv_iadd B.1 B.2.1 dL_law_995 ?_
                                      have q219 := hw.1
                                      replace hw := hw.2
                                      refine va_sld B.1 B.2.1 hX hbl hbA hH.2 q219 dL_law_996 ?_
                                      refine lv_aload_n B.1 B.2.1 dL_law_997 rfl (lv_at hl 0 rfl) ?_
                                      refine lv_iload B.1 B.2.1 dL_law_998 (lv_at hl 4 rfl) ?_
                                      refine lv_iconst (v := 4) B.1 B.2.1 dL_law_1000 (by decide) ?_
                                      refine lv_iadd B.1 B.2.1 dL_law_1001 ?_
                                      have q220 := hw.1
                                      replace hw := hw.2
                                      refine va_sld B.1 B.2.1 hX hbl hbA hH.2 q220 dL_law_1002 ?_
                                      refine lv_aload_n B.1 B.2.1 dL_law_1003 rfl (lv_at hl 3 rfl) ?_
                                      refine w_call (own := RL) (As := [.ref (zA Z b1), .int (xs (b4 + 1).toNatClampNeg), .int (xs (b4 + 2).toNatClampNeg), .int (xs (b4 + 3).toNatClampNeg), .int (xs (b4 + 4).toNatClampNeg), .ref (zA Z b3)]) (rest := []) B hH hB (cy_L_splice B.2.2.2.2.1) (ct_L_splice B.2.2.2.2.2.2.2 l hB.2.2.2 hN b1 (xs (b4 + 1).toNatClampNeg) (xs (b4 + 2).toNatClampNeg) (xs (b4 + 3).toNatClampNeg) (xs (b4 + 4).toNatClampNeg) b3 h _ _ (kb1) (kb3) hw) ⟨⟨rfl, rfl⟩, Nat.le_of_ble_eq_true rfl, Nat.le_of_ble_eq_true rfl, (by show cells + 1 ≤ 601024; omega), (by show slots + 6 ≤ 7293034; omega)⟩ (tv_793 B.2.2.2.2.1) rfl hl.1 rfl (Nat.le_of_ble_eq_true rfl) dL_law_1004 ?_
                                      clear hw hH
                                      intro r222 h221 H locs hw hH
                                      refine lv_istore (lv' := [(5, .int r222), (0, .ref b), (1, .ref (zA Z b1)), (2, .ref (zA Z b2)), (3, .ref (zA Z b3)), (4, .int b4)]) B.1 B.2.1 dL_law_1007 hl (by decide) (by first | rfl | simp [va_re_cat, Value.category]) ?_
                                      clear hl
                                      intro ls hl
                                      refine lv_aload_n B.1 B.2.1 dL_law_1009 rfl (lv_at hl 3 rfl) ?_
                                      refine lv_aload_n B.1 B.2.1 dL_law_1010 rfl (lv_at hl 1 rfl) ?_
                                      refine lv_iload B.1 B.2.1 dL_law_1011 (lv_at hl 5 rfl) ?_
                                      refine lv_iconst (v := 1) B.1 B.2.1 dL_law_1013 (by decide) ?_
                                      refine lv_iadd B.1 B.2.1 dL_law_1014 ?_
                                      have q223 := hw.1
                                      replace hw := hw.2
                                      refine va_sld B.1 B.2.1 hX hbl hbA hH.2 q223 dL_law_1015 ?_
                                      refine lv_aload_n B.1 B.2.1 dL_law_1016 rfl (lv_at hl 1 rfl) ?_
                                      refine lv_iload B.1 B.2.1 dL_law_1017 (lv_at hl 5 rfl) ?_
                                      refine lv_iconst (v := 2) B.1 B.2.1 dL_law_1019 (by decide) ?_
                                      refine lv_iadd B.1 B.2.1 dL_law_1020 ?_
                                      have q224 := hw.1
                                      replace hw := hw.2
                                      refine va_sld B.1 B.2.1 hX hbl hbA hH.2 q224 dL_law_1021 ?_
                                      refine lv_aload_n B.1 B.2.1 dL_law_1022 rfl (lv_at hl 1 rfl) ?_
                                      refine lv_iload B.1 B.2.1 dL_law_1023 (lv_at hl 5 rfl) ?_
                                      refine lv_iconst (v := 3) B.1 B.2.1 dL_law_1025 (by decide) ?_
                                      refine lv_iadd B.1 B.2.1 dL_law_1026 ?_
                                      have q225 := hw.1
                                      replace hw := hw.2
                                      refine va_sld B.1 B.2.1 hX hbl hbA hH.2 q225 dL_law_1027 ?_
                                      refine lv_aload_n B.1 B.2.1 dL_law_1028 rfl (lv_at hl 1 rfl) ?_
                                      refine lv_iload B.1 B.2.1 dL_law_1029 (lv_at hl 5 rfl) ?_
                                      refine lv_iconst (v := 4) B.1 B.2.1 dL_law_1031 (by decide) ?_
                                      refine lv_iadd B.1 B.2.1 dL_law_1032 ?_
                                      have q226 := hw.1
                                      replace hw := hw.2
                                      refine va_sld B.1 B.2.1 hX hbl hbA hH.2 q226 dL_law_1033 ?_
                                      refine c_V_I (own := RL) (As := [.int (xs (b4 + 1).toNatClampNeg), .int (xs (b4 + 2).toNatClampNeg), .int (xs (b4 + 3).toNatClampNeg), .int (xs (b4 + 4).toNatClampNeg)]) (rest := []) B hH (cy_X8_splice B.2.2.2.2.1) (ct_X8_splice B.2.2.2.2.2.2.2 l b2 (xs (b4 + 1).toNatClampNeg) (xs (b4 + 2).toNatClampNeg) (xs (b4 + 3).toNatClampNeg) (xs (b4 + 4).toNatClampNeg) h221 _ _ (kb2) hw) ⟨⟨rfl, rfl⟩, Nat.le_of_ble_eq_true rfl, Nat.le_of_ble_eq_true rfl, (by show cells + 1 ≤ 601024; omega), (by show slots + 6 ≤ 7293034; omega)⟩ (rv_8 B hH (kb2)) (tv_1209 B.2.2.2.2.1) rfl hl.1 rfl (Nat.le_of_ble_eq_true rfl) dL_law_1034 ?_
                                      clear hw hH
                                      intro r228 h227 H locs hw hH
                                      refine lv_istore (lv' := [(6, .int r228), (5, .int r222), (0, .ref b), (1, .ref (zA Z b1)), (2, .ref (zA Z b2)), (3, .ref (zA Z b3)), (4, .int b4)]) B.1 B.2.1 dL_law_1037 hl (by decide) (by first | rfl | simp [va_re_cat, Value.category]) ?_
                                      clear hl
                                      intro ls hl
                                      refine lv_aload_n B.1 B.2.1 dL_law_1039 rfl (lv_at hl 4 rfl) ?_
                                      refine c_V_I (own := RL) (As := []) (rest := []) B hH (cy_X8_thrown B.2.2.2.2.1) (ct_X8_thrown B.2.2.2.2.2.2.2 l b2 h227 _ _ (kb2) hw) ⟨⟨rfl, rfl⟩, Nat.le_of_ble_eq_true rfl, Nat.le_of_ble_eq_true rfl, (by show cells + 1 ≤ 601024; omega), (by show slots + 6 ≤ 7293034; omega)⟩ (rv_8 B hH (kb2)) (tv_1001 B.2.2.2.2.1) rfl hl.1 rfl (Nat.le_of_ble_eq_true rfl) dL_law_1040 ?_
                                      clear hw hH
                                      intro r230 h229 H locs hw hH
                                      refine lv_iload B.1 B.2.1 dL_law_1043 (lv_at hl 1 rfl) ?_
                                      refine lv_icmp_eq (tgt := 1050) B.1 B.2.1 dL_law_1045 (by decide) (fun c231 => ?_) (fun c231 => ?_)
                                      · replace hw := hw.1 c231
                                        refine lv_iload B.1 B.2.1 dL_law_1050 (lv_at hl 1 rfl) ?_
                                        refine lv_if_ne (tgt := 1067) B.1 B.2.1 dL_law_1052 (by decide) (fun c232 => ?_) (fun c232 => ?_)
                                        · replace hw := hw.1 c232
                                          refine lv_goto (tgt := 2055) B.1 B.2.1 dL_law_1067 (by decide) ?_
                                          obtain ⟨x233, ex233⟩ : ∃ y : Int32, y = b4 + 5 := ⟨_, rfl⟩
                                          replace hw := hw x233 ex233
                                          refine lv_iinc (v := x233) (lv' := [(4, .int x233), (6, .int r228), (5, .int r222), (0, .ref b), (1, .ref (zA Z b1)), (2, .ref (zA Z b2)), (3, .ref (zA Z b3))]) B.1 B.2.1 dL_law_2055 hl (k := 6) rfl (by rw [ex233]; rfl) (by decide) (by first | rfl | simp [va_re_cat, Value.category]) ?_
                                          clear hl
                                          intro ls hl
                                          refine lv_goto (tgt := 23) B.1 B.2.1 dL_law_2058 (by decide) ?_
                                          exact ih x233 h229 (cells + 1) (slots + 6) _ _ _ (by omega) (by omega) hw hH (lv_sub hl [3, 4, 5, 6, 0] rfl)
                                        · replace hw := hw.2 c232
                                          refine lv_aload_n B.1 B.2.1 dL_law_1055 rfl (lv_at hl 5 rfl) ?_
                                          refine lv_iconst (v := 0) B.1 B.2.1 dL_law_1056 (by decide) ?_
                                          have q234 := hw.1
                                          replace hw := hw.2
                                          refine r_lald B hN hH (kb3) q234 dL_law_1057 ?_
                                          refine lv_iload B.1 B.2.1 dL_law_1058 (lv_at hl 0 rfl) ?_
                                          refine lv_i2l B.1 B.2.1 dL_law_1060 rfl ?_
                                          refine W.lcmp B.1 B.2.1 dL_law_1061 ?_
                                          refine lv_if_eq (tgt := 1067) B.1 B.2.1 dL_law_1062 (by decide) (fun c235 => ?_) (fun c235 => ?_)
                                          · replace hw := hw.1 c235
                                            refine lv_goto (tgt := 2055) B.1 B.2.1 dL_law_1067 (by decide) ?_
                                            obtain ⟨x236, ex236⟩ : ∃ y : Int32, y = b4 + 5 := ⟨_, rfl⟩
                                            replace hw := hw x236 ex236
                                            refine lv_iinc (v := x236) (lv' := [(4, .int x236), (6, .int r228), (5, .int r222), (0, .ref b), (1, .ref (zA Z b1)), (2, .ref (zA Z b2)), (3, .ref (zA Z b3))]) B.1 B.2.1 dL_law_2055 hl (k := 6) rfl (by rw [ex236]; rfl) (by decide) (by first | rfl | simp [va_re_cat, Value.category]) ?_
                                            clear hl
                                            intro ls hl
                                            refine lv_goto (tgt := 23) B.1 B.2.1 dL_law_2058 (by decide) ?_
                                            exact ih x236 h229 (cells + 1) (slots + 6) _ _ _ (by omega) (by omega) hw hH (lv_sub hl [3, 4, 5, 6, 0] rfl)
                                          · replace hw := hw.2 c235
                                            refine lv_iconst (v := 0) B.1 B.2.1 dL_law_1065 (by decide) ?_
                                            exact absurd (hQ _ _ hw) (by decide)
                                      · replace hw := hw.2 c231
                                        refine lv_iconst (v := 0) B.1 B.2.1 dL_law_1048 (by decide) ?_
                                        exact absurd (hQ _ _ hw) (by decide)
                                    · by_cases c237 : (x3 = 15)
                                      · replace hw := hw.2.2.2.2.2.2.2.2.2.2.2.2.2.2.2.1 c237
                                        refine lv_tableIn (off := 1031) (tgt := 1070) B.1 B.2.1 dL_law_39 (by rw [c237]; decide) (by rw [c237]; decide) (by rw [c237]; rfl) (by decide) ?_
                                        refine lv_aload_n B.1 B.2.1 dL_law_1070 rfl (lv_at hl 1 rfl) ?_
                                        refine lv_aload_n B.1 B.2.1 dL_law_1071 rfl (lv_at hl 0 rfl) ?_
                                        refine lv_iload B.1 B.2.1 dL_law_1072 (lv_at hl 4 rfl) ?_
                                        refine lv_iconst (v := 1) B.1 B.2.1 dL_law_1074 (by decide) ?_
                                        refine lv_iadd B.1 B.2.1 dL_law_1075 ?_
                                        have q238 := hw.1
                                        replace hw := hw.2
                                        refine va_sld B.1 B.2.1 hX hbl hbA hH.2 q238 dL_law_1076 ?_
                                        refine lv_aload_n B.1 B.2.1 dL_law_1077 rfl (lv_at hl 3 rfl) ?_
                                        refine w_call (own := RL) (As := [.ref (zA Z b1), .int (xs (b4 + 1).toNatClampNeg), .ref (zA Z b3)]) (rest := []) B hH hB (cy_L_unsplice B.2.2.2.2.1) (ct_L_unsplice B.2.2.2.2.2.2.2 l hB.2.2.2 hN b1 (xs (b4 + 1).toNatClampNeg) b3 h _ _ (kb1) (kb3) hw) ⟨⟨rfl, rfl⟩, Nat.le_of_ble_eq_true rfl, Nat.le_of_ble_eq_true rfl, (by show cells + 1 ≤ 601024; omega), (by show slots + 6 ≤ 7293034; omega)⟩ (tv_800 B.2.2.2.2.1) rfl hl.1 rfl (Nat.le_of_ble_eq_true rfl) dL_law_1078 ?_
                                        clear hw hH
                                        intro r240 h239 H locs hw hH
                                        refine lv_istore (lv' := [(5, .int r240), (0, .ref b), (1, .ref (zA Z b1)), (2, .ref (zA Z b2)), (3, .ref (zA Z b3)), (4, .int b4)]) B.1 B.2.1 dL_law_1081 hl (by decide) (by first | rfl | simp [va_re_cat, Value.category]) ?_
                                        clear hl
                                        intro ls hl
                                        refine lv_aload_n B.1 B.2.1 dL_law_1083 rfl (lv_at hl 3 rfl) ?_
                                        refine lv_aload_n B.1 B.2.1 dL_law_1084 rfl (lv_at hl 1 rfl) ?_
                                        refine lv_iload B.1 B.2.1 dL_law_1085 (lv_at hl 5 rfl) ?_
                                        refine lv_iconst (v := 1) B.1 B.2.1 dL_law_1087 (by decide) ?_
                                        refine lv_iadd B.1 B.2.1 dL_law_1088 ?_
                                        have q241 := hw.1
                                        replace hw := hw.2
                                        refine va_sld B.1 B.2.1 hX hbl hbA hH.2 q241 dL_law_1089 ?_
                                        refine c_V_I (own := RL) (As := [.int (xs (b4 + 1).toNatClampNeg)]) (rest := []) B hH (cy_X8_unsplice B.2.2.2.2.1) (ct_X8_unsplice B.2.2.2.2.2.2.2 l b2 (xs (b4 + 1).toNatClampNeg) h239 _ _ (kb2) hw) ⟨⟨rfl, rfl⟩, Nat.le_of_ble_eq_true rfl, Nat.le_of_ble_eq_true rfl, (by show cells + 1 ≤ 601024; omega), (by show slots + 6 ≤ 7293034; omega)⟩ (rv_8 B hH (kb2)) (tv_1213 B.2.2.2.2.1) rfl hl.1 rfl (Nat.le_of_ble_eq_true rfl) dL_law_1090 ?_
                                        clear hw hH
                                        intro r243 h242 H locs hw hH
                                        refine lv_istore (lv' := [(6, .int r243), (5, .int r240), (0, .ref b), (1, .ref (zA Z b1)), (2, .ref (zA Z b2)), (3, .ref (zA Z b3)), (4, .int b4)]) B.1 B.2.1 dL_law_1093 hl (by decide) (by first | rfl | simp [va_re_cat, Value.category]) ?_
                                        clear hl
                                        intro ls hl
                                        refine lv_aload_n B.1 B.2.1 dL_law_1095 rfl (lv_at hl 4 rfl) ?_
                                        refine c_V_I (own := RL) (As := []) (rest := []) B hH (cy_X8_thrown B.2.2.2.2.1) (ct_X8_thrown B.2.2.2.2.2.2.2 l b2 h242 _ _ (kb2) hw) ⟨⟨rfl, rfl⟩, Nat.le_of_ble_eq_true rfl, Nat.le_of_ble_eq_true rfl, (by show cells + 1 ≤ 601024; omega), (by show slots + 6 ≤ 7293034; omega)⟩ (rv_8 B hH (kb2)) (tv_1001 B.2.2.2.2.1) rfl hl.1 rfl (Nat.le_of_ble_eq_true rfl) dL_law_1096 ?_
                                        clear hw hH
                                        intro r245 h244 H locs hw hH
                                        refine lv_iload B.1 B.2.1 dL_law_1099 (lv_at hl 1 rfl) ?_
                                        refine lv_icmp_eq (tgt := 1106) B.1 B.2.1 dL_law_1101 (by decide) (fun c246 => ?_) (fun c246 => ?_)
                                        · replace hw := hw.1 c246
                                          refine lv_iload B.1 B.2.1 dL_law_1106 (lv_at hl 1 rfl) ?_
                                          refine lv_if_ne (tgt := 1123) B.1 B.2.1 dL_law_1108 (by decide) (fun c247 => ?_) (fun c247 => ?_)
                                          · replace hw := hw.1 c247
                                            refine lv_goto (tgt := 2055) B.1 B.2.1 dL_law_1123 (by decide) ?_
                                            obtain ⟨x248, ex248⟩ : ∃ y : Int32, y = b4 + 5 := ⟨_, rfl⟩
                                            replace hw := hw x248 ex248
                                            refine lv_iinc (v := x248) (lv' := [(4, .int x248), (6, .int r243), (5, .int r240), (0, .ref b), (1, .ref (zA Z b1)), (2, .ref (zA Z b2)), (3, .ref (zA Z b3))]) B.1 B.2.1 dL_law_2055 hl (k := 6) rfl (by rw [ex248]; rfl) (by decide) (by first | rfl | simp [va_re_cat, Value.category]) ?_
                                            clear hl
                                            intro ls hl
                                            refine lv_goto (tgt := 23) B.1 B.2.1 dL_law_2058 (by decide) ?_
                                            exact ih x248 h244 (cells + 1) (slots + 6) _ _ _ (by omega) (by omega) hw hH (lv_sub hl [3, 4, 5, 6, 0] rfl)
                                          · replace hw := hw.2 c247
                                            refine lv_aload_n B.1 B.2.1 dL_law_1111 rfl (lv_at hl 5 rfl) ?_
                                            refine lv_iconst (v := 0) B.1 B.2.1 dL_law_1112 (by decide) ?_
                                            have q249 := hw.1
                                            replace hw := hw.2
                                            refine r_lald B hN hH (kb3) q249 dL_law_1113 ?_
                                            refine lv_iload B.1 B.2.1 dL_law_1114 (lv_at hl 0 rfl) ?_
                                            refine lv_i2l B.1 B.2.1 dL_law_1116 rfl ?_
                                            refine W.lcmp B.1 B.2.1 dL_law_1117 ?_
                                            refine lv_if_eq (tgt := 1123) B.1 B.2.1 dL_law_1118 (by decide) (fun c250 => ?_) (fun c250 => ?_)
                                            · replace hw := hw.1 c250
                                              refine lv_goto (tgt := 2055) B.1 B.2.1 dL_law_1123 (by decide) ?_
                                              obtain ⟨x251, ex251⟩ : ∃ y : Int32, y = b4 + 5 := ⟨_, rfl⟩
                                              replace hw := hw x251 ex251
                                              refine lv_iinc (v := x251) (lv' := [(4, .int x251), (6, .int r243), (5, .int r240), (0, .ref b), (1, .ref (zA Z b1)), (2, .ref (zA Z b2)), (3, .ref (zA Z b3))]) B.1 B.2.1 dL_law_2055 hl (k := 6) rfl (by rw [ex251]; rfl) (by decide) (by first | rfl | simp [va_re_cat, Value.category]) ?_
                                              clear hl
                                              intro ls hl
                                              refine lv_goto (tgt := 23) B.1 B.2.1 dL_law_2058 (by decide) ?_
                                              exact ih x251 h244 (cells + 1) (slots + 6) _ _ _ (by omega) (by omega) hw hH (lv_sub hl [3, 4, 5, 6, 0] rfl)
                                            · replace hw := hw.2 c250
                                              refine lv_iconst (v := 0) B.1 B.2.1 dL_law_1121 (by decide) ?_
                                              exact absurd (hQ _ _ hw) (by decide)
                                        · replace hw := hw.2 c246
                                          refine lv_iconst (v := 0) B.1 B.2.1 dL_law_1104 (by decide) ?_
                                          exact absurd (hQ _ _ hw) (by decide)
                                      · by_cases c252 : (x3 = 16)
                                        · replace hw := hw.2.2.2.2.2.2.2.2.2.2.2.2.2.2.2.2.1 c252
                                          refine lv_tableIn (off := 1087) (tgt := 1126) B.1 B.2.1 dL_law_39 (by rw [c252]; decide) (by rw [c252]; decide) (by rw [c252]; rfl) (by decide) ?_
                                          refine lv_aload_n B.1 B.2.1 dL_law_1126 rfl (lv_at hl 1 rfl) ?_
                                          refine lv_aload_n B.1 B.2.1 dL_law_1127 rfl (lv_at hl 0 rfl) ?_
                                          refine lv_iload B.1 B.2.1 dL_law_1128 (lv_at hl 4 rfl) ?_
                                          refine lv_iconst (v := 1) B.1 B.2.1 dL_law_1130 (by decide) ?_
                                          refine lv_iadd B.1 B.2.1 dL_law_1131 ?_
                                          have q253 := hw.1
                                          replace hw := hw.2
                                          refine va_sld B.1 B.2.1 hX hbl hbA hH.2 q253 dL_law_1132 ?_
                                          refine lv_aload_n B.1 B.2.1 dL_law_1133 rfl (lv_at hl 0 rfl) ?_
                                          refine lv_iload B.1 B.2.1 dL_law_1134 (lv_at hl 4 rfl) ?_
                                          refine lv_iconst (v := 2) B.1 B.2.1 dL_law_1136 (by decide) ?_
                                          refine lv_iadd B.1 B.2.1 dL_law_1137 ?_
                                          have q254 := hw.1
                                          replace hw := hw.2
                                          refine va_sld B.1 B.2.1 hX hbl hbA hH.2 q254 dL_law_1138 ?_
                                          refine lv_aload_n B.1 B.2.1 dL_law_1139 rfl (lv_at hl 0 rfl) ?_
                                          refine lv_iload B.1 B.2.1 dL_law_1140 (lv_at hl 4 rfl) ?_
                                          refine lv_iconst (v := 3) B.1 B.2.1 dL_law_1142 (by decide) ?_
                                          refine lv_iadd B.1 B.2.1 dL_law_1143 ?_
                                          have q255 := hw.1
                                          replace hw := hw.2
                                          refine va_sld B.1 B.2.1 hX hbl hbA hH.2 q255 dL_law_1144 ?_
                                          refine lv_aload_n B.1 B.2.1 dL_law_1145 rfl (lv_at hl 3 rfl) ?_
                                          refine w_call (own := RL) (As := [.ref (zA Z b1), .int (xs (b4 + 1).toNatClampNeg), .int (xs (b4 + 2).toNatClampNeg), .int (xs (b4 + 3).toNatClampNeg), .ref (zA Z b3)]) (rest := []) B hH hB (cy_L_speed B.2.2.2.2.1) (ct_L_speed B.2.2.2.2.2.2.2 l hB.2.2.2 hN b1 (xs (b4 + 1).toNatClampNeg) (xs (b4 + 2).toNatClampNeg) (xs (b4 + 3).toNatClampNeg) b3 h _ _ (kb1) (kb3) hw) ⟨⟨rfl, rfl⟩, Nat.le_of_ble_eq_true rfl, Nat.le_of_ble_eq_true rfl, (by show cells + 1 ≤ 601024; omega), (by show slots + 6 ≤ 7293034; omega)⟩ (tv_807 B.2.2.2.2.1) rfl hl.1 rfl (Nat.le_of_ble_eq_true rfl) dL_law_1146 ?_
                                          clear hw hH
                                          intro r257 h256 H locs hw hH
                                          refine lv_istore (lv' := [(5, .int r257), (0, .ref b), (1, .ref (zA Z b1)), (2, .ref (zA Z b2)), (3, .ref (zA Z b3)), (4, .int b4)]) B.1 B.2.1 dL_law_1149 hl (by decide) (by first | rfl | simp [va_re_cat, Value.category]) ?_
                                          clear hl
                                          intro ls hl
                                          refine lv_aload_n B.1 B.2.1 dL_law_1151 rfl (lv_at hl 3 rfl) ?_
                                          refine lv_aload_n B.1 B.2.1 dL_law_1152 rfl (lv_at hl 1 rfl) ?_
                                          refine lv_iload B.1 B.2.1 dL_law_1153 (lv_at hl 5 rfl) ?_
                                          refine lv_iconst (v := 1) B.1 B.2.1 dL_law_1155 (by decide) ?_
                                          refine lv_iadd B.1 B.2.1 dL_law_1156 ?_
                                          have q258 := hw.1
                                          replace hw := hw.2
                                          refine va_sld B.1 B.2.1 hX hbl hbA hH.2 q258 dL_law_1157 ?_
                                          refine lv_aload_n B.1 B.2.1 dL_law_1158 rfl (lv_at hl 1 rfl) ?_
                                          refine lv_iload B.1 B.2.1 dL_law_1159 (lv_at hl 5 rfl) ?_
                                          refine lv_iconst (v := 2) B.1 B.2.1 dL_law_1161 (by decide) ?_
                                          refine lv_iadd B.1 B.2.1 dL_law_1162 ?_
                                          have q259 := hw.1
                                          replace hw := hw.2
                                          refine va_sld B.1 B.2.1 hX hbl hbA hH.2 q259 dL_law_1163 ?_
                                          refine lv_aload_n B.1 B.2.1 dL_law_1164 rfl (lv_at hl 1 rfl) ?_
                                          refine lv_iload B.1 B.2.1 dL_law_1165 (lv_at hl 5 rfl) ?_
                                          refine lv_iconst (v := 3) B.1 B.2.1 dL_law_1167 (by decide) ?_
                                          refine lv_iadd B.1 B.2.1 dL_law_1168 ?_
                                          have q260 := hw.1
                                          replace hw := hw.2
                                          refine va_sld B.1 B.2.1 hX hbl hbA hH.2 q260 dL_law_1169 ?_
                                          refine c_V_I (own := RL) (As := [.int (xs (b4 + 1).toNatClampNeg), .int (xs (b4 + 2).toNatClampNeg), .int (xs (b4 + 3).toNatClampNeg)]) (rest := []) B hH (cy_X8_speed B.2.2.2.2.1) (ct_X8_speed B.2.2.2.2.2.2.2 l b2 (xs (b4 + 1).toNatClampNeg) (xs (b4 + 2).toNatClampNeg) (xs (b4 + 3).toNatClampNeg) h256 _ _ (kb2) hw) ⟨⟨rfl, rfl⟩, Nat.le_of_ble_eq_true rfl, Nat.le_of_ble_eq_true rfl, (by show cells + 1 ≤ 601024; omega), (by show slots + 6 ≤ 7293034; omega)⟩ (rv_8 B hH (kb2)) (tv_1220 B.2.2.2.2.1) rfl hl.1 rfl (Nat.le_of_ble_eq_true rfl) dL_law_1170 ?_
                                          clear hw hH
                                          intro r262 h261 H locs hw hH
                                          refine lv_istore (lv' := [(6, .int r262), (5, .int r257), (0, .ref b), (1, .ref (zA Z b1)), (2, .ref (zA Z b2)), (3, .ref (zA Z b3)), (4, .int b4)]) B.1 B.2.1 dL_law_1173 hl (by decide) (by first | rfl | simp [va_re_cat, Value.category]) ?_
                                          clear hl
                                          intro ls hl
                                          refine lv_aload_n B.1 B.2.1 dL_law_1175 rfl (lv_at hl 4 rfl) ?_
                                          refine c_V_I (own := RL) (As := []) (rest := []) B hH (cy_X8_thrown B.2.2.2.2.1) (ct_X8_thrown B.2.2.2.2.2.2.2 l b2 h261 _ _ (kb2) hw) ⟨⟨rfl, rfl⟩, Nat.le_of_ble_eq_true rfl, Nat.le_of_ble_eq_true rfl, (by show cells + 1 ≤ 601024; omega), (by show slots + 6 ≤ 7293034; omega)⟩ (rv_8 B hH (kb2)) (tv_1001 B.2.2.2.2.1) rfl hl.1 rfl (Nat.le_of_ble_eq_true rfl) dL_law_1176 ?_
                                          clear hw hH
                                          intro r264 h263 H locs hw hH
                                          refine lv_iload B.1 B.2.1 dL_law_1179 (lv_at hl 1 rfl) ?_
                                          refine lv_icmp_eq (tgt := 1186) B.1 B.2.1 dL_law_1181 (by decide) (fun c265 => ?_) (fun c265 => ?_)
                                          · replace hw := hw.1 c265
                                            refine lv_iload B.1 B.2.1 dL_law_1186 (lv_at hl 1 rfl) ?_
                                            refine lv_if_ne (tgt := 1203) B.1 B.2.1 dL_law_1188 (by decide) (fun c266 => ?_) (fun c266 => ?_)
                                            · replace hw := hw.1 c266
                                              refine lv_goto (tgt := 2055) B.1 B.2.1 dL_law_1203 (by decide) ?_
                                              obtain ⟨x267, ex267⟩ : ∃ y : Int32, y = b4 + 5 := ⟨_, rfl⟩
                                              replace hw := hw x267 ex267
                                              refine lv_iinc (v := x267) (lv' := [(4, .int x267), (6, .int r262), (5, .int r257), (0, .ref b), (1, .ref (zA Z b1)), (2, .ref (zA Z b2)), (3, .ref (zA Z b3))]) B.1 B.2.1 dL_law_2055 hl (k := 6) rfl (by rw [ex267]; rfl) (by decide) (by first | rfl | simp [va_re_cat, Value.category]) ?_
                                              clear hl
                                              intro ls hl
                                              refine lv_goto (tgt := 23) B.1 B.2.1 dL_law_2058 (by decide) ?_
                                              exact ih x267 h263 (cells + 1) (slots + 6) _ _ _ (by omega) (by omega) hw hH (lv_sub hl [3, 4, 5, 6, 0] rfl)
                                            · replace hw := hw.2 c266
                                              refine lv_aload_n B.1 B.2.1 dL_law_1191 rfl (lv_at hl 5 rfl) ?_
                                              refine lv_iconst (v := 0) B.1 B.2.1 dL_law_1192 (by decide) ?_
                                              have q268 := hw.1
                                              replace hw := hw.2
                                              refine r_lald B hN hH (kb3) q268 dL_law_1193 ?_
                                              refine lv_iload B.1 B.2.1 dL_law_1194 (lv_at hl 0 rfl) ?_
                                              refine lv_i2l B.1 B.2.1 dL_law_1196 rfl ?_
                                              refine W.lcmp B.1 B.2.1 dL_law_1197 ?_
                                              refine lv_if_eq (tgt := 1203) B.1 B.2.1 dL_law_1198 (by decide) (fun c269 => ?_) (fun c269 => ?_)
                                              · replace hw := hw.1 c269
                                                refine lv_goto (tgt := 2055) B.1 B.2.1 dL_law_1203 (by decide) ?_
                                                obtain ⟨x270, ex270⟩ : ∃ y : Int32, y = b4 + 5 := ⟨_, rfl⟩
                                                replace hw := hw x270 ex270
                                                refine lv_iinc (v := x270) (lv' := [(4, .int x270), (6, .int r262), (5, .int r257), (0, .ref b), (1, .ref (zA Z b1)), (2, .ref (zA Z b2)), (3, .ref (zA Z b3))]) B.1 B.2.1 dL_law_2055 hl (k := 6) rfl (by rw [ex270]; rfl) (by decide) (by first | rfl | simp [va_re_cat, Value.category]) ?_
                                                clear hl
                                                intro ls hl
                                                refine lv_goto (tgt := 23) B.1 B.2.1 dL_law_2058 (by decide) ?_
                                                exact ih x270 h263 (cells + 1) (slots + 6) _ _ _ (by omega) (by omega) hw hH (lv_sub hl [3, 4, 5, 6, 0] rfl)
                                              · replace hw := hw.2 c269
                                                refine lv_iconst (v := 0) B.1 B.2.1 dL_law_1201 (by decide) ?_
                                                exact absurd (hQ _ _ hw) (by decide)
                                          · replace hw := hw.2 c265
                                            refine lv_iconst (v := 0) B.1 B.2.1 dL_law_1184 (by decide) ?_
                                            exact absurd (hQ _ _ hw) (by decide)
                                        · by_cases c271 : (x3 = 17)
                                          · replace hw := hw.2.2.2.2.2.2.2.2.2.2.2.2.2.2.2.2.2.1 c271
                                            refine lv_tableIn (off := 1167) (tgt := 1206) B.1 B.2.1 dL_law_39 (by rw [c271]; decide) (by rw [c271]; decide) (by rw [c271]; rfl) (by decide) ?_
                                            refine lv_aload_n B.1 B.2.1 dL_law_1206 rfl (lv_at hl 1 rfl) ?_
                                            refine lv_aload_n B.1 B.2.1 dL_law_1207 rfl (lv_at hl 0 rfl) ?_
                                            refine lv_iload B.1 B.2.1 dL_law_1208 (lv_at hl 4 rfl) ?_
                                            refine lv_iconst (v := 1) B.1 B.2.1 dL_law_1210 (by decide) ?_
                                            refine lv_iadd B.1 B.2.1 dL_law_1211 ?_
                                            have q272 := hw.1
                                            replace hw := hw.2
                                            refine va_sld B.1 B.2.1 hX hbl hbA hH.2 q272 dL_law_1212 ?_
                                            refine lv_aload_n B.1 B.2.1 dL_law_1213 rfl (lv_at hl 0 rfl) ?_
                                            refine lv_iload B.1 B.2.1 dL_law_1214 (lv_at hl 4 rfl) ?_
                                            refine lv_iconst (v := 2) B.1 B.2.1 dL_law_1216 (by decide) ?_
                                            refine lv_iadd B.1 B.2.1 dL_law_1217 ?_
                                            have q273 := hw.1
                                            replace hw := hw.2
                                            refine va_sld B.1 B.2.1 hX hbl hbA hH.2 q273 dL_law_1218 ?_
                                            refine lv_if_eq (tgt := 1226) B.1 B.2.1 dL_law_1219 (by decide) (fun c274 => ?_) (fun c274 => ?_)
                                            · replace hw := hw.1 c274
                                              refine lv_iconst (v := 0) B.1 B.2.1 dL_law_1226 (by decide) ?_
                                              refine lv_aload_n B.1 B.2.1 dL_law_1227 rfl (lv_at hl 3 rfl) ?_
                                              refine w_call (own := RL) (As := [.ref (zA Z b1), .int (xs (b4 + 1).toNatClampNeg), .int 0, .ref (zA Z b3)]) (rest := []) B hH hB (cy_L_mute B.2.2.2.2.1) (ct_L_mute B.2.2.2.2.2.2.2 l hB.2.2.2 hN b1 (xs (b4 + 1).toNatClampNeg) 0 b3 h _ _ (kb1) (kb3) hw) ⟨⟨rfl, rfl⟩, Nat.le_of_ble_eq_true rfl, Nat.le_of_ble_eq_true rfl, (by show cells + 1 ≤ 601024; omega), (by show slots + 6 ≤ 7293034; omega)⟩ (tv_814 B.2.2.2.2.1) rfl hl.1 rfl (Nat.le_of_ble_eq_true rfl) dL_law_1228 ?_
                                              clear hw hH
                                              intro r276 h275 H locs hw hH
                                              refine lv_istore (lv' := [(5, .int r276), (0, .ref b), (1, .ref (zA Z b1)), (2, .ref (zA Z b2)), (3, .ref (zA Z b3)), (4, .int b4)]) B.1 B.2.1 dL_law_1231 hl (by decide) (by first | rfl | simp [va_re_cat, Value.category]) ?_
                                              clear hl
                                              intro ls hl
                                              refine lv_aload_n B.1 B.2.1 dL_law_1233 rfl (lv_at hl 3 rfl) ?_
                                              refine lv_aload_n B.1 B.2.1 dL_law_1234 rfl (lv_at hl 1 rfl) ?_
                                              refine lv_iload B.1 B.2.1 dL_law_1235 (lv_at hl 5 rfl) ?_
                                              refine lv_iconst (v := 1) B.1 B.2.1 dL_law_1237 (by decide) ?_
                                              refine lv_iadd B.1 B.2.1 dL_law_1238 ?_
                                              have q277 := hw.1
                                              replace hw := hw.2
                                              refine va_sld B.1 B.2.1 hX hbl hbA hH.2 q277 dL_law_1239 ?_
                                              refine lv_aload_n B.1 B.2.1 dL_law_1240 rfl (lv_at hl 1 rfl) ?_
                                              refine lv_iload B.1 B.2.1 dL_law_1241 (lv_at hl 5 rfl) ?_
                                              refine lv_iconst (v := 2) B.1 B.2.1 dL_law_1243 (by decide) ?_
                                              refine lv_iadd B.1 B.2.1 dL_law_1244 ?_
                                              have q278 := hw.1
                                              replace hw := hw.2
                                              refine va_sld B.1 B.2.1 hX hbl hbA hH.2 q278 dL_law_1245 ?_
                                              refine lv_if_eq (tgt := 1253) B.1 B.2.1 dL_law_1246 (by decide) (fun c279 => ?_) (fun c279 => ?_)
                                              · replace hw := hw.1 c279
                                                refine lv_iconst (v := 0) B.1 B.2.1 dL_law_1253 (by decide) ?_
                                                refine c_V_I (own := RL) (As := [.int (xs (b4 + 1).toNatClampNeg), .int 0]) (rest := []) B hH (cy_X8_mute B.2.2.2.2.1) (ct_X8_mute B.2.2.2.2.2.2.2 l b2 (xs (b4 + 1).toNatClampNeg) 0 h275 _ _ (kb2) hw) ⟨⟨rfl, rfl⟩, Nat.le_of_ble_eq_true rfl, Nat.le_of_ble_eq_true rfl, (by show cells + 1 ≤ 601024; omega), (by show slots + 6 ≤ 7293034; omega)⟩ (rv_8 B hH (kb2)) (tv_1224 B.2.2.2.2.1) rfl hl.1 rfl (Nat.le_of_ble_eq_true rfl) dL_law_1254 ?_
                                                clear hw hH
                                                intro r281 h280 H locs hw hH
                                                refine lv_istore (lv' := [(6, .int r281), (5, .int r276), (0, .ref b), (1, .ref (zA Z b1)), (2, .ref (zA Z b2)), (3, .ref (zA Z b3)), (4, .int b4)]) B.1 B.2.1 dL_law_1257 hl (by decide) (by first | rfl | simp [va_re_cat, Value.category]) ?_
                                                clear hl
                                                intro ls hl
                                                refine lv_aload_n B.1 B.2.1 dL_law_1259 rfl (lv_at hl 4 rfl) ?_
                                                refine c_V_I (own := RL) (As := []) (rest := []) B hH (cy_X8_thrown B.2.2.2.2.1) (ct_X8_thrown B.2.2.2.2.2.2.2 l b2 h280 _ _ (kb2) hw) ⟨⟨rfl, rfl⟩, Nat.le_of_ble_eq_true rfl, Nat.le_of_ble_eq_true rfl, (by show cells + 1 ≤ 601024; omega), (by show slots + 6 ≤ 7293034; omega)⟩ (rv_8 B hH (kb2)) (tv_1001 B.2.2.2.2.1) rfl hl.1 rfl (Nat.le_of_ble_eq_true rfl) dL_law_1260 ?_
                                                clear hw hH
                                                intro r283 h282 H locs hw hH
                                                refine lv_iload B.1 B.2.1 dL_law_1263 (lv_at hl 1 rfl) ?_
                                                refine lv_icmp_eq (tgt := 1270) B.1 B.2.1 dL_law_1265 (by decide) (fun c284 => ?_) (fun c284 => ?_)
                                                · replace hw := hw.1 c284
                                                  refine lv_iload B.1 B.2.1 dL_law_1270 (lv_at hl 1 rfl) ?_
                                                  refine lv_if_ne (tgt := 1287) B.1 B.2.1 dL_law_1272 (by decide) (fun c285 => ?_) (fun c285 => ?_)
                                                  · replace hw := hw.1 c285
                                                    refine lv_goto (tgt := 2055) B.1 B.2.1 dL_law_1287 (by decide) ?_
                                                    obtain ⟨x286, ex286⟩ : ∃ y : Int32, y = b4 + 5 := ⟨_, rfl⟩
                                                    replace hw := hw x286 ex286
                                                    refine lv_iinc (v := x286) (lv' := [(4, .int x286), (6, .int r281), (5, .int r276), (0, .ref b), (1, .ref (zA Z b1)), (2, .ref (zA Z b2)), (3, .ref (zA Z b3))]) B.1 B.2.1 dL_law_2055 hl (k := 6) rfl (by rw [ex286]; rfl) (by decide) (by first | rfl | simp [va_re_cat, Value.category]) ?_
                                                    clear hl
                                                    intro ls hl
                                                    refine lv_goto (tgt := 23) B.1 B.2.1 dL_law_2058 (by decide) ?_
                                                    exact ih x286 h282 (cells + 1) (slots + 6) _ _ _ (by omega) (by omega) hw hH (lv_sub hl [3, 4, 5, 6, 0] rfl)
                                                  · replace hw := hw.2 c285
                                                    refine lv_aload_n B.1 B.2.1 dL_law_1275 rfl (lv_at hl 5 rfl) ?_
                                                    refine lv_iconst (v := 0) B.1 B.2.1 dL_law_1276 (by decide) ?_
                                                    have q287 := hw.1
                                                    replace hw := hw.2
                                                    refine r_lald B hN hH (kb3) q287 dL_law_1277 ?_
                                                    refine lv_iload B.1 B.2.1 dL_law_1278 (lv_at hl 0 rfl) ?_
                                                    refine lv_i2l B.1 B.2.1 dL_law_1280 rfl ?_
                                                    refine W.lcmp B.1 B.2.1 dL_law_1281 ?_
                                                    refine lv_if_eq (tgt := 1287) B.1 B.2.1 dL_law_1282 (by decide) (fun c288 => ?_) (fun c288 => ?_)
                                                    · replace hw := hw.1 c288
                                                      refine lv_goto (tgt := 2055) B.1 B.2.1 dL_law_1287 (by decide) ?_
                                                      obtain ⟨x289, ex289⟩ : ∃ y : Int32, y = b4 + 5 := ⟨_, rfl⟩
                                                      replace hw := hw x289 ex289
                                                      refine lv_iinc (v := x289) (lv' := [(4, .int x289), (6, .int r281), (5, .int r276), (0, .ref b), (1, .ref (zA Z b1)), (2, .ref (zA Z b2)), (3, .ref (zA Z b3))]) B.1 B.2.1 dL_law_2055 hl (k := 6) rfl (by rw [ex289]; rfl) (by decide) (by first | rfl | simp [va_re_cat, Value.category]) ?_
                                                      clear hl
                                                      intro ls hl
                                                      refine lv_goto (tgt := 23) B.1 B.2.1 dL_law_2058 (by decide) ?_
                                                      exact ih x289 h282 (cells + 1) (slots + 6) _ _ _ (by omega) (by omega) hw hH (lv_sub hl [3, 4, 5, 6, 0] rfl)
                                                    · replace hw := hw.2 c288
                                                      refine lv_iconst (v := 0) B.1 B.2.1 dL_law_1285 (by decide) ?_
                                                      exact absurd (hQ _ _ hw) (by decide)
                                                · replace hw := hw.2 c284
                                                  refine lv_iconst (v := 0) B.1 B.2.1 dL_law_1268 (by decide) ?_
                                                  exact absurd (hQ _ _ hw) (by decide)
                                              · replace hw := hw.2 c279
                                                refine lv_iconst (v := 1) B.1 B.2.1 dL_law_1249 (by decide) ?_
                                                refine lv_goto (tgt := 1254) B.1 B.2.1 dL_law_1250 (by decide) ?_
                                                refine c_V_I (own := RL) (As := [.int (xs (b4 + 1).toNatClampNeg), .int 1]) (rest := []) B hH (cy_X8_mute B.2.2.2.2.1) (ct_X8_mute B.2.2.2.2.2.2.2 l b2 (xs (b4 + 1).toNatClampNeg) 1 h275 _ _ (kb2) hw) ⟨⟨rfl, rfl⟩, Nat.le_of_ble_eq_true rfl, Nat.le_of_ble_eq_true rfl, (by show cells + 1 ≤ 601024; omega), (by show slots + 6 ≤ 7293034; omega)⟩ (rv_8 B hH (kb2)) (tv_1224 B.2.2.2.2.1) rfl hl.1 rfl (Nat.le_of_ble_eq_true rfl) dL_law_1254 ?_
                                                clear hw hH
                                                intro r291 h290 H locs hw hH
                                                refine lv_istore (lv' := [(6, .int r291), (5, .int r276), (0, .ref b), (1, .ref (zA Z b1)), (2, .ref (zA Z b2)), (3, .ref (zA Z b3)), (4, .int b4)]) B.1 B.2.1 dL_law_1257 hl (by decide) (by first | rfl | simp [va_re_cat, Value.category]) ?_
                                                clear hl
                                                intro ls hl
                                                refine lv_aload_n B.1 B.2.1 dL_law_1259 rfl (lv_at hl 4 rfl) ?_
                                                refine c_V_I (own := RL) (As := []) (rest := []) B hH (cy_X8_thrown B.2.2.2.2.1) (ct_X8_thrown B.2.2.2.2.2.2.2 l b2 h290 _ _ (kb2) hw) ⟨⟨rfl, rfl⟩, Nat.le_of_ble_eq_true rfl, Nat.le_of_ble_eq_true rfl, (by show cells + 1 ≤ 601024; omega), (by show slots + 6 ≤ 7293034; omega)⟩ (rv_8 B hH (kb2)) (tv_1001 B.2.2.2.2.1) rfl hl.1 rfl (Nat.le_of_ble_eq_true rfl) dL_law_1260 ?_
                                                clear hw hH
                                                intro r293 h292 H locs hw hH
                                                refine lv_iload B.1 B.2.1 dL_law_1263 (lv_at hl 1 rfl) ?_
                                                refine lv_icmp_eq (tgt := 1270) B.1 B.2.1 dL_law_1265 (by decide) (fun c294 => ?_) (fun c294 => ?_)
                                                · replace hw := hw.1 c294
                                                  refine lv_iload B.1 B.2.1 dL_law_1270 (lv_at hl 1 rfl) ?_
                                                  refine lv_if_ne (tgt := 1287) B.1 B.2.1 dL_law_1272 (by decide) (fun c295 => ?_) (fun c295 => ?_)
                                                  · replace hw := hw.1 c295
                                                    refine lv_goto (tgt := 2055) B.1 B.2.1 dL_law_1287 (by decide) ?_
                                                    obtain ⟨x296, ex296⟩ : ∃ y : Int32, y = b4 + 5 := ⟨_, rfl⟩
                                                    replace hw := hw x296 ex296
                                                    refine lv_iinc (v := x296) (lv' := [(4, .int x296), (6, .int r291), (5, .int r276), (0, .ref b), (1, .ref (zA Z b1)), (2, .ref (zA Z b2)), (3, .ref (zA Z b3))]) B.1 B.2.1 dL_law_2055 hl (k := 6) rfl (by rw [ex296]; rfl) (by decide) (by first | rfl | simp [va_re_cat, Value.category]) ?_
                                                    clear hl
                                                    intro ls hl
                                                    refine lv_goto (tgt := 23) B.1 B.2.1 dL_law_2058 (by decide) ?_
                                                    exact ih x296 h292 (cells + 1) (slots + 6) _ _ _ (by omega) (by omega) hw hH (lv_sub hl [3, 4, 5, 6, 0] rfl)
                                                  · replace hw := hw.2 c295
                                                    refine lv_aload_n B.1 B.2.1 dL_law_1275 rfl (lv_at hl 5 rfl) ?_
                                                    refine lv_iconst (v := 0) B.1 B.2.1 dL_law_1276 (by decide) ?_
                                                    have q297 := hw.1
                                                    replace hw := hw.2
                                                    refine r_lald B hN hH (kb3) q297 dL_law_1277 ?_
                                                    refine lv_iload B.1 B.2.1 dL_law_1278 (lv_at hl 0 rfl) ?_
                                                    refine lv_i2l B.1 B.2.1 dL_law_1280 rfl ?_
                                                    refine W.lcmp B.1 B.2.1 dL_law_1281 ?_
                                                    refine lv_if_eq (tgt := 1287) B.1 B.2.1 dL_law_1282 (by decide) (fun c298 => ?_) (fun c298 => ?_)
                                                    · replace hw := hw.1 c298
                                                      refine lv_goto (tgt := 2055) B.1 B.2.1 dL_law_1287 (by decide) ?_
                                                      obtain ⟨x299, ex299⟩ : ∃ y : Int32, y = b4 + 5 := ⟨_, rfl⟩
                                                      replace hw := hw x299 ex299
                                                      refine lv_iinc (v := x299) (lv' := [(4, .int x299), (6, .int r291), (5, .int r276), (0, .ref b), (1, .ref (zA Z b1)), (2, .ref (zA Z b2)), (3, .ref (zA Z b3))]) B.1 B.2.1 dL_law_2055 hl (k := 6) rfl (by rw [ex299]; rfl) (by decide) (by first | rfl | simp [va_re_cat, Value.category]) ?_
                                                      clear hl
                                                      intro ls hl
                                                      refine lv_goto (tgt := 23) B.1 B.2.1 dL_law_2058 (by decide) ?_
                                                      exact ih x299 h292 (cells + 1) (slots + 6) _ _ _ (by omega) (by omega) hw hH (lv_sub hl [3, 4, 5, 6, 0] rfl)
                                                    · replace hw := hw.2 c298
                                                      refine lv_iconst (v := 0) B.1 B.2.1 dL_law_1285 (by decide) ?_
                                                      exact absurd (hQ _ _ hw) (by decide)
                                                · replace hw := hw.2 c294
                                                  refine lv_iconst (v := 0) B.1 B.2.1 dL_law_1268 (by decide) ?_
                                                  exact absurd (hQ _ _ hw) (by decide)
                                            · replace hw := hw.2 c274
                                              refine lv_iconst (v := 1) B.1 B.2.1 dL_law_1222 (by decide) ?_
                                              refine lv_goto (tgt := 1227) B.1 B.2.1 dL_law_1223 (by decide) ?_
                                              refine lv_aload_n B.1 B.2.1 dL_law_1227 rfl (lv_at hl 3 rfl) ?_
                                              refine w_call (own := RL) (As := [.ref (zA Z b1), .int (xs (b4 + 1).toNatClampNeg), .int 1, .ref (zA Z b3)]) (rest := []) B hH hB (cy_L_mute B.2.2.2.2.1) (ct_L_mute B.2.2.2.2.2.2.2 l hB.2.2.2 hN b1 (xs (b4 + 1).toNatClampNeg) 1 b3 h _ _ (kb1) (kb3) hw) ⟨⟨rfl, rfl⟩, Nat.le_of_ble_eq_true rfl, Nat.le_of_ble_eq_true rfl, (by show cells + 1 ≤ 601024; omega), (by show slots + 6 ≤ 7293034; omega)⟩ (tv_814 B.2.2.2.2.1) rfl hl.1 rfl (Nat.le_of_ble_eq_true rfl) dL_law_1228 ?_
                                              clear hw hH
                                              intro r301 h300 H locs hw hH
                                              refine lv_istore (lv' := [(5, .int r301), (0, .ref b), (1, .ref (zA Z b1)), (2, .ref (zA Z b2)), (3, .ref (zA Z b3)), (4, .int b4)]) B.1 B.2.1 dL_law_1231 hl (by decide) (by first | rfl | simp [va_re_cat, Value.category]) ?_
                                              clear hl
                                              intro ls hl
                                              refine lv_aload_n B.1 B.2.1 dL_law_1233 rfl (lv_at hl 3 rfl) ?_
                                              refine lv_aload_n B.1 B.2.1 dL_law_1234 rfl (lv_at hl 1 rfl) ?_
                                              refine lv_iload B.1 B.2.1 dL_law_1235 (lv_at hl 5 rfl) ?_
                                              refine lv_iconst (v := 1) B.1 B.2.1 dL_law_1237 (by decide) ?_
                                              refine lv_iadd B.1 B.2.1 dL_law_1238 ?_
                                              have q302 := hw.1
                                              replace hw := hw.2
                                              refine va_sld B.1 B.2.1 hX hbl hbA hH.2 q302 dL_law_1239 ?_
                                              refine lv_aload_n B.1 B.2.1 dL_law_1240 rfl (lv_at hl 1 rfl) ?_
                                              refine lv_iload B.1 B.2.1 dL_law_1241 (lv_at hl 5 rfl) ?_
                                              refine lv_iconst (v := 2) B.1 B.2.1 dL_law_1243 (by decide) ?_
                                              refine lv_iadd B.1 B.2.1 dL_law_1244 ?_
                                              have q303 := hw.1
                                              replace hw := hw.2
                                              refine va_sld B.1 B.2.1 hX hbl hbA hH.2 q303 dL_law_1245 ?_
                                              refine lv_if_eq (tgt := 1253) B.1 B.2.1 dL_law_1246 (by decide) (fun c304 => ?_) (fun c304 => ?_)
                                              · replace hw := hw.1 c304
                                                refine lv_iconst (v := 0) B.1 B.2.1 dL_law_1253 (by decide) ?_
                                                refine c_V_I (own := RL) (As := [.int (xs (b4 + 1).toNatClampNeg), .int 0]) (rest := []) B hH (cy_X8_mute B.2.2.2.2.1) (ct_X8_mute B.2.2.2.2.2.2.2 l b2 (xs (b4 + 1).toNatClampNeg) 0 h300 _ _ (kb2) hw) ⟨⟨rfl, rfl⟩, Nat.le_of_ble_eq_true rfl, Nat.le_of_ble_eq_true rfl, (by show cells + 1 ≤ 601024; omega), (by show slots + 6 ≤ 7293034; omega)⟩ (rv_8 B hH (kb2)) (tv_1224 B.2.2.2.2.1) rfl hl.1 rfl (Nat.le_of_ble_eq_true rfl) dL_law_1254 ?_
                                                clear hw hH
                                                intro r306 h305 H locs hw hH
                                                refine lv_istore (lv' := [(6, .int r306), (5, .int r301), (0, .ref b), (1, .ref (zA Z b1)), (2, .ref (zA Z b2)), (3, .ref (zA Z b3)), (4, .int b4)]) B.1 B.2.1 dL_law_1257 hl (by decide) (by first | rfl | simp [va_re_cat, Value.category]) ?_
                                                clear hl
                                                intro ls hl
                                                refine lv_aload_n B.1 B.2.1 dL_law_1259 rfl (lv_at hl 4 rfl) ?_
                                                refine c_V_I (own := RL) (As := []) (rest := []) B hH (cy_X8_thrown B.2.2.2.2.1) (ct_X8_thrown B.2.2.2.2.2.2.2 l b2 h305 _ _ (kb2) hw) ⟨⟨rfl, rfl⟩, Nat.le_of_ble_eq_true rfl, Nat.le_of_ble_eq_true rfl, (by show cells + 1 ≤ 601024; omega), (by show slots + 6 ≤ 7293034; omega)⟩ (rv_8 B hH (kb2)) (tv_1001 B.2.2.2.2.1) rfl hl.1 rfl (Nat.le_of_ble_eq_true rfl) dL_law_1260 ?_
                                                clear hw hH
                                                intro r308 h307 H locs hw hH
                                                refine lv_iload B.1 B.2.1 dL_law_1263 (lv_at hl 1 rfl) ?_
                                                refine lv_icmp_eq (tgt := 1270) B.1 B.2.1 dL_law_1265 (by decide) (fun c309 => ?_) (fun c309 => ?_)
                                                · replace hw := hw.1 c309
                                                  refine lv_iload B.1 B.2.1 dL_law_1270 (lv_at hl 1 rfl) ?_
                                                  refine lv_if_ne (tgt := 1287) B.1 B.2.1 dL_law_1272 (by decide) (fun c310 => ?_) (fun c310 => ?_)
                                                  · replace hw := hw.1 c310
                                                    refine lv_goto (tgt := 2055) B.1 B.2.1 dL_law_1287 (by decide) ?_
                                                    obtain ⟨x311, ex311⟩ : ∃ y : Int32, y = b4 + 5 := ⟨_, rfl⟩
                                                    replace hw := hw x311 ex311
                                                    refine lv_iinc (v := x311) (lv' := [(4, .int x311), (6, .int r306), (5, .int r301), (0, .ref b), (1, .ref (zA Z b1)), (2, .ref (zA Z b2)), (3, .ref (zA Z b3))]) B.1 B.2.1 dL_law_2055 hl (k := 6) rfl (by rw [ex311]; rfl) (by decide) (by first | rfl | simp [va_re_cat, Value.category]) ?_
                                                    clear hl
                                                    intro ls hl
                                                    refine lv_goto (tgt := 23) B.1 B.2.1 dL_law_2058 (by decide) ?_
                                                    exact ih x311 h307 (cells + 1) (slots + 6) _ _ _ (by omega) (by omega) hw hH (lv_sub hl [3, 4, 5, 6, 0] rfl)
                                                  · replace hw := hw.2 c310
                                                    refine lv_aload_n B.1 B.2.1 dL_law_1275 rfl (lv_at hl 5 rfl) ?_
                                                    refine lv_iconst (v := 0) B.1 B.2.1 dL_law_1276 (by decide) ?_
                                                    have q312 := hw.1
                                                    replace hw := hw.2
                                                    refine r_lald B hN hH (kb3) q312 dL_law_1277 ?_
                                                    refine lv_iload B.1 B.2.1 dL_law_1278 (lv_at hl 0 rfl) ?_
                                                    refine lv_i2l B.1 B.2.1 dL_law_1280 rfl ?_
                                                    refine W.lcmp B.1 B.2.1 dL_law_1281 ?_
                                                    refine lv_if_eq (tgt := 1287) B.1 B.2.1 dL_law_1282 (by decide) (fun c313 => ?_) (fun c313 => ?_)
                                                    · replace hw := hw.1 c313
                                                      refine lv_goto (tgt := 2055) B.1 B.2.1 dL_law_1287 (by decide) ?_
                                                      obtain ⟨x314, ex314⟩ : ∃ y : Int32, y = b4 + 5 := ⟨_, rfl⟩
                                                      replace hw := hw x314 ex314
                                                      refine lv_iinc (v := x314) (lv' := [(4, .int x314), (6, .int r306), (5, .int r301), (0, .ref b), (1, .ref (zA Z b1)), (2, .ref (zA Z b2)), (3, .ref (zA Z b3))]) B.1 B.2.1 dL_law_2055 hl (k := 6) rfl (by rw [ex314]; rfl) (by decide) (by first | rfl | simp [va_re_cat, Value.category]) ?_
                                                      clear hl
                                                      intro ls hl
                                                      refine lv_goto (tgt := 23) B.1 B.2.1 dL_law_2058 (by decide) ?_
                                                      exact ih x314 h307 (cells + 1) (slots + 6) _ _ _ (by omega) (by omega) hw hH (lv_sub hl [3, 4, 5, 6, 0] rfl)
                                                    · replace hw := hw.2 c313
                                                      refine lv_iconst (v := 0) B.1 B.2.1 dL_law_1285 (by decide) ?_
                                                      exact absurd (hQ _ _ hw) (by decide)
                                                · replace hw := hw.2 c309
                                                  refine lv_iconst (v := 0) B.1 B.2.1 dL_law_1268 (by decide) ?_
                                                  exact absurd (hQ _ _ hw) (by decide)
                                              · replace hw := hw.2 c304
                                                refine lv_iconst (v := 1) B.1 B.2.1 dL_law_1249 (by decide) ?_
                                                refine lv_goto (tgt := 1254) B.1 B.2.1 dL_law_1250 (by decide) ?_
                                                refine c_V_I (own := RL) (As := [.int (xs (b4 + 1).toNatClampNeg), .int 1]) (rest := []) B hH (cy_X8_mute B.2.2.2.2.1) (ct_X8_mute B.2.2.2.2.2.2.2 l b2 (xs (b4 + 1).toNatClampNeg) 1 h300 _ _ (kb2) hw) ⟨⟨rfl, rfl⟩, Nat.le_of_ble_eq_true rfl, Nat.le_of_ble_eq_true rfl, (by show cells + 1 ≤ 601024; omega), (by show slots + 6 ≤ 7293034; omega)⟩ (rv_8 B hH (kb2)) (tv_1224 B.2.2.2.2.1) rfl hl.1 rfl (Nat.le_of_ble_eq_true rfl) dL_law_1254 ?_
                                                clear hw hH
                                                intro r316 h315 H locs hw hH
                                                refine lv_istore (lv' := [(6, .int r316), (5, .int r301), (0, .ref b), (1, .ref (zA Z b1)), (2, .ref (zA Z b2)), (3, .ref (zA Z b3)), (4, .int b4)]) B.1 B.2.1 dL_law_1257 hl (by decide) (by first | rfl | simp [va_re_cat, Value.category]) ?_
                                                clear hl
                                                intro ls hl
                                                refine lv_aload_n B.1 B.2.1 dL_law_1259 rfl (lv_at hl 4 rfl) ?_
                                                refine c_V_I (own := RL) (As := []) (rest := []) B hH (cy_X8_thrown B.2.2.2.2.1) (ct_X8_thrown B.2.2.2.2.2.2.2 l b2 h315 _ _ (kb2) hw) ⟨⟨rfl, rfl⟩, Nat.le_of_ble_eq_true rfl, Nat.le_of_ble_eq_true rfl, (by show cells + 1 ≤ 601024; omega), (by show slots + 6 ≤ 7293034; omega)⟩ (rv_8 B hH (kb2)) (tv_1001 B.2.2.2.2.1) rfl hl.1 rfl (Nat.le_of_ble_eq_true rfl) dL_law_1260 ?_
                                                clear hw hH
                                                intro r318 h317 H locs hw hH
                                                refine lv_iload B.1 B.2.1 dL_law_1263 (lv_at hl 1 rfl) ?_
                                                refine lv_icmp_eq (tgt := 1270) B.1 B.2.1 dL_law_1265 (by decide) (fun c319 => ?_) (fun c319 => ?_)
                                                · replace hw := hw.1 c319
                                                  refine lv_iload B.1 B.2.1 dL_law_1270 (lv_at hl 1 rfl) ?_
                                                  refine lv_if_ne (tgt := 1287) B.1 B.2.1 dL_law_1272 (by decide) (fun c320 => ?_) (fun c320 => ?_)
                                                  · replace hw := hw.1 c320
                                                    refine lv_goto (tgt := 2055) B.1 B.2.1 dL_law_1287 (by decide) ?_
                                                    obtain ⟨x321, ex321⟩ : ∃ y : Int32, y = b4 + 5 := ⟨_, rfl⟩
                                                    replace hw := hw x321 ex321
                                                    refine lv_iinc (v := x321) (lv' := [(4, .int x321), (6, .int r316), (5, .int r301), (0, .ref b), (1, .ref (zA Z b1)), (2, .ref (zA Z b2)), (3, .ref (zA Z b3))]) B.1 B.2.1 dL_law_2055 hl (k := 6) rfl (by rw [ex321]; rfl) (by decide) (by first | rfl | simp [va_re_cat, Value.category]) ?_
                                                    clear hl
                                                    intro ls hl
                                                    refine lv_goto (tgt := 23) B.1 B.2.1 dL_law_2058 (by decide) ?_
                                                    exact ih x321 h317 (cells + 1) (slots + 6) _ _ _ (by omega) (by omega) hw hH (lv_sub hl [3, 4, 5, 6, 0] rfl)
                                                  · replace hw := hw.2 c320
                                                    refine lv_aload_n B.1 B.2.1 dL_law_1275 rfl (lv_at hl 5 rfl) ?_
                                                    refine lv_iconst (v := 0) B.1 B.2.1 dL_law_1276 (by decide) ?_
                                                    have q322 := hw.1
                                                    replace hw := hw.2
                                                    refine r_lald B hN hH (kb3) q322 dL_law_1277 ?_
                                                    refine lv_iload B.1 B.2.1 dL_law_1278 (lv_at hl 0 rfl) ?_
                                                    refine lv_i2l B.1 B.2.1 dL_law_1280 rfl ?_
                                                    refine W.lcmp B.1 B.2.1 dL_law_1281 ?_
                                                    refine lv_if_eq (tgt := 1287) B.1 B.2.1 dL_law_1282 (by decide) (fun c323 => ?_) (fun c323 => ?_)
                                                    · replace hw := hw.1 c323
                                                      refine lv_goto (tgt := 2055) B.1 B.2.1 dL_law_1287 (by decide) ?_
                                                      obtain ⟨x324, ex324⟩ : ∃ y : Int32, y = b4 + 5 := ⟨_, rfl⟩
                                                      replace hw := hw x324 ex324
                                                      refine lv_iinc (v := x324) (lv' := [(4, .int x324), (6, .int r316), (5, .int r301), (0, .ref b), (1, .ref (zA Z b1)), (2, .ref (zA Z b2)), (3, .ref (zA Z b3))]) B.1 B.2.1 dL_law_2055 hl (k := 6) rfl (by rw [ex324]; rfl) (by decide) (by first | rfl | simp [va_re_cat, Value.category]) ?_
                                                      clear hl
                                                      intro ls hl
                                                      refine lv_goto (tgt := 23) B.1 B.2.1 dL_law_2058 (by decide) ?_
                                                      exact ih x324 h317 (cells + 1) (slots + 6) _ _ _ (by omega) (by omega) hw hH (lv_sub hl [3, 4, 5, 6, 0] rfl)
                                                    · replace hw := hw.2 c323
                                                      refine lv_iconst (v := 0) B.1 B.2.1 dL_law_1285 (by decide) ?_
                                                      exact absurd (hQ _ _ hw) (by decide)
                                                · replace hw := hw.2 c319
                                                  refine lv_iconst (v := 0) B.1 B.2.1 dL_law_1268 (by decide) ?_
                                                  exact absurd (hQ _ _ hw) (by decide)
                                          · by_cases c325 : (x3 = 18)
                                            · replace hw := hw.2.2.2.2.2.2.2.2.2.2.2.2.2.2.2.2.2.2.1 c325
                                              refine lv_tableIn (off := 1251) (tgt := 1290) B.1 B.2.1 dL_law_39 (by rw [c325]; decide) (by rw [c325]; decide) (by rw [c325]; rfl) (by decide) ?_
                                              refine lv_aload_n B.1 B.2.1 dL_law_1290 rfl (lv_at hl 1 rfl) ?_
                                              refine lv_aload_n B.1 B.2.1 dL_law_1291 rfl (lv_at hl 0 rfl) ?_
                                              refine lv_iload B.1 B.2.1 dL_law_1292 (lv_at hl 4 rfl) ?_
                                              refine lv_iconst (v := 1) B.1 B.2.1 dL_law_1294 (by decide) ?_
                                              refine lv_iadd B.1 B.2.1 dL_law_1295 ?_
                                              have q326 := hw.1
                                              replace hw := hw.2
                                              refine va_sld B.1 B.2.1 hX hbl hbA hH.2 q326 dL_law_1296 ?_
                                              refine lv_aload_n B.1 B.2.1 dL_law_1297 rfl (lv_at hl 3 rfl) ?_
                                              refine w_call (own := RL) (As := [.ref (zA Z b1), .int (xs (b4 + 1).toNatClampNeg), .ref (zA Z b3)]) (rest := []) B hH hB (cy_L_ticks B.2.2.2.2.1) (ct_L_ticks B.2.2.2.2.2.2.2 l hB.2.2.2 hN b1 (xs (b4 + 1).toNatClampNeg) b3 h _ _ (kb1) (kb3) hw) ⟨⟨rfl, rfl⟩, Nat.le_of_ble_eq_true rfl, Nat.le_of_ble_eq_true rfl, (by show cells + 1 ≤ 601024; omega), (by show slots + 6 ≤ 7293034; omega)⟩ (tv_821 B.2.2.2.2.1) rfl hl.1 rfl (Nat.le_of_ble_eq_true rfl) dL_law_1298 ?_
                                              clear hw hH
                                              intro r328 h327 H locs hw hH
                                              refine lv_istore (lv' := [(5, .int r328), (0, .ref b), (1, .ref (zA Z b1)), (2, .ref (zA Z b2)), (3, .ref (zA Z b3)), (4, .int b4)]) B.1 B.2.1 dL_law_1301 hl (by decide) (by first | rfl | simp [va_re_cat, Value.category]) ?_
                                              clear hl
                                              intro ls hl
                                              refine lv_aload_n B.1 B.2.1 dL_law_1303 rfl (lv_at hl 3 rfl) ?_
                                              refine lv_aload_n B.1 B.2.1 dL_law_1304 rfl (lv_at hl 1 rfl) ?_
                                              refine lv_iload B.1 B.2.1 dL_law_1305 (lv_at hl 5 rfl) ?_
                                              refine lv_iconst (v := 1) B.1 B.2.1 dL_law_1307 (by decide) ?_
                                              refine lv_iadd B.1 B.2.1 dL_law_1308 ?_
                                              have q329 := hw.1
                                              replace hw := hw.2
                                              refine va_sld B.1 B.2.1 hX hbl hbA hH.2 q329 dL_law_1309 ?_
                                              refine c_V_I (own := RL) (As := [.int (xs (b4 + 1).toNatClampNeg)]) (rest := []) B hH (cy_X8_ticks B.2.2.2.2.1) (ct_X8_ticks B.2.2.2.2.2.2.2 l b2 (xs (b4 + 1).toNatClampNeg) h327 _ _ (kb2) hw) ⟨⟨rfl, rfl⟩, Nat.le_of_ble_eq_true rfl, Nat.le_of_ble_eq_true rfl, (by show cells + 1 ≤ 601024; omega), (by show slots + 6 ≤ 7293034; omega)⟩ (rv_8 B hH (kb2)) (tv_1228 B.2.2.2.2.1) rfl hl.1 rfl (Nat.le_of_ble_eq_true rfl) dL_law_1310 ?_
                                              clear hw hH
                                              intro r331 h330 H locs hw hH
                                              refine lv_istore (lv' := [(6, .int r331), (5, .int r328), (0, .ref b), (1, .ref (zA Z b1)), (2, .ref (zA Z b2)), (3, .ref (zA Z b3)), (4, .int b4)]) B.1 B.2.1 dL_law_1313 hl (by decide) (by first | rfl | simp [va_re_cat, Value.category]) ?_
                                              clear hl
                                              intro ls hl
                                              refine lv_aload_n B.1 B.2.1 dL_law_1315 rfl (lv_at hl 4 rfl) ?_
                                              refine c_V_I (own := RL) (As := []) (rest := []) B hH (cy_X8_thrown B.2.2.2.2.1) (ct_X8_thrown B.2.2.2.2.2.2.2 l b2 h330 _ _ (kb2) hw) ⟨⟨rfl, rfl⟩, Nat.le_of_ble_eq_true rfl, Nat.le_of_ble_eq_true rfl, (by show cells + 1 ≤ 601024; omega), (by show slots + 6 ≤ 7293034; omega)⟩ (rv_8 B hH (kb2)) (tv_1001 B.2.2.2.2.1) rfl hl.1 rfl (Nat.le_of_ble_eq_true rfl) dL_law_1316 ?_
                                              clear hw hH
                                              intro r333 h332 H locs hw hH
                                              refine lv_iload B.1 B.2.1 dL_law_1319 (lv_at hl 1 rfl) ?_
                                              refine lv_icmp_eq (tgt := 1326) B.1 B.2.1 dL_law_1321 (by decide) (fun c334 => ?_) (fun c334 => ?_)
                                              · replace hw := hw.1 c334
                                                refine lv_iload B.1 B.2.1 dL_law_1326 (lv_at hl 1 rfl) ?_
                                                refine lv_if_ne (tgt := 1343) B.1 B.2.1 dL_law_1328 (by decide) (fun c335 => ?_) (fun c335 => ?_)
                                                · replace hw := hw.1 c335
                                                  refine lv_goto (tgt := 2055) B.1 B.2.1 dL_law_1343 (by decide) ?_
                                                  obtain ⟨x336, ex336⟩ : ∃ y : Int32, y = b4 + 5 := ⟨_, rfl⟩
                                                  replace hw := hw x336 ex336
                                                  refine lv_iinc (v := x336) (lv' := [(4, .int x336), (6, .int r331), (5, .int r328), (0, .ref b), (1, .ref (zA Z b1)), (2, .ref (zA Z b2)), (3, .ref (zA Z b3))]) B.1 B.2.1 dL_law_2055 hl (k := 6) rfl (by rw [ex336]; rfl) (by decide) (by first | rfl | simp [va_re_cat, Value.category]) ?_
                                                  clear hl
                                                  intro ls hl
                                                  refine lv_goto (tgt := 23) B.1 B.2.1 dL_law_2058 (by decide) ?_
                                                  exact ih x336 h332 (cells + 1) (slots + 6) _ _ _ (by omega) (by omega) hw hH (lv_sub hl [3, 4, 5, 6, 0] rfl)
                                                · replace hw := hw.2 c335
                                                  refine lv_aload_n B.1 B.2.1 dL_law_1331 rfl (lv_at hl 5 rfl) ?_
                                                  refine lv_iconst (v := 0) B.1 B.2.1 dL_law_1332 (by decide) ?_
                                                  have q337 := hw.1
                                                  replace hw := hw.2
                                                  refine r_lald B hN hH (kb3) q337 dL_law_1333 ?_
                                                  refine lv_iload B.1 B.2.1 dL_law_1334 (lv_at hl 0 rfl) ?_
                                                  refine lv_i2l B.1 B.2.1 dL_law_1336 rfl ?_
                                                  refine W.lcmp B.1 B.2.1 dL_law_1337 ?_
                                                  refine lv_if_eq (tgt := 1343) B.1 B.2.1 dL_law_1338 (by decide) (fun c338 => ?_) (fun c338 => ?_)
                                                  · replace hw := hw.1 c338
                                                    refine lv_goto (tgt := 2055) B.1 B.2.1 dL_law_1343 (by decide) ?_
                                                    obtain ⟨x339, ex339⟩ : ∃ y : Int32, y = b4 + 5 := ⟨_, rfl⟩
                                                    replace hw := hw x339 ex339
                                                    refine lv_iinc (v := x339) (lv' := [(4, .int x339), (6, .int r331), (5, .int r328), (0, .ref b), (1, .ref (zA Z b1)), (2, .ref (zA Z b2)), (3, .ref (zA Z b3))]) B.1 B.2.1 dL_law_2055 hl (k := 6) rfl (by rw [ex339]; rfl) (by decide) (by first | rfl | simp [va_re_cat, Value.category]) ?_
                                                    clear hl
                                                    intro ls hl
                                                    refine lv_goto (tgt := 23) B.1 B.2.1 dL_law_2058 (by decide) ?_
                                                    exact ih x339 h332 (cells + 1) (slots + 6) _ _ _ (by omega) (by omega) hw hH (lv_sub hl [3, 4, 5, 6, 0] rfl)
                                                  · replace hw := hw.2 c338
                                                    refine lv_iconst (v := 0) B.1 B.2.1 dL_law_1341 (by decide) ?_
                                                    exact absurd (hQ _ _ hw) (by decide)
                                              · replace hw := hw.2 c334
                                                refine lv_iconst (v := 0) B.1 B.2.1 dL_law_1324 (by decide) ?_
                                                exact absurd (hQ _ _ hw) (by decide)
                                            · by_cases c340 : (x3 = 19)
                                              · replace hw := hw.2.2.2.2.2.2.2.2.2.2.2.2.2.2.2.2.2.2.2.1 c340
                                                refine lv_tableIn (off := 1307) (tgt := 1346) B.1 B.2.1 dL_law_39 (by rw [c340]; decide) (by rw [c340]; decide) (by rw [c340]; rfl) (by decide) ?_
                                                refine lv_aload_n B.1 B.2.1 dL_law_1346 rfl (lv_at hl 1 rfl) ?_
                                                refine lv_aload_n B.1 B.2.1 dL_law_1347 rfl (lv_at hl 0 rfl) ?_
                                                refine lv_iload B.1 B.2.1 dL_law_1348 (lv_at hl 4 rfl) ?_
                                                refine lv_iconst (v := 1) B.1 B.2.1 dL_law_1350 (by decide) ?_
                                                refine lv_iadd B.1 B.2.1 dL_law_1351 ?_
                                                have q341 := hw.1
                                                replace hw := hw.2
                                                refine va_sld B.1 B.2.1 hX hbl hbA hH.2 q341 dL_law_1352 ?_
                                                refine lv_aload_n B.1 B.2.1 dL_law_1353 rfl (lv_at hl 0 rfl) ?_
                                                refine lv_iload B.1 B.2.1 dL_law_1354 (lv_at hl 4 rfl) ?_
                                                refine lv_iconst (v := 2) B.1 B.2.1 dL_law_1356 (by decide) ?_
                                                refine lv_iadd B.1 B.2.1 dL_law_1357 ?_
                                                have q342 := hw.1
                                                replace hw := hw.2
                                                refine va_sld B.1 B.2.1 hX hbl hbA hH.2 q342 dL_law_1358 ?_
                                                refine lv_aload_n B.1 B.2.1 dL_law_1359 rfl (lv_at hl 3 rfl) ?_
                                                refine w_call (own := RL) (As := [.ref (zA Z b1), .int (xs (b4 + 1).toNatClampNeg), .int (xs (b4 + 2).toNatClampNeg), .ref (zA Z b3)]) (rest := []) B hH hB (cy_L_record B.2.2.2.2.1) (ct_L_record B.2.2.2.2.2.2.2 l hB.2.2.2 hN b1 (xs (b4 + 1).toNatClampNeg) (xs (b4 + 2).toNatClampNeg) b3 h _ _ (kb1) (kb3) hw) ⟨⟨rfl, rfl⟩, Nat.le_of_ble_eq_true rfl, Nat.le_of_ble_eq_true rfl, (by show cells + 1 ≤ 601024; omega), (by show slots + 6 ≤ 7293034; omega)⟩ (tv_828 B.2.2.2.2.1) rfl hl.1 rfl (Nat.le_of_ble_eq_true rfl) dL_law_1360 ?_
                                                clear hw hH
                                                intro r344 h343 H locs hw hH
                                                refine lv_istore (lv' := [(5, .int r344), (0, .ref b), (1, .ref (zA Z b1)), (2, .ref (zA Z b2)), (3, .ref (zA Z b3)), (4, .int b4)]) B.1 B.2.1 dL_law_1363 hl (by decide) (by first | rfl | simp [va_re_cat, Value.category]) ?_
                                                clear hl
                                                intro ls hl
                                                refine lv_aload_n B.1 B.2.1 dL_law_1365 rfl (lv_at hl 3 rfl) ?_
                                                refine lv_aload_n B.1 B.2.1 dL_law_1366 rfl (lv_at hl 1 rfl) ?_
                                                refine lv_iload B.1 B.2.1 dL_law_1367 (lv_at hl 5 rfl) ?_
                                                refine lv_iconst (v := 1) B.1 B.2.1 dL_law_1369 (by decide) ?_
                                                refine lv_iadd B.1 B.2.1 dL_law_1370 ?_
                                                have q345 := hw.1
                                                replace hw := hw.2
                                                refine va_sld B.1 B.2.1 hX hbl hbA hH.2 q345 dL_law_1371 ?_
                                                refine lv_aload_n B.1 B.2.1 dL_law_1372 rfl (lv_at hl 1 rfl) ?_
                                                refine lv_iload B.1 B.2.1 dL_law_1373 (lv_at hl 5 rfl) ?_
                                                refine lv_iconst (v := 2) B.1 B.2.1 dL_law_1375 (by decide) ?_
                                                refine lv_iadd B.1 B.2.1 dL_law_1376 ?_
                                                have q346 := hw.1
                                                replace hw := hw.2
                                                refine va_sld B.1 B.2.1 hX hbl hbA hH.2 q346 dL_law_1377 ?_
                                                refine c_V_I (own := RL) (As := [.int (xs (b4 + 1).toNatClampNeg), .int (xs (b4 + 2).toNatClampNeg)]) (rest := []) B hH (cy_X8_record B.2.2.2.2.1) (ct_X8_record B.2.2.2.2.2.2.2 l b2 (xs (b4 + 1).toNatClampNeg) (xs (b4 + 2).toNatClampNeg) h343 _ _ (kb2) hw) ⟨⟨rfl, rfl⟩, Nat.le_of_ble_eq_true rfl, Nat.le_of_ble_eq_true rfl, (by show cells + 1 ≤ 601024; omega), (by show slots + 6 ≤ 7293034; omega)⟩ (rv_8 B hH (kb2)) (tv_1233 B.2.2.2.2.1) rfl hl.1 rfl (Nat.le_of_ble_eq_true rfl) dL_law_1378 ?_
                                                clear hw hH
                                                intro r348 h347 H locs hw hH
                                                refine lv_istore (lv' := [(6, .int r348), (5, .int r344), (0, .ref b), (1, .ref (zA Z b1)), (2, .ref (zA Z b2)), (3, .ref (zA Z b3)), (4, .int b4)]) B.1 B.2.1 dL_law_1381 hl (by decide) (by first | rfl | simp [va_re_cat, Value.category]) ?_
                                                clear hl
                                                intro ls hl
                                                refine lv_aload_n B.1 B.2.1 dL_law_1383 rfl (lv_at hl 4 rfl) ?_
                                                refine c_V_I (own := RL) (As := []) (rest := []) B hH (cy_X8_thrown B.2.2.2.2.1) (ct_X8_thrown B.2.2.2.2.2.2.2 l b2 h347 _ _ (kb2) hw) ⟨⟨rfl, rfl⟩, Nat.le_of_ble_eq_true rfl, Nat.le_of_ble_eq_true rfl, (by show cells + 1 ≤ 601024; omega), (by show slots + 6 ≤ 7293034; omega)⟩ (rv_8 B hH (kb2)) (tv_1001 B.2.2.2.2.1) rfl hl.1 rfl (Nat.le_of_ble_eq_true rfl) dL_law_1384 ?_
                                                clear hw hH
                                                intro r350 h349 H locs hw hH
                                                refine lv_iload B.1 B.2.1 dL_law_1387 (lv_at hl 1 rfl) ?_
                                                refine lv_icmp_eq (tgt := 1394) B.1 B.2.1 dL_law_1389 (by decide) (fun c351 => ?_) (fun c351 => ?_)
                                                · replace hw := hw.1 c351
                                                  refine lv_iload B.1 B.2.1 dL_law_1394 (lv_at hl 1 rfl) ?_
                                                  refine lv_if_ne (tgt := 1411) B.1 B.2.1 dL_law_1396 (by decide) (fun c352 => ?_) (fun c352 => ?_)
                                                  · replace hw := hw.1 c352
                                                    refine lv_goto (tgt := 2055) B.1 B.2.1 dL_law_1411 (by decide) ?_
                                                    obtain ⟨x353, ex353⟩ : ∃ y : Int32, y = b4 + 5 := ⟨_, rfl⟩
                                                    replace hw := hw x353 ex353
                                                    refine lv_iinc (v := x353) (lv' := [(4, .int x353), (6, .int r348), (5, .int r344), (0, .ref b), (1, .ref (zA Z b1)), (2, .ref (zA Z b2)), (3, .ref (zA Z b3))]) B.1 B.2.1 dL_law_2055 hl (k := 6) rfl (by rw [ex353]; rfl) (by decide) (by first | rfl | simp [va_re_cat, Value.category]) ?_
                                                    clear hl
                                                    intro ls hl
                                                    refine lv_goto (tgt := 23) B.1 B.2.1 dL_law_2058 (by decide) ?_
                                                    exact ih x353 h349 (cells + 1) (slots + 6) _ _ _ (by omega) (by omega) hw hH (lv_sub hl [3, 4, 5, 6, 0] rfl)
                                                  · replace hw := hw.2 c352
                                                    refine lv_aload_n B.1 B.2.1 dL_law_1399 rfl (lv_at hl 5 rfl) ?_
                                                    refine lv_iconst (v := 0) B.1 B.2.1 dL_law_1400 (by decide) ?_
                                                    have q354 := hw.1
                                                    replace hw := hw.2
                                                    refine r_lald B hN hH (kb3) q354 dL_law_1401 ?_
                                                    refine lv_iload B.1 B.2.1 dL_law_1402 (lv_at hl 0 rfl) ?_
                                                    refine lv_i2l B.1 B.2.1 dL_law_1404 rfl ?_
                                                    refine W.lcmp B.1 B.2.1 dL_law_1405 ?_
                                                    refine lv_if_eq (tgt := 1411) B.1 B.2.1 dL_law_1406 (by decide) (fun c355 => ?_) (fun c355 => ?_)
                                                    · replace hw := hw.1 c355
                                                      refine lv_goto (tgt := 2055) B.1 B.2.1 dL_law_1411 (by decide) ?_
                                                      obtain ⟨x356, ex356⟩ : ∃ y : Int32, y = b4 + 5 := ⟨_, rfl⟩
                                                      replace hw := hw x356 ex356
                                                      refine lv_iinc (v := x356) (lv' := [(4, .int x356), (6, .int r348), (5, .int r344), (0, .ref b), (1, .ref (zA Z b1)), (2, .ref (zA Z b2)), (3, .ref (zA Z b3))]) B.1 B.2.1 dL_law_2055 hl (k := 6) rfl (by rw [ex356]; rfl) (by decide) (by first | rfl | simp [va_re_cat, Value.category]) ?_
                                                      clear hl
                                                      intro ls hl
                                                      refine lv_goto (tgt := 23) B.1 B.2.1 dL_law_2058 (by decide) ?_
                                                      exact ih x356 h349 (cells + 1) (slots + 6) _ _ _ (by omega) (by omega) hw hH (lv_sub hl [3, 4, 5, 6, 0] rfl)
                                                    · replace hw := hw.2 c355
                                                      refine lv_iconst (v := 0) B.1 B.2.1 dL_law_1409 (by decide) ?_
                                                      exact absurd (hQ _ _ hw) (by decide)
                                                · replace hw := hw.2 c351
                                                  refine lv_iconst (v := 0) B.1 B.2.1 dL_law_1392 (by decide) ?_
                                                  exact absurd (hQ _ _ hw) (by decide)
                                              · by_cases c357 : (x3 = 20)
                                                · replace hw := hw.2.2.2.2.2.2.2.2.2.2.2.2.2.2.2.2.2.2.2.2.1 c357
                                                  refine lv_tableIn (off := 1375) (tgt := 1414) B.1 B.2.1 dL_law_39 (by rw [c357]; decide) (by rw [c357]; decide) (by rw [c357]; rfl) (by decide) ?_
                                                  refine lv_aload_n B.1 B.2.1 dL_law_1414 rfl (lv_at hl 1 rfl) ?_
                                                  refine lv_aload_n B.1 B.2.1 dL_law_1415 rfl (lv_at hl 3 rfl) ?_
                                                  refine w_call (own := RL) (As := [.ref (zA Z b1), .ref (zA Z b3)]) (rest := []) B hH hB (cy_L_undo B.2.2.2.2.1) (ct_L_undo B.2.2.2.2.2.2.2 l hB.2.2.2 hN b1 b3 h _ _ (kb1) (kb3) hw) ⟨⟨rfl, rfl⟩, Nat.le_of_ble_eq_true rfl, Nat.le_of_ble_eq_true rfl, (by show cells + 1 ≤ 601024; omega), (by show slots + 6 ≤ 7293034; omega)⟩ (tv_835 B.2.2.2.2.1) rfl hl.1 rfl (Nat.le_of_ble_eq_true rfl) dL_law_1416 ?_
                                                  clear hw hH
                                                  intro r359 h358 H locs hw hH
                                                  refine lv_istore (lv' := [(5, .int r359), (0, .ref b), (1, .ref (zA Z b1)), (2, .ref (zA Z b2)), (3, .ref (zA Z b3)), (4, .int b4)]) B.1 B.2.1 dL_law_1419 hl (by decide) (by first | rfl | simp [va_re_cat, Value.category]) ?_
                                                  clear hl
                                                  intro ls hl
                                                  refine lv_aload_n B.1 B.2.1 dL_law_1421 rfl (lv_at hl 3 rfl) ?_
                                                  refine c_V_I (own := RL) (As := []) (rest := []) B hH (cy_X8_undo B.2.2.2.2.1) (ct_X8_undo B.2.2.2.2.2.2.2 l b2 h358 _ _ (kb2) hw) ⟨⟨rfl, rfl⟩, Nat.le_of_ble_eq_true rfl, Nat.le_of_ble_eq_true rfl, (by show cells + 1 ≤ 601024; omega), (by show slots + 6 ≤ 7293034; omega)⟩ (rv_8 B hH (kb2)) (tv_1237 B.2.2.2.2.1) rfl hl.1 rfl (Nat.le_of_ble_eq_true rfl) dL_law_1422 ?_
                                                  clear hw hH
                                                  intro r361 h360 H locs hw hH
                                                  refine lv_istore (lv' := [(6, .int r361), (5, .int r359), (0, .ref b), (1, .ref (zA Z b1)), (2, .ref (zA Z b2)), (3, .ref (zA Z b3)), (4, .int b4)]) B.1 B.2.1 dL_law_1425 hl (by decide) (by first | rfl | simp [va_re_cat, Value.category]) ?_
                                                  clear hl
                                                  intro ls hl
                                                  refine lv_aload_n B.1 B.2.1 dL_law_1427 rfl (lv_at hl 4 rfl) ?_
                                                  refine c_V_I (own := RL) (As := []) (rest := []) B hH (cy_X8_thrown B.2.2.2.2.1) (ct_X8_thrown B.2.2.2.2.2.2.2 l b2 h360 _ _ (kb2) hw) ⟨⟨rfl, rfl⟩, Nat.le_of_ble_eq_true rfl, Nat.le_of_ble_eq_true rfl, (by show cells + 1 ≤ 601024; omega), (by show slots + 6 ≤ 7293034; omega)⟩ (rv_8 B hH (kb2)) (tv_1001 B.2.2.2.2.1) rfl hl.1 rfl (Nat.le_of_ble_eq_true rfl) dL_law_1428 ?_
                                                  clear hw hH
                                                  intro r363 h362 H locs hw hH
                                                  refine lv_iload B.1 B.2.1 dL_law_1431 (lv_at hl 1 rfl) ?_
                                                  refine lv_icmp_eq (tgt := 1438) B.1 B.2.1 dL_law_1433 (by decide) (fun c364 => ?_) (fun c364 => ?_)
                                                  · replace hw := hw.1 c364
                                                    refine lv_iload B.1 B.2.1 dL_law_1438 (lv_at hl 1 rfl) ?_
                                                    refine lv_if_ne (tgt := 1455) B.1 B.2.1 dL_law_1440 (by decide) (fun c365 => ?_) (fun c365 => ?_)
                                                    · replace hw := hw.1 c365
                                                      refine lv_goto (tgt := 2055) B.1 B.2.1 dL_law_1455 (by decide) ?_
                                                      obtain ⟨x366, ex366⟩ : ∃ y : Int32, y = b4 + 5 := ⟨_, rfl⟩
                                                      replace hw := hw x366 ex366
                                                      refine lv_iinc (v := x366) (lv' := [(4, .int x366), (6, .int r361), (5, .int r359), (0, .ref b), (1, .ref (zA Z b1)), (2, .ref (zA Z b2)), (3, .ref (zA Z b3))]) B.1 B.2.1 dL_law_2055 hl (k := 6) rfl (by rw [ex366]; rfl) (by decide) (by first | rfl | simp [va_re_cat, Value.category]) ?_
                                                      clear hl
                                                      intro ls hl
                                                      refine lv_goto (tgt := 23) B.1 B.2.1 dL_law_2058 (by decide) ?_
                                                      exact ih x366 h362 (cells + 1) (slots + 6) _ _ _ (by omega) (by omega) hw hH (lv_sub hl [3, 4, 5, 6, 0] rfl)
                                                    · replace hw := hw.2 c365
                                                      refine lv_aload_n B.1 B.2.1 dL_law_1443 rfl (lv_at hl 5 rfl) ?_
                                                      refine lv_iconst (v := 0) B.1 B.2.1 dL_law_1444 (by decide) ?_
                                                      have q367 := hw.1
                                                      replace hw := hw.2
                                                      refine r_lald B hN hH (kb3) q367 dL_law_1445 ?_
                                                      refine lv_iload B.1 B.2.1 dL_law_1446 (lv_at hl 0 rfl) ?_
                                                      refine lv_i2l B.1 B.2.1 dL_law_1448 rfl ?_
                                                      refine W.lcmp B.1 B.2.1 dL_law_1449 ?_
                                                      refine lv_if_eq (tgt := 1455) B.1 B.2.1 dL_law_1450 (by decide) (fun c368 => ?_) (fun c368 => ?_)
                                                      · replace hw := hw.1 c368
                                                        refine lv_goto (tgt := 2055) B.1 B.2.1 dL_law_1455 (by decide) ?_
                                                        obtain ⟨x369, ex369⟩ : ∃ y : Int32, y = b4 + 5 := ⟨_, rfl⟩
                                                        replace hw := hw x369 ex369
                                                        refine lv_iinc (v := x369) (lv' := [(4, .int x369), (6, .int r361), (5, .int r359), (0, .ref b), (1, .ref (zA Z b1)), (2, .ref (zA Z b2)), (3, .ref (zA Z b3))]) B.1 B.2.1 dL_law_2055 hl (k := 6) rfl (by rw [ex369]; rfl) (by decide) (by first | rfl | simp [va_re_cat, Value.category]) ?_
                                                        clear hl
                                                        intro ls hl
                                                        refine lv_goto (tgt := 23) B.1 B.2.1 dL_law_2058 (by decide) ?_
                                                        exact ih x369 h362 (cells + 1) (slots + 6) _ _ _ (by omega) (by omega) hw hH (lv_sub hl [3, 4, 5, 6, 0] rfl)
                                                      · replace hw := hw.2 c368
                                                        refine lv_iconst (v := 0) B.1 B.2.1 dL_law_1453 (by decide) ?_
                                                        exact absurd (hQ _ _ hw) (by decide)
                                                  · replace hw := hw.2 c364
                                                    refine lv_iconst (v := 0) B.1 B.2.1 dL_law_1436 (by decide) ?_
                                                    exact absurd (hQ _ _ hw) (by decide)
                                                · by_cases c370 : (x3 = 21)
                                                  · replace hw := hw.2.2.2.2.2.2.2.2.2.2.2.2.2.2.2.2.2.2.2.2.2.1 c370
                                                    refine lv_tableIn (off := 1419) (tgt := 1458) B.1 B.2.1 dL_law_39 (by rw [c370]; decide) (by rw [c370]; decide) (by rw [c370]; rfl) (by decide) ?_
                                                    refine lv_aload_n B.1 B.2.1 dL_law_1458 rfl (lv_at hl 1 rfl) ?_
                                                    refine lv_aload_n B.1 B.2.1 dL_law_1459 rfl (lv_at hl 0 rfl) ?_
                                                    refine lv_iload B.1 B.2.1 dL_law_1460 (lv_at hl 4 rfl) ?_
                                                    refine lv_iconst (v := 1) B.1 B.2.1 dL_law_1462 (by decide) ?_
                                                    refine lv_iadd B.1 B.2.1 dL_law_1463 ?_
                                                    have q371 := hw.1
                                                    replace hw := hw.2
                                                    refine va_sld B.1 B.2.1 hX hbl hbA hH.2 q371 dL_law_1464 ?_
                                                    refine lv_aload_n B.1 B.2.1 dL_law_1465 rfl (lv_at hl 3 rfl) ?_
                                                    refine w_call (own := RL) (As := [.ref (zA Z b1), .int (xs (b4 + 1).toNatClampNeg), .ref (zA Z b3)]) (rest := []) B hH hB (cy_L_soundIn B.2.2.2.2.1) (ct_L_soundIn B.2.2.2.2.2.2.2 l hB.2.2.2 hN b1 (xs (b4 + 1).toNatClampNeg) b3 h _ _ (kb1) (kb3) hw) ⟨⟨rfl, rfl⟩, Nat.le_of_ble_eq_true rfl, Nat.le_of_ble_eq_true rfl, (by show cells + 1 ≤ 601024; omega), (by show slots + 6 ≤ 7293034; omega)⟩ (tv_847 B.2.2.2.2.1) rfl hl.1 rfl (Nat.le_of_ble_eq_true rfl) dL_law_1466 ?_
                                                    clear hw hH
                                                    intro r373 h372 H locs hw hH
                                                    refine lv_istore (lv' := [(5, .int r373), (0, .ref b), (1, .ref (zA Z b1)), (2, .ref (zA Z b2)), (3, .ref (zA Z b3)), (4, .int b4)]) B.1 B.2.1 dL_law_1469 hl (by decide) (by first | rfl | simp [va_re_cat, Value.category]) ?_
                                                    clear hl
                                                    intro ls hl
                                                    refine lv_aload_n B.1 B.2.1 dL_law_1471 rfl (lv_at hl 3 rfl) ?_
                                                    refine lv_aload_n B.1 B.2.1 dL_law_1472 rfl (lv_at hl 1 rfl) ?_
                                                    refine lv_iload B.1 B.2.1 dL_law_1473 (lv_at hl 5 rfl) ?_
                                                    refine lv_iconst (v := 1) B.1 B.2.1 dL_law_1475 (by decide) ?_
                                                    refine lv_iadd B.1 B.2.1 dL_law_1476 ?_
                                                    have q374 := hw.1
                                                    replace hw := hw.2
                                                    refine va_sld B.1 B.2.1 hX hbl hbA hH.2 q374 dL_law_1477 ?_
                                                    refine c_V_I (own := RL) (As := [.int (xs (b4 + 1).toNatClampNeg)]) (rest := []) B hH (cy_X8_soundIn B.2.2.2.2.1) (ct_X8_soundIn B.2.2.2.2.2.2.2 l b2 (xs (b4 + 1).toNatClampNeg) h372 _ _ (kb2) hw) ⟨⟨rfl, rfl⟩, Nat.le_of_ble_eq_true rfl, Nat.le_of_ble_eq_true rfl, (by show cells + 1 ≤ 601024; omega), (by show slots + 6 ≤ 7293034; omega)⟩ (rv_8 B hH (kb2)) (tv_1241 B.2.2.2.2.1) rfl hl.1 rfl (Nat.le_of_ble_eq_true rfl) dL_law_1478 ?_
                                                    clear hw hH
                                                    intro r376 h375 H locs hw hH
                                                    refine lv_istore (lv' := [(6, .int r376), (5, .int r373), (0, .ref b), (1, .ref (zA Z b1)), (2, .ref (zA Z b2)), (3, .ref (zA Z b3)), (4, .int b4)]) B.1 B.2.1 dL_law_1481 hl (by decide) (by first | rfl | simp [va_re_cat, Value.category]) ?_
                                                    clear hl
                                                    intro ls hl
                                                    refine lv_aload_n B.1 B.2.1 dL_law_1483 rfl (lv_at hl 4 rfl) ?_
                                                    refine c_V_I (own := RL) (As := []) (rest := []) B hH (cy_X8_thrown B.2.2.2.2.1) (ct_X8_thrown B.2.2.2.2.2.2.2 l b2 h375 _ _ (kb2) hw) ⟨⟨rfl, rfl⟩, Nat.le_of_ble_eq_true rfl, Nat.le_of_ble_eq_true rfl, (by show cells + 1 ≤ 601024; omega), (by show slots + 6 ≤ 7293034; omega)⟩ (rv_8 B hH (kb2)) (tv_1001 B.2.2.2.2.1) rfl hl.1 rfl (Nat.le_of_ble_eq_true rfl) dL_law_1484 ?_
                                                    clear hw hH
                                                    intro r378 h377 H locs hw hH
                                                    refine lv_iload B.1 B.2.1 dL_law_1487 (lv_at hl 1 rfl) ?_
                                                    refine lv_icmp_eq (tgt := 1494) B.1 B.2.1 dL_law_1489 (by decide) (fun c379 => ?_) (fun c379 => ?_)
                                                    · replace hw := hw.1 c379
                                                      refine lv_iload B.1 B.2.1 dL_law_1494 (lv_at hl 1 rfl) ?_
                                                      refine lv_if_ne (tgt := 1511) B.1 B.2.1 dL_law_1496 (by decide) (fun c380 => ?_) (fun c380 => ?_)
                                                      · replace hw := hw.1 c380
                                                        refine lv_goto (tgt := 2055) B.1 B.2.1 dL_law_1511 (by decide) ?_
                                                        obtain ⟨x381, ex381⟩ : ∃ y : Int32, y = b4 + 5 := ⟨_, rfl⟩
                                                        replace hw := hw x381 ex381
                                                        refine lv_iinc (v := x381) (lv' := [(4, .int x381), (6, .int r376), (5, .int r373), (0, .ref b), (1, .ref (zA Z b1)), (2, .ref (zA Z b2)), (3, .ref (zA Z b3))]) B.1 B.2.1 dL_law_2055 hl (k := 6) rfl (by rw [ex381]; rfl) (by decide) (by first | rfl | simp [va_re_cat, Value.category]) ?_
                                                        clear hl
                                                        intro ls hl
                                                        refine lv_goto (tgt := 23) B.1 B.2.1 dL_law_2058 (by decide) ?_
                                                        exact ih x381 h377 (cells + 1) (slots + 6) _ _ _ (by omega) (by omega) hw hH (lv_sub hl [3, 4, 5, 6, 0] rfl)
                                                      · replace hw := hw.2 c380
                                                        refine lv_aload_n B.1 B.2.1 dL_law_1499 rfl (lv_at hl 5 rfl) ?_
                                                        refine lv_iconst (v := 0) B.1 B.2.1 dL_law_1500 (by decide) ?_
                                                        have q382 := hw.1
                                                        replace hw := hw.2
                                                        refine r_lald B hN hH (kb3) q382 dL_law_1501 ?_
                                                        refine lv_iload B.1 B.2.1 dL_law_1502 (lv_at hl 0 rfl) ?_
                                                        refine lv_i2l B.1 B.2.1 dL_law_1504 rfl ?_
                                                        refine W.lcmp B.1 B.2.1 dL_law_1505 ?_
                                                        refine lv_if_eq (tgt := 1511) B.1 B.2.1 dL_law_1506 (by decide) (fun c383 => ?_) (fun c383 => ?_)
                                                        · replace hw := hw.1 c383
                                                          refine lv_goto (tgt := 2055) B.1 B.2.1 dL_law_1511 (by decide) ?_
                                                          obtain ⟨x384, ex384⟩ : ∃ y : Int32, y = b4 + 5 := ⟨_, rfl⟩
                                                          replace hw := hw x384 ex384
                                                          refine lv_iinc (v := x384) (lv' := [(4, .int x384), (6, .int r376), (5, .int r373), (0, .ref b), (1, .ref (zA Z b1)), (2, .ref (zA Z b2)), (3, .ref (zA Z b3))]) B.1 B.2.1 dL_law_2055 hl (k := 6) rfl (by rw [ex384]; rfl) (by decide) (by first | rfl | simp [va_re_cat, Value.category]) ?_
                                                          clear hl
                                                          intro ls hl
                                                          refine lv_goto (tgt := 23) B.1 B.2.1 dL_law_2058 (by decide) ?_
                                                          exact ih x384 h377 (cells + 1) (slots + 6) _ _ _ (by omega) (by omega) hw hH (lv_sub hl [3, 4, 5, 6, 0] rfl)
                                                        · replace hw := hw.2 c383
                                                          refine lv_iconst (v := 0) B.1 B.2.1 dL_law_1509 (by decide) ?_
                                                          exact absurd (hQ _ _ hw) (by decide)
                                                    · replace hw := hw.2 c379
                                                      refine lv_iconst (v := 0) B.1 B.2.1 dL_law_1492 (by decide) ?_
                                                      exact absurd (hQ _ _ hw) (by decide)
                                                  · by_cases c385 : (x3 = 22)
                                                    · replace hw := hw.2.2.2.2.2.2.2.2.2.2.2.2.2.2.2.2.2.2.2.2.2.2.1 c385
                                                      refine lv_tableIn (off := 1475) (tgt := 1514) B.1 B.2.1 dL_law_39 (by rw [c385]; decide) (by rw [c385]; decide) (by rw [c385]; rfl) (by decide) ?_
                                                      refine lv_aload_n B.1 B.2.1 dL_law_1514 rfl (lv_at hl 1 rfl) ?_
                                                      refine lv_aload_n B.1 B.2.1 dL_law_1515 rfl (lv_at hl 0 rfl) ?_
                                                      refine lv_iload B.1 B.2.1 dL_law_1516 (lv_at hl 4 rfl) ?_
                                                      refine lv_iconst (v := 1) B.1 B.2.1 dL_law_1518 (by decide) ?_
                                                      refine lv_iadd B.1 B.2.1 dL_law_1519 ?_
                                                      have q386 := hw.1
                                                      replace hw := hw.2
                                                      refine va_sld B.1 B.2.1 hX hbl hbA hH.2 q386 dL_law_1520 ?_
                                                      refine lv_aload_n B.1 B.2.1 dL_law_1521 rfl (lv_at hl 0 rfl) ?_
                                                      refine lv_iload B.1 B.2.1 dL_law_1522 (lv_at hl 4 rfl) ?_
                                                      refine lv_iconst (v := 2) B.1 B.2.1 dL_law_1524 (by decide) ?_
                                                      refine lv_iadd B.1 B.2.1 dL_law_1525 ?_
                                                      have q387 := hw.1
                                                      replace hw := hw.2
                                                      refine va_sld B.1 B.2.1 hX hbl hbA hH.2 q387 dL_law_1526 ?_
                                                      refine lv_aload_n B.1 B.2.1 dL_law_1527 rfl (lv_at hl 0 rfl) ?_
                                                      refine lv_iload B.1 B.2.1 dL_law_1528 (lv_at hl 4 rfl) ?_
                                                      refine lv_iconst (v := 3) B.1 B.2.1 dL_law_1530 (by decide) ?_
                                                      refine lv_iadd B.1 B.2.1 dL_law_1531 ?_
                                                      have q388 := hw.1
                                                      replace hw := hw.2
                                                      refine va_sld B.1 B.2.1 hX hbl hbA hH.2 q388 dL_law_1532 ?_
                                                      refine lv_aload_n B.1 B.2.1 dL_law_1533 rfl (lv_at hl 3 rfl) ?_
                                                      refine w_call (own := RL) (As := [.ref (zA Z b1), .int (xs (b4 + 1).toNatClampNeg), .int (xs (b4 + 2).toNatClampNeg), .int (xs (b4 + 3).toNatClampNeg), .ref (zA Z b3)]) (rest := []) B hH hB (cy_L_meet B.2.2.2.2.1) (ct_L_meet B.2.2.2.2.2.2.2 l hB.2.2.2 hN b1 (xs (b4 + 1).toNatClampNeg) (xs (b4 + 2).toNatClampNeg) (xs (b4 + 3).toNatClampNeg) b3 h _ _ (kb1) (kb3) hw) ⟨⟨rfl, rfl⟩, Nat.le_of_ble_eq_true rfl, Nat.le_of_ble_eq_true rfl, (by show cells + 1 ≤ 601024; omega), (by show slots + 6 ≤ 7293034; omega)⟩ (tv_856 B.2.2.2.2.1) rfl hl.1 rfl (Nat.le_of_ble_eq_true rfl) dL_law_1534 ?_
                                                      clear hw hH
                                                      intro r390 h389 H locs hw hH
                                                      refine lv_istore (lv' := [(5, .int r390), (0, .ref b), (1, .ref (zA Z b1)), (2, .ref (zA Z b2)), (3, .ref (zA Z b3)), (4, .int b4)]) B.1 B.2.1 dL_law_1537 hl (by decide) (by first | rfl | simp [va_re_cat, Value.category]) ?_
                                                      clear hl
                                                      intro ls hl
                                                      refine lv_aload_n B.1 B.2.1 dL_law_1539 rfl (lv_at hl 3 rfl) ?_
                                                      refine lv_aload_n B.1 B.2.1 dL_law_1540 rfl (lv_at hl 1 rfl) ?_
                                                      refine lv_iload B.1 B.2.1 dL_law_1541 (lv_at hl 5 rfl) ?_
                                                      refine lv_iconst (v := 1) B.1 B.2.1 dL_law_1543 (by decide) ?_
                                                      refine lv_iadd B.1 B.2.1 dL_law_1544 ?_
                                                      have q391 := hw.1
                                                      replace hw := hw.2
                                                      refine va_sld B.1 B.2.1 hX hbl hbA hH.2 q391 dL_law_1545 ?_
                                                      refine lv_aload_n B.1 B.2.1 dL_law_1546 rfl (lv_at hl 1 rfl) ?_
                                                      refine lv_iload B.1 B.2.1 dL_law_1547 (lv_at hl 5 rfl) ?_
                                                      refine lv_iconst (v := 2) B.1 B.2.1 dL_law_1549 (by decide) ?_
                                                      refine lv_iadd B.1 B.2.1 dL_law_1550 ?_
                                                      have q392 := hw.1
                                                      replace hw := hw.2
                                                      refine va_sld B.1 B.2.1 hX hbl hbA hH.2 q392 dL_law_1551 ?_
                                                      refine lv_aload_n B.1 B.2.1 dL_law_1552 rfl (lv_at hl 1 rfl) ?_
                                                      refine lv_iload B.1 B.2.1 dL_law_1553 (lv_at hl 5 rfl) ?_
                                                      refine lv_iconst (v := 3) B.1 B.2.1 dL_law_1555 (by decide) ?_
                                                      refine lv_iadd B.1 B.2.1 dL_law_1556 ?_
                                                      have q393 := hw.1
                                                      replace hw := hw.2
                                                      refine va_sld B.1 B.2.1 hX hbl hbA hH.2 q393 dL_law_1557 ?_
                                                      refine c_V_I (own := RL) (As := [.int (xs (b4 + 1).toNatClampNeg), .int (xs (b4 + 2).toNatClampNeg), .int (xs (b4 + 3).toNatClampNeg)]) (rest := []) B hH (cy_X8_meet B.2.2.2.2.1) (ct_X8_meet B.2.2.2.2.2.2.2 l b2 (xs (b4 + 1).toNatClampNeg) (xs (b4 + 2).toNatClampNeg) (xs (b4 + 3).toNatClampNeg) h389 _ _ (kb2) hw) ⟨⟨rfl, rfl⟩, Nat.le_of_ble_eq_true rfl, Nat.le_of_ble_eq_true rfl, (by show cells + 1 ≤ 601024; omega), (by show slots + 6 ≤ 7293034; omega)⟩ (rv_8 B hH (kb2)) (tv_1246 B.2.2.2.2.1) rfl hl.1 rfl (Nat.le_of_ble_eq_true rfl) dL_law_1558 ?_
                                                      clear hw hH
                                                      intro r395 h394 H locs hw hH
                                                      refine lv_istore (lv' := [(6, .int r395), (5, .int r390), (0, .ref b), (1, .ref (zA Z b1)), (2, .ref (zA Z b2)), (3, .ref (zA Z b3)), (4, .int b4)]) B.1 B.2.1 dL_law_1561 hl (by decide) (by first | rfl | simp [va_re_cat, Value.category]) ?_
                                                      clear hl
                                                      intro ls hl
                                                      refine lv_aload_n B.1 B.2.1 dL_law_1563 rfl (lv_at hl 4 rfl) ?_
                                                      refine c_V_I (own := RL) (As := []) (rest := []) B hH (cy_X8_thrown B.2.2.2.2.1) (ct_X8_thrown B.2.2.2.2.2.2.2 l b2 h394 _ _ (kb2) hw) ⟨⟨rfl, rfl⟩, Nat.le_of_ble_eq_true rfl, Nat.le_of_ble_eq_true rfl, (by show cells + 1 ≤ 601024; omega), (by show slots + 6 ≤ 7293034; omega)⟩ (rv_8 B hH (kb2)) (tv_1001 B.2.2.2.2.1) rfl hl.1 rfl (Nat.le_of_ble_eq_true rfl) dL_law_1564 ?_
                                                      clear hw hH
                                                      intro r397 h396 H locs hw hH
                                                      refine lv_iload B.1 B.2.1 dL_law_1567 (lv_at hl 1 rfl) ?_
                                                      refine lv_icmp_eq (tgt := 1574) B.1 B.2.1 dL_law_1569 (by decide) (fun c398 => ?_) (fun c398 => ?_)
                                                      · replace hw := hw.1 c398
                                                        refine lv_iload B.1 B.2.1 dL_law_1574 (lv_at hl 1 rfl) ?_
                                                        refine lv_if_ne (tgt := 1591) B.1 B.2.1 dL_law_1576 (by decide) (fun c399 => ?_) (fun c399 => ?_)
                                                        · replace hw := hw.1 c399
                                                          refine lv_goto (tgt := 2055) B.1 B.2.1 dL_law_1591 (by decide) ?_
                                                          obtain ⟨x400, ex400⟩ : ∃ y : Int32, y = b4 + 5 := ⟨_, rfl⟩
                                                          replace hw := hw x400 ex400
                                                          refine lv_iinc (v := x400) (lv' := [(4, .int x400), (6, .int r395), (5, .int r390), (0, .ref b), (1, .ref (zA Z b1)), (2, .ref (zA Z b2)), (3, .ref (zA Z b3))]) B.1 B.2.1 dL_law_2055 hl (k := 6) rfl (by rw [ex400]; rfl) (by decide) (by first | rfl | simp [va_re_cat, Value.category]) ?_
                                                          clear hl
                                                          intro ls hl
                                                          refine lv_goto (tgt := 23) B.1 B.2.1 dL_law_2058 (by decide) ?_
                                                          exact ih x400 h396 (cells + 1) (slots + 6) _ _ _ (by omega) (by omega) hw hH (lv_sub hl [3, 4, 5, 6, 0] rfl)
                                                        · replace hw := hw.2 c399
                                                          refine lv_aload_n B.1 B.2.1 dL_law_1579 rfl (lv_at hl 5 rfl) ?_
                                                          refine lv_iconst (v := 0) B.1 B.2.1 dL_law_1580 (by decide) ?_
                                                          have q401 := hw.1
                                                          replace hw := hw.2
                                                          refine r_lald B hN hH (kb3) q401 dL_law_1581 ?_
                                                          refine lv_iload B.1 B.2.1 dL_law_1582 (lv_at hl 0 rfl) ?_
                                                          refine lv_i2l B.1 B.2.1 dL_law_1584 rfl ?_
                                                          refine W.lcmp B.1 B.2.1 dL_law_1585 ?_
                                                          refine lv_if_eq (tgt := 1591) B.1 B.2.1 dL_law_1586 (by decide) (fun c402 => ?_) (fun c402 => ?_)
                                                          · replace hw := hw.1 c402
                                                            refine lv_goto (tgt := 2055) B.1 B.2.1 dL_law_1591 (by decide) ?_
                                                            obtain ⟨x403, ex403⟩ : ∃ y : Int32, y = b4 + 5 := ⟨_, rfl⟩
                                                            replace hw := hw x403 ex403
                                                            refine lv_iinc (v := x403) (lv' := [(4, .int x403), (6, .int r395), (5, .int r390), (0, .ref b), (1, .ref (zA Z b1)), (2, .ref (zA Z b2)), (3, .ref (zA Z b3))]) B.1 B.2.1 dL_law_2055 hl (k := 6) rfl (by rw [ex403]; rfl) (by decide) (by first | rfl | simp [va_re_cat, Value.category]) ?_
                                                            clear hl
                                                            intro ls hl
                                                            refine lv_goto (tgt := 23) B.1 B.2.1 dL_law_2058 (by decide) ?_
                                                            exact ih x403 h396 (cells + 1) (slots + 6) _ _ _ (by omega) (by omega) hw hH (lv_sub hl [3, 4, 5, 6, 0] rfl)
                                                          · replace hw := hw.2 c402
                                                            refine lv_iconst (v := 0) B.1 B.2.1 dL_law_1589 (by decide) ?_
                                                            exact absurd (hQ _ _ hw) (by decide)
                                                      · replace hw := hw.2 c398
                                                        refine lv_iconst (v := 0) B.1 B.2.1 dL_law_1572 (by decide) ?_
                                                        exact absurd (hQ _ _ hw) (by decide)
                                                    · by_cases c404 : (x3 = 23)
                                                      · replace hw := hw.2.2.2.2.2.2.2.2.2.2.2.2.2.2.2.2.2.2.2.2.2.2.2.1 c404
                                                        refine lv_tableIn (off := 1555) (tgt := 1594) B.1 B.2.1 dL_law_39 (by rw [c404]; decide) (by rw [c404]; decide) (by rw [c404]; rfl) (by decide) ?_
                                                        refine lv_aload_n B.1 B.2.1 dL_law_1594 rfl (lv_at hl 1 rfl) ?_
                                                        refine c_V_I (own := RL) (As := []) (rest := []) B hH (cy_X7_meetAll B.2.2.2.2.1) (ct_X7_meetAll B.2.2.2.2.2.2.2 l b1 h _ _ (kb1) hw) ⟨⟨rfl, rfl⟩, Nat.le_of_ble_eq_true rfl, Nat.le_of_ble_eq_true rfl, (by show cells ≤ 601024; omega), (by show slots ≤ 7293034; omega)⟩ (rv_1 B hH (kb1)) (tv_311 B.2.2.2.2.1) rfl hl.1 rfl (Nat.le_of_ble_eq_true rfl) dL_law_1595 ?_
                                                        clear hw hH
                                                        intro r406 h405 H locs hw hH
                                                        refine lv_aload_n B.1 B.2.1 dL_law_1598 rfl (lv_at hl 2 rfl) ?_
                                                        refine c_V_I (own := RL) (As := []) (rest := [.int r406]) B hH (cy_X8_meetAll B.2.2.2.2.1) (ct_X8_meetAll B.2.2.2.2.2.2.2 l b2 h405 _ _ (kb2) hw) ⟨⟨rfl, rfl⟩, Nat.le_of_ble_eq_true rfl, Nat.le_of_ble_eq_true rfl, (by show cells ≤ 601024; omega), (by show slots ≤ 7293034; omega)⟩ (rv_8 B hH (kb2)) (tv_1254 B.2.2.2.2.1) rfl hl.1 rfl (Nat.le_of_ble_eq_true rfl) dL_law_1599 ?_
                                                        clear hw hH
                                                        intro r408 h407 H locs hw hH
                                                        refine lv_icmp_eq (tgt := 2055) B.1 B.2.1 dL_law_1602 (by decide) (fun c409 => ?_) (fun c409 => ?_)
                                                        · replace hw := hw.1 c409
                                                          obtain ⟨x410, ex410⟩ : ∃ y : Int32, y = b4 + 5 := ⟨_, rfl⟩
                                                          replace hw := hw x410 ex410
                                                          refine lv_iinc (v := x410) (lv' := [(4, .int x410), (0, .ref b), (1, .ref (zA Z b1)), (2, .ref (zA Z b2)), (3, .ref (zA Z b3))]) B.1 B.2.1 dL_law_2055 hl (k := 4) rfl (by rw [ex410]; rfl) (by decide) (by first | rfl | simp [va_re_cat, Value.category]) ?_
                                                          clear hl
                                                          intro ls hl
                                                          refine lv_goto (tgt := 23) B.1 B.2.1 dL_law_2058 (by decide) ?_
                                                          exact ih x410 h407 cells slots _ _ _ (by omega) (by omega) hw hH (lv_sub hl [1, 2, 3, 4, 0] rfl)
                                                        · replace hw := hw.2 c409
                                                          refine lv_iconst (v := 0) B.1 B.2.1 dL_law_1605 (by decide) ?_
                                                          exact absurd (hQ _ _ hw) (by decide)
                                                      · by_cases c411 : (x3 = 24)
                                                        · replace hw := hw.2.2.2.2.2.2.2.2.2.2.2.2.2.2.2.2.2.2.2.2.2.2.2.2.1 c411
                                                          refine lv_tableIn (off := 1568) (tgt := 1607) B.1 B.2.1 dL_law_39 (by rw [c411]; decide) (by rw [c411]; decide) (by rw [c411]; rfl) (by decide) ?_
                                                          refine lv_aload_n B.1 B.2.1 dL_law_1607 rfl (lv_at hl 1 rfl) ?_
                                                          refine lv_aload_n B.1 B.2.1 dL_law_1608 rfl (lv_at hl 0 rfl) ?_
                                                          refine lv_iload B.1 B.2.1 dL_law_1609 (lv_at hl 4 rfl) ?_
                                                          refine lv_iconst (v := 1) B.1 B.2.1 dL_law_1611 (by decide) ?_
                                                          refine lv_iadd B.1 B.2.1 dL_law_1612 ?_
                                                          have q412 := hw.1
                                                          replace hw := hw.2
                                                          refine va_sld B.1 B.2.1 hX hbl hbA hH.2 q412 dL_law_1613 ?_
                                                          refine lv_aload_n B.1 B.2.1 dL_law_1614 rfl (lv_at hl 0 rfl) ?_
                                                          refine lv_iload B.1 B.2.1 dL_law_1615 (lv_at hl 4 rfl) ?_
                                                          refine lv_iconst (v := 2) B.1 B.2.1 dL_law_1617 (by decide) ?_
                                                          refine lv_iadd B.1 B.2.1 dL_law_1618 ?_
                                                          have q413 := hw.1
                                                          replace hw := hw.2
                                                          refine va_sld B.1 B.2.1 hX hbl hbA hH.2 q413 dL_law_1619 ?_
                                                          refine lv_aload_n B.1 B.2.1 dL_law_1620 rfl (lv_at hl 3 rfl) ?_
                                                          refine w_call (own := RL) (As := [.ref (zA Z b1), .int (xs (b4 + 1).toNatClampNeg), .int (xs (b4 + 2).toNatClampNeg), .ref (zA Z b3)]) (rest := []) B hH hB (cy_L_loudest B.2.2.2.2.1) (ct_L_loudest B.2.2.2.2.2.2.2 l hB.2.2.2 hN b1 (xs (b4 + 1).toNatClampNeg) (xs (b4 + 2).toNatClampNeg) b3 h _ _ (kb1) (kb3) hw) ⟨⟨rfl, rfl⟩, Nat.le_of_ble_eq_true rfl, Nat.le_of_ble_eq_true rfl, (by show cells + 1 ≤ 601024; omega), (by show slots + 6 ≤ 7293034; omega)⟩ (tv_876 B.2.2.2.2.1) rfl hl.1 rfl (Nat.le_of_ble_eq_true rfl) dL_law_1621 ?_
                                                          clear hw hH
                                                          intro r415 h414 H locs hw hH
                                                          refine lv_istore (lv' := [(5, .int r415), (0, .ref b), (1, .ref (zA Z b1)), (2, .ref (zA Z b2)), (3, .ref (zA Z b3)), (4, .int b4)]) B.1 B.2.1 dL_law_1624 hl (by decide) (by first | rfl | simp [va_re_cat, Value.category]) ?_
                                                          clear hl
                                                          intro ls hl
                                                          refine lv_aload_n B.1 B.2.1 dL_law_1626 rfl (lv_at hl 3 rfl) ?_
                                                          refine lv_aload_n B.1 B.2.1 dL_law_1627 rfl (lv_at hl 1 rfl) ?_
                                                          refine lv_iload B.1 B.2.1 dL_law_1628 (lv_at hl 5 rfl) ?_
                                                          refine lv_iconst (v := 1) B.1 B.2.1 dL_law_1630 (by decide) ?_
                                                          refine lv_iadd B.1 B.2.1 dL_law_1631 ?_
                                                          have q416 := hw.1
                                                          replace hw := hw.2
                                                          refine va_sld B.1 B.2.1 hX hbl hbA hH.2 q416 dL_law_1632 ?_
                                                          refine lv_aload_n B.1 B.2.1 dL_law_1633 rfl (lv_at hl 1 rfl) ?_
                                                          refine lv_iload B.1 B.2.1 dL_law_1634 (lv_at hl 5 rfl) ?_
                                                          refine lv_iconst (v := 2) B.1 B.2.1 dL_law_1636 (by decide) ?_
                                                          refine lv_iadd B.1 B.2.1 dL_law_1637 ?_
                                                          have q417 := hw.1
                                                          replace hw := hw.2
                                                          refine va_sld B.1 B.2.1 hX hbl hbA hH.2 q417 dL_law_1638 ?_
                                                          refine c_V_I (own := RL) (As := [.int (xs (b4 + 1).toNatClampNeg), .int (xs (b4 + 2).toNatClampNeg)]) (rest := []) B hH (cy_X8_loudest B.2.2.2.2.1) (ct_X8_loudest B.2.2.2.2.2.2.2 l b2 (xs (b4 + 1).toNatClampNeg) (xs (b4 + 2).toNatClampNeg) h414 _ _ (kb2) hw) ⟨⟨rfl, rfl⟩, Nat.le_of_ble_eq_true rfl, Nat.le_of_ble_eq_true rfl, (by show cells + 1 ≤ 601024; omega), (by show slots + 6 ≤ 7293034; omega)⟩ (rv_8 B hH (kb2)) (tv_1261 B.2.2.2.2.1) rfl hl.1 rfl (Nat.le_of_ble_eq_true rfl) dL_law_1639 ?_
                                                          clear hw hH
                                                          intro r419 h418 H locs hw hH
                                                          refine lv_istore (lv' := [(6, .int r419), (5, .int r415), (0, .ref b), (1, .ref (zA Z b1)), (2, .ref (zA Z b2)), (3, .ref (zA Z b3)), (4, .int b4)]) B.1 B.2.1 dL_law_1642 hl (by decide) (by first | rfl | simp [va_re_cat, Value.category]) ?_
                                                          clear hl
                                                          intro ls hl
                                                          refine lv_aload_n B.1 B.2.1 dL_law_1644 rfl (lv_at hl 4 rfl) ?_
                                                          refine c_V_I (own := RL) (As := []) (rest := []) B hH (cy_X8_thrown B.2.2.2.2.1) (ct_X8_thrown B.2.2.2.2.2.2.2 l b2 h418 _ _ (kb2) hw) ⟨⟨rfl, rfl⟩, Nat.le_of_ble_eq_true rfl, Nat.le_of_ble_eq_true rfl, (by show cells + 1 ≤ 601024; omega), (by show slots + 6 ≤ 7293034; omega)⟩ (rv_8 B hH (kb2)) (tv_1001 B.2.2.2.2.1) rfl hl.1 rfl (Nat.le_of_ble_eq_true rfl) dL_law_1645 ?_
                                                          clear hw hH
                                                          intro r421 h420 H locs hw hH
                                                          refine lv_iload B.1 B.2.1 dL_law_1648 (lv_at hl 1 rfl) ?_
                                                          refine lv_icmp_eq (tgt := 1655) B.1 B.2.1 dL_law_1650 (by decide) (fun c422 => ?_) (fun c422 => ?_)
                                                          · replace hw := hw.1 c422
                                                            refine lv_iload B.1 B.2.1 dL_law_1655 (lv_at hl 1 rfl) ?_
                                                            refine lv_if_ne (tgt := 1672) B.1 B.2.1 dL_law_1657 (by decide) (fun c423 => ?_) (fun c423 => ?_)
                                                            · replace hw := hw.1 c423
                                                              refine lv_goto (tgt := 2055) B.1 B.2.1 dL_law_1672 (by decide) ?_
                                                              obtain ⟨x424, ex424⟩ : ∃ y : Int32, y = b4 + 5 := ⟨_, rfl⟩
                                                              replace hw := hw x424 ex424
                                                              refine lv_iinc (v := x424) (lv' := [(4, .int x424), (6, .int r419), (5, .int r415), (0, .ref b), (1, .ref (zA Z b1)), (2, .ref (zA Z b2)), (3, .ref (zA Z b3))]) B.1 B.2.1 dL_law_2055 hl (k := 6) rfl (by rw [ex424]; rfl) (by decide) (by first | rfl | simp [va_re_cat, Value.category]) ?_
                                                              clear hl
                                                              intro ls hl
                                                              refine lv_goto (tgt := 23) B.1 B.2.1 dL_law_2058 (by decide) ?_
                                                              exact ih x424 h420 (cells + 1) (slots + 6) _ _ _ (by omega) (by omega) hw hH (lv_sub hl [3, 4, 5, 6, 0] rfl)
                                                            · replace hw := hw.2 c423
                                                              refine lv_aload_n B.1 B.2.1 dL_law_1660 rfl (lv_at hl 5 rfl) ?_
                                                              refine lv_iconst (v := 0) B.1 B.2.1 dL_law_1661 (by decide) ?_
                                                              have q425 := hw.1
                                                              replace hw := hw.2
                                                              refine r_lald B hN hH (kb3) q425 dL_law_1662 ?_
                                                              refine lv_iload B.1 B.2.1 dL_law_1663 (lv_at hl 0 rfl) ?_
                                                              refine lv_i2l B.1 B.2.1 dL_law_1665 rfl ?_
                                                              refine W.lcmp B.1 B.2.1 dL_law_1666 ?_
                                                              refine lv_if_eq (tgt := 1672) B.1 B.2.1 dL_law_1667 (by decide) (fun c426 => ?_) (fun c426 => ?_)
                                                              · replace hw := hw.1 c426
                                                                refine lv_goto (tgt := 2055) B.1 B.2.1 dL_law_1672 (by decide) ?_
                                                                obtain ⟨x427, ex427⟩ : ∃ y : Int32, y = b4 + 5 := ⟨_, rfl⟩
                                                                replace hw := hw x427 ex427
                                                                refine lv_iinc (v := x427) (lv' := [(4, .int x427), (6, .int r419), (5, .int r415), (0, .ref b), (1, .ref (zA Z b1)), (2, .ref (zA Z b2)), (3, .ref (zA Z b3))]) B.1 B.2.1 dL_law_2055 hl (k := 6) rfl (by rw [ex427]; rfl) (by decide) (by first | rfl | simp [va_re_cat, Value.category]) ?_
                                                                clear hl
                                                                intro ls hl
                                                                refine lv_goto (tgt := 23) B.1 B.2.1 dL_law_2058 (by decide) ?_
                                                                exact ih x427 h420 (cells + 1) (slots + 6) _ _ _ (by omega) (by omega) hw hH (lv_sub hl [3, 4, 5, 6, 0] rfl)
                                                              · replace hw := hw.2 c426
                                                                refine lv_iconst (v := 0) B.1 B.2.1 dL_law_1670 (by decide) ?_
                                                                exact absurd (hQ _ _ hw) (by decide)
                                                          · replace hw := hw.2 c422
                                                            refine lv_iconst (v := 0) B.1 B.2.1 dL_law_1653 (by decide) ?_
                                                            exact absurd (hQ _ _ hw) (by decide)
                                                        · by_cases c428 : (x3 = 25)
                                                          · replace hw := hw.2.2.2.2.2.2.2.2.2.2.2.2.2.2.2.2.2.2.2.2.2.2.2.2.2.1 c428
                                                            refine lv_tableIn (off := 1636) (tgt := 1675) B.1 B.2.1 dL_law_39 (by rw [c428]; decide) (by rw [c428]; decide) (by rw [c428]; rfl) (by decide) ?_
                                                            refine lv_aload_n B.1 B.2.1 dL_law_1675 rfl (lv_at hl 1 rfl) ?_
                                                            refine lv_aload_n B.1 B.2.1 dL_law_1676 rfl (lv_at hl 0 rfl) ?_
                                                            refine lv_iload B.1 B.2.1 dL_law_1677 (lv_at hl 4 rfl) ?_
                                                            refine lv_iconst (v := 1) B.1 B.2.1 dL_law_1679 (by decide) ?_
                                                            refine lv_iadd B.1 B.2.1 dL_law_1680 ?_
                                                            have q429 := hw.1
                                                            replace hw := hw.2
                                                            refine va_sld B.1 B.2.1 hX hbl hbA hH.2 q429 dL_law_1681 ?_
                                                            refine lv_aload_n B.1 B.2.1 dL_law_1682 rfl (lv_at hl 0 rfl) ?_
                                                            refine lv_iload B.1 B.2.1 dL_law_1683 (lv_at hl 4 rfl) ?_
                                                            refine lv_iconst (v := 2) B.1 B.2.1 dL_law_1685 (by decide) ?_
                                                            refine lv_iadd B.1 B.2.1 dL_law_1686 ?_
                                                            have q430 := hw.1
                                                            replace hw := hw.2
                                                            refine va_sld B.1 B.2.1 hX hbl hbA hH.2 q430 dL_law_1687 ?_
                                                            refine lv_aload_n B.1 B.2.1 dL_law_1688 rfl (lv_at hl 3 rfl) ?_
                                                            refine w_call (own := RL) (As := [.ref (zA Z b1), .int (xs (b4 + 1).toNatClampNeg), .int (xs (b4 + 2).toNatClampNeg), .ref (zA Z b3)]) (rest := []) B hH hB (cy_L_turnedBy B.2.2.2.2.1) (ct_L_turnedBy B.2.2.2.2.2.2.2 l hB.2.2.2 hN b1 (xs (b4 + 1).toNatClampNeg) (xs (b4 + 2).toNatClampNeg) b3 h _ _ (kb1) (kb3) hw) ⟨⟨rfl, rfl⟩, Nat.le_of_ble_eq_true rfl, Nat.le_of_ble_eq_true rfl, (by show cells + 1 ≤ 601024; omega), (by show slots + 6 ≤ 7293034; omega)⟩ (tv_884 B.2.2.2.2.1) rfl hl.1 rfl (Nat.le_of_ble_eq_true rfl) dL_law_1689 ?_
                                                            clear hw hH
                                                            intro r432 h431 H locs hw hH
                                                            refine lv_istore (lv' := [(5, .int r432), (0, .ref b), (1, .ref (zA Z b1)), (2, .ref (zA Z b2)), (3, .ref (zA Z b3)), (4, .int b4)]) B.1 B.2.1 dL_law_1692 hl (by decide) (by first | rfl | simp [va_re_cat, Value.category]) ?_
                                                            clear hl
                                                            intro ls hl
                                                            refine lv_aload_n B.1 B.2.1 dL_law_1694 rfl (lv_at hl 3 rfl) ?_
                                                            refine lv_aload_n B.1 B.2.1 dL_law_1695 rfl (lv_at hl 1 rfl) ?_
                                                            refine lv_iload B.1 B.2.1 dL_law_1696 (lv_at hl 5 rfl) ?_
                                                            refine lv_iconst (v := 1) B.1 B.2.1 dL_law_1698 (by decide) ?_
                                                            refine lv_iadd B.1 B.2.1 dL_law_1699 ?_
                                                            have q433 := hw.1
                                                            replace hw := hw.2
                                                            refine va_sld B.1 B.2.1 hX hbl hbA hH.2 q433 dL_law_1700 ?_
                                                            refine lv_aload_n B.1 B.2.1 dL_law_1701 rfl (lv_at hl 1 rfl) ?_
                                                            refine lv_iload B.1 B.2.1 dL_law_1702 (lv_at hl 5 rfl) ?_
                                                            refine lv_iconst (v := 2) B.1 B.2.1 dL_law_1704 (by decide) ?_
                                                            refine lv_iadd B.1 B.2.1 dL_law_1705 ?_
                                                            have q434 := hw.1
                                                            replace hw := hw.2
                                                            refine va_sld B.1 B.2.1 hX hbl hbA hH.2 q434 dL_law_1706 ?_
                                                            refine c_V_I (own := RL) (As := [.int (xs (b4 + 1).toNatClampNeg), .int (xs (b4 + 2).toNatClampNeg)]) (rest := []) B hH (cy_X8_turnedBy B.2.2.2.2.1) (ct_X8_turnedBy B.2.2.2.2.2.2.2 l b2 (xs (b4 + 1).toNatClampNeg) (xs (b4 + 2).toNatClampNeg) h431 _ _ (kb2) hw) ⟨⟨rfl, rfl⟩, Nat.le_of_ble_eq_true rfl, Nat.le_of_ble_eq_true rfl, (by show cells + 1 ≤ 601024; omega), (by show slots + 6 ≤ 7293034; omega)⟩ (rv_8 B hH (kb2)) (tv_1266 B.2.2.2.2.1) rfl hl.1 rfl (Nat.le_of_ble_eq_true rfl) dL_law_1707 ?_
                                                            clear hw hH
                                                            intro r436 h435 H locs hw hH
                                                            refine lv_istore (lv' := [(6, .int r436), (5, .int r432), (0, .ref b), (1, .ref (zA Z b1)), (2, .ref (zA Z b2)), (3, .ref (zA Z b3)), (4, .int b4)]) B.1 B.2.1 dL_law_1710 hl (by decide) (by first | rfl | simp [va_re_cat, Value.category]) ?_
                                                            clear hl
                                                            intro ls hl
                                                            refine lv_aload_n B.1 B.2.1 dL_law_1712 rfl (lv_at hl 4 rfl) ?_
                                                            refine c_V_I (own := RL) (As := []) (rest := []) B hH (cy_X8_thrown B.2.2.2.2.1) (ct_X8_thrown B.2.2.2.2.2.2.2 l b2 h435 _ _ (kb2) hw) ⟨⟨rfl, rfl⟩, Nat.le_of_ble_eq_true rfl, Nat.le_of_ble_eq_true rfl, (by show cells + 1 ≤ 601024; omega), (by show slots + 6 ≤ 7293034; omega)⟩ (rv_8 B hH (kb2)) (tv_1001 B.2.2.2.2.1) rfl hl.1 rfl (Nat.le_of_ble_eq_true rfl) dL_law_1713 ?_
                                                            clear hw hH
                                                            intro r438 h437 H locs hw hH
                                                            refine lv_iload B.1 B.2.1 dL_law_1716 (lv_at hl 1 rfl) ?_
                                                            refine lv_icmp_eq (tgt := 1723) B.1 B.2.1 dL_law_1718 (by decide) (fun c439 => ?_) (fun c439 => ?_)
                                                            · replace hw := hw.1 c439
                                                              refine lv_iload B.1 B.2.1 dL_law_1723 (lv_at hl 1 rfl) ?_
                                                              refine lv_if_ne (tgt := 1740) B.1 B.2.1 dL_law_1725 (by decide) (fun c440 => ?_) (fun c440 => ?_)
                                                              · replace hw := hw.1 c440
                                                                refine lv_goto (tgt := 2055) B.1 B.2.1 dL_law_1740 (by decide) ?_
                                                                obtain ⟨x441, ex441⟩ : ∃ y : Int32, y = b4 + 5 := ⟨_, rfl⟩
                                                                replace hw := hw x441 ex441
                                                                refine lv_iinc (v := x441) (lv' := [(4, .int x441), (6, .int r436), (5, .int r432), (0, .ref b), (1, .ref (zA Z b1)), (2, .ref (zA Z b2)), (3, .ref (zA Z b3))]) B.1 B.2.1 dL_law_2055 hl (k := 6) rfl (by rw [ex441]; rfl) (by decide) (by first | rfl | simp [va_re_cat, Value.category]) ?_
                                                                clear hl
                                                                intro ls hl
                                                                refine lv_goto (tgt := 23) B.1 B.2.1 dL_law_2058 (by decide) ?_
                                                                exact ih x441 h437 (cells + 1) (slots + 6) _ _ _ (by omega) (by omega) hw hH (lv_sub hl [3, 4, 5, 6, 0] rfl)
                                                              · replace hw := hw.2 c440
                                                                refine lv_aload_n B.1 B.2.1 dL_law_1728 rfl (lv_at hl 5 rfl) ?_
                                                                refine lv_iconst (v := 0) B.1 B.2.1 dL_law_1729 (by decide) ?_
                                                                have q442 := hw.1
                                                                replace hw := hw.2
                                                                refine r_lald B hN hH (kb3) q442 dL_law_1730 ?_
                                                                refine lv_iload B.1 B.2.1 dL_law_1731 (lv_at hl 0 rfl) ?_
                                                                refine lv_i2l B.1 B.2.1 dL_law_1733 rfl ?_
                                                                refine W.lcmp B.1 B.2.1 dL_law_1734 ?_
                                                                refine lv_if_eq (tgt := 1740) B.1 B.2.1 dL_law_1735 (by decide) (fun c443 => ?_) (fun c443 => ?_)
                                                                · replace hw := hw.1 c443
                                                                  refine lv_goto (tgt := 2055) B.1 B.2.1 dL_law_1740 (by decide) ?_
                                                                  obtain ⟨x444, ex444⟩ : ∃ y : Int32, y = b4 + 5 := ⟨_, rfl⟩
                                                                  replace hw := hw x444 ex444
                                                                  refine lv_iinc (v := x444) (lv' := [(4, .int x444), (6, .int r436), (5, .int r432), (0, .ref b), (1, .ref (zA Z b1)), (2, .ref (zA Z b2)), (3, .ref (zA Z b3))]) B.1 B.2.1 dL_law_2055 hl (k := 6) rfl (by rw [ex444]; rfl) (by decide) (by first | rfl | simp [va_re_cat, Value.category]) ?_
                                                                  clear hl
                                                                  intro ls hl
                                                                  refine lv_goto (tgt := 23) B.1 B.2.1 dL_law_2058 (by decide) ?_
                                                                  exact ih x444 h437 (cells + 1) (slots + 6) _ _ _ (by omega) (by omega) hw hH (lv_sub hl [3, 4, 5, 6, 0] rfl)
                                                                · replace hw := hw.2 c443
                                                                  refine lv_iconst (v := 0) B.1 B.2.1 dL_law_1738 (by decide) ?_
                                                                  exact absurd (hQ _ _ hw) (by decide)
                                                            · replace hw := hw.2 c439
                                                              refine lv_iconst (v := 0) B.1 B.2.1 dL_law_1721 (by decide) ?_
                                                              exact absurd (hQ _ _ hw) (by decide)
                                                          · by_cases c445 : (x3 = 26)
                                                            · replace hw := hw.2.2.2.2.2.2.2.2.2.2.2.2.2.2.2.2.2.2.2.2.2.2.2.2.2.2.1 c445
                                                              refine lv_tableIn (off := 1704) (tgt := 1743) B.1 B.2.1 dL_law_39 (by rw [c445]; decide) (by rw [c445]; decide) (by rw [c445]; rfl) (by decide) ?_
                                                              refine lv_aload_n B.1 B.2.1 dL_law_1743 rfl (lv_at hl 1 rfl) ?_
                                                              refine lv_aload_n B.1 B.2.1 dL_law_1744 rfl (lv_at hl 0 rfl) ?_
                                                              refine lv_iload B.1 B.2.1 dL_law_1745 (lv_at hl 4 rfl) ?_
                                                              refine lv_iconst (v := 1) B.1 B.2.1 dL_law_1747 (by decide) ?_
                                                              refine lv_iadd B.1 B.2.1 dL_law_1748 ?_
                                                              have q446 := hw.1
                                                              replace hw := hw.2
                                                              refine va_sld B.1 B.2.1 hX hbl hbA hH.2 q446 dL_law_1749 ?_
                                                              refine lv_aload_n B.1 B.2.1 dL_law_1750 rfl (lv_at hl 0 rfl) ?_
                                                              refine lv_iload B.1 B.2.1 dL_law_1751 (lv_at hl 4 rfl) ?_
                                                              refine lv_iconst (v := 2) B.1 B.2.1 dL_law_1753 (by decide) ?_
                                                              refine lv_iadd B.1 B.2.1 dL_law_1754 ?_
                                                              have q447 := hw.1
                                                              replace hw := hw.2
                                                              refine va_sld B.1 B.2.1 hX hbl hbA hH.2 q447 dL_law_1755 ?_
                                                              refine lv_i2l B.1 B.2.1 dL_law_1756 rfl ?_
                                                              refine lv_bipush (v := 32) B.1 B.2.1 dL_law_1757 (by decide) ?_
                                                              refine lv_lshl (v := jlshl ((xs (b4 + 2).toNatClampNeg).toInt64) 32) B.1 B.2.1 dL_law_1759 rfl ?_
                                                              refine lv_aload_n B.1 B.2.1 dL_law_1760 rfl (lv_at hl 0 rfl) ?_
                                                              refine lv_iload B.1 B.2.1 dL_law_1761 (lv_at hl 4 rfl) ?_
                                                              refine lv_iconst (v := 3) B.1 B.2.1 dL_law_1763 (by decide) ?_
                                                              refine lv_iadd B.1 B.2.1 dL_law_1764 ?_
                                                              have q448 := hw.1
                                                              replace hw := hw.2
                                                              refine va_sld B.1 B.2.1 hX hbl hbA hH.2 q448 dL_law_1765 ?_
                                                              refine lv_i2l B.1 B.2.1 dL_law_1766 rfl ?_
                                                              refine lv_ldc2 (own := RL) B.1 B.2.1 B.2.2.2.1 (tv_1307 B.2.2.2.2.1) dL_law_1767 ?_
                                                              refine lv_land B.1 B.2.1 dL_law_1770 ?_
                                                              refine lv_lor B.1 B.2.1 dL_law_1771 ?_
                                                              refine lv_aload_n B.1 B.2.1 dL_law_1772 rfl (lv_at hl 3 rfl) ?_
                                                              refine w_call (own := RL) (As := [.ref (zA Z b1), .int (xs (b4 + 1).toNatClampNeg), .long ((jlshl ((xs (b4 + 2).toNatClampNeg).toInt64) 32) ||| (((xs (b4 + 3).toNatClampNeg).toInt64) &&& 4294967295)), .ref (zA Z b3)]) (rest := []) B hH hB (cy_L_runScript B.2.2.2.2.1) (ct_L_runScript B.2.2.2.2.2.2.2 l hB.2.2.2 hN b1 (xs (b4 + 1).toNatClampNeg) ((jlshl ((xs (b4 + 2).toNatClampNeg).toInt64) 32) ||| (((xs (b4 + 3).toNatClampNeg).toInt64) &&& 4294967295)) b3 h _ _ (kb1) (kb3) hw) ⟨⟨rfl, rfl⟩, Nat.le_of_ble_eq_true rfl, Nat.le_of_ble_eq_true rfl, (by show cells + 1 ≤ 601024; omega), (by show slots + 6 ≤ 7293034; omega)⟩ (tv_895 B.2.2.2.2.1) rfl hl.1 rfl (Nat.le_of_ble_eq_true rfl) dL_law_1773 ?_
                                                              clear hw hH
                                                              intro r450 h449 H locs hw hH
                                                              refine lv_istore (lv' := [(5, .int r450), (0, .ref b), (1, .ref (zA Z b1)), (2, .ref (zA Z b2)), (3, .ref (zA Z b3)), (4, .int b4)]) B.1 B.2.1 dL_law_1776 hl (by decide) (by first | rfl | simp [va_re_cat, Value.category]) ?_
                                                              clear hl
                                                              intro ls hl
                                                              refine lv_aload_n B.1 B.2.1 dL_law_1778 rfl (lv_at hl 3 rfl) ?_
                                                              refine lv_aload_n B.1 B.2.1 dL_law_1779 rfl (lv_at hl 1 rfl) ?_
                                                              refine lv_iload B.1 B.2.1 dL_law_1780 (lv_at hl 5 rfl) ?_
                                                              refine lv_iconst (v := 1) B.1 B.2.1 dL_law_1782 (by decide) ?_
                                                              refine lv_iadd B.1 B.2.1 dL_law_1783 ?_
                                                              have q451 := hw.1
                                                              replace hw := hw.2
                                                              refine va_sld B.1 B.2.1 hX hbl hbA hH.2 q451 dL_law_1784 ?_
                                                              refine lv_aload_n B.1 B.2.1 dL_law_1785 rfl (lv_at hl 1 rfl) ?_
                                                              refine lv_iload B.1 B.2.1 dL_law_1786 (lv_at hl 5 rfl) ?_
                                                              refine lv_iconst (v := 2) B.1 B.2.1 dL_law_1788 (by decide) ?_
                                                              refine lv_iadd B.1 B.2.1 dL_law_1789 ?_
                                                              have q452 := hw.1
                                                              replace hw := hw.2
                                                              refine va_sld B.1 B.2.1 hX hbl hbA hH.2 q452 dL_law_1790 ?_
                                                              refine lv_i2l B.1 B.2.1 dL_law_1791 rfl ?_
                                                              refine lv_bipush (v := 32) B.1 B.2.1 dL_law_1792 (by decide) ?_
                                                              refine lv_lshl (v := jlshl ((xs (b4 + 2).toNatClampNeg).toInt64) 32) B.1 B.2.1 dL_law_1794 rfl ?_
                                                              refine lv_aload_n B.1 B.2.1 dL_law_1795 rfl (lv_at hl 1 rfl) ?_
                                                              refine lv_iload B.1 B.2.1 dL_law_1796 (lv_at hl 5 rfl) ?_
                                                              refine lv_iconst (v := 3) B.1 B.2.1 dL_law_1798 (by decide) ?_
                                                              refine lv_iadd B.1 B.2.1 dL_law_1799 ?_
                                                              have q453 := hw.1
                                                              replace hw := hw.2
                                                              refine va_sld B.1 B.2.1 hX hbl hbA hH.2 q453 dL_law_1800 ?_
                                                              refine lv_i2l B.1 B.2.1 dL_law_1801 rfl ?_
                                                              refine lv_ldc2 (own := RL) B.1 B.2.1 B.2.2.2.1 (tv_1307 B.2.2.2.2.1) dL_law_1802 ?_
                                                              refine lv_land B.1 B.2.1 dL_law_1805 ?_
                                                              refine lv_lor B.1 B.2.1 dL_law_1806 ?_
                                                              refine c_V_I (own := RL) (As := [.int (xs (b4 + 1).toNatClampNeg), .long ((jlshl ((xs (b4 + 2).toNatClampNeg).toInt64) 32) ||| (((xs (b4 + 3).toNatClampNeg).toInt64) &&& 4294967295))]) (rest := []) B hH (cy_X8_runScript B.2.2.2.2.1) (ct_X8_runScript B.2.2.2.2.2.2.2 l b2 (xs (b4 + 1).toNatClampNeg) ((jlshl ((xs (b4 + 2).toNatClampNeg).toInt64) 32) ||| (((xs (b4 + 3).toNatClampNeg).toInt64) &&& 4294967295)) h449 _ _ (kb2) hw) ⟨⟨rfl, rfl⟩, Nat.le_of_ble_eq_true rfl, Nat.le_of_ble_eq_true rfl, (by show cells + 1 ≤ 601024; omega), (by show slots + 6 ≤ 7293034; omega)⟩ (rv_8 B hH (kb2)) (tv_1273 B.2.2.2.2.1) rfl hl.1 rfl (Nat.le_of_ble_eq_true rfl) dL_law_1807 ?_
                                                              clear hw hH
                                                              intro r455 h454 H locs hw hH
                                                              refine lv_istore (lv' := [(6, .int r455), (5, .int r450), (0, .ref b), (1, .ref (zA Z b1)), (2, .ref (zA Z b2)), (3, .ref (zA Z b3)), (4, .int b4)]) B.1 B.2.1 dL_law_1810 hl (by decide) (by first | rfl | simp [va_re_cat, Value.category]) ?_
                                                              clear hl
                                                              intro ls hl
                                                              refine lv_aload_n B.1 B.2.1 dL_law_1812 rfl (lv_at hl 4 rfl) ?_
                                                              refine c_V_I (own := RL) (As := []) (rest := []) B hH (cy_X8_thrown B.2.2.2.2.1) (ct_X8_thrown B.2.2.2.2.2.2.2 l b2 h454 _ _ (kb2) hw) ⟨⟨rfl, rfl⟩, Nat.le_of_ble_eq_true rfl, Nat.le_of_ble_eq_true rfl, (by show cells + 1 ≤ 601024; omega), (by show slots + 6 ≤ 7293034; omega)⟩ (rv_8 B hH (kb2)) (tv_1001 B.2.2.2.2.1) rfl hl.1 rfl (Nat.le_of_ble_eq_true rfl) dL_law_1813 ?_
                                                              clear hw hH
                                                              intro r457 h456 H locs hw hH
                                                              refine lv_iload B.1 B.2.1 dL_law_1816 (lv_at hl 1 rfl) ?_
                                                              refine lv_icmp_eq (tgt := 1823) B.1 B.2.1 dL_law_1818 (by decide) (fun c458 => ?_) (fun c458 => ?_)
                                                              · replace hw := hw.1 c458
                                                                refine lv_iload B.1 B.2.1 dL_law_1823 (lv_at hl 1 rfl) ?_
                                                                refine lv_if_ne (tgt := 1840) B.1 B.2.1 dL_law_1825 (by decide) (fun c459 => ?_) (fun c459 => ?_)
                                                                · replace hw := hw.1 c459
                                                                  refine lv_goto (tgt := 2055) B.1 B.2.1 dL_law_1840 (by decide) ?_
                                                                  obtain ⟨x460, ex460⟩ : ∃ y : Int32, y = b4 + 5 := ⟨_, rfl⟩
                                                                  replace hw := hw x460 ex460
                                                                  refine lv_iinc (v := x460) (lv' := [(4, .int x460), (6, .int r455), (5, .int r450), (0, .ref b), (1, .ref (zA Z b1)), (2, .ref (zA Z b2)), (3, .ref (zA Z b3))]) B.1 B.2.1 dL_law_2055 hl (k := 6) rfl (by rw [ex460]; rfl) (by decide) (by first | rfl | simp [va_re_cat, Value.category]) ?_
                                                                  clear hl
                                                                  intro ls hl
                                                                  refine lv_goto (tgt := 23) B.1 B.2.1 dL_law_2058 (by decide) ?_
                                                                  exact ih x460 h456 (cells + 1) (slots + 6) _ _ _ (by omega) (by omega) hw hH (lv_sub hl [3, 4, 5, 6, 0] rfl)
                                                                · replace hw := hw.2 c459
                                                                  refine lv_aload_n B.1 B.2.1 dL_law_1828 rfl (lv_at hl 5 rfl) ?_
                                                                  refine lv_iconst (v := 0) B.1 B.2.1 dL_law_1829 (by decide) ?_
                                                                  have q461 := hw.1
                                                                  replace hw := hw.2
                                                                  refine r_lald B hN hH (kb3) q461 dL_law_1830 ?_
                                                                  refine lv_iload B.1 B.2.1 dL_law_1831 (lv_at hl 0 rfl) ?_
                                                                  refine lv_i2l B.1 B.2.1 dL_law_1833 rfl ?_
                                                                  refine W.lcmp B.1 B.2.1 dL_law_1834 ?_
                                                                  refine lv_if_eq (tgt := 1840) B.1 B.2.1 dL_law_1835 (by decide) (fun c462 => ?_) (fun c462 => ?_)
                                                                  · replace hw := hw.1 c462
                                                                    refine lv_goto (tgt := 2055) B.1 B.2.1 dL_law_1840 (by decide) ?_
                                                                    obtain ⟨x463, ex463⟩ : ∃ y : Int32, y = b4 + 5 := ⟨_, rfl⟩
                                                                    replace hw := hw x463 ex463
                                                                    refine lv_iinc (v := x463) (lv' := [(4, .int x463), (6, .int r455), (5, .int r450), (0, .ref b), (1, .ref (zA Z b1)), (2, .ref (zA Z b2)), (3, .ref (zA Z b3))]) B.1 B.2.1 dL_law_2055 hl (k := 6) rfl (by rw [ex463]; rfl) (by decide) (by first | rfl | simp [va_re_cat, Value.category]) ?_
                                                                    clear hl
                                                                    intro ls hl
                                                                    refine lv_goto (tgt := 23) B.1 B.2.1 dL_law_2058 (by decide) ?_
                                                                    exact ih x463 h456 (cells + 1) (slots + 6) _ _ _ (by omega) (by omega) hw hH (lv_sub hl [3, 4, 5, 6, 0] rfl)
                                                                  · replace hw := hw.2 c462
                                                                    refine lv_iconst (v := 0) B.1 B.2.1 dL_law_1838 (by decide) ?_
                                                                    exact absurd (hQ _ _ hw) (by decide)
                                                              · replace hw := hw.2 c458
                                                                refine lv_iconst (v := 0) B.1 B.2.1 dL_law_1821 (by decide) ?_
                                                                exact absurd (hQ _ _ hw) (by decide)
                                                            · by_cases c464 : (x3 = 27)
                                                              · replace hw := hw.2.2.2.2.2.2.2.2.2.2.2.2.2.2.2.2.2.2.2.2.2.2.2.2.2.2.2.1 c464
                                                                refine lv_tableIn (off := 1804) (tgt := 1843) B.1 B.2.1 dL_law_39 (by rw [c464]; decide) (by rw [c464]; decide) (by rw [c464]; rfl) (by decide) ?_
                                                                refine lv_aload_n B.1 B.2.1 dL_law_1843 rfl (lv_at hl 1 rfl) ?_
                                                                refine lv_aload_n B.1 B.2.1 dL_law_1844 rfl (lv_at hl 0 rfl) ?_
                                                                refine lv_iload B.1 B.2.1 dL_law_1845 (lv_at hl 4 rfl) ?_
                                                                refine lv_iconst (v := 1) B.1 B.2.1 dL_law_1847 (by decide) ?_
                                                                refine lv_iadd B.1 B.2.1 dL_law_1848 ?_
                                                                have q465 := hw.1
                                                                replace hw := hw.2
                                                                refine va_sld B.1 B.2.1 hX hbl hbA hH.2 q465 dL_law_1849 ?_
                                                                refine lv_i2l B.1 B.2.1 dL_law_1850 rfl ?_
                                                                refine lv_bipush (v := 32) B.1 B.2.1 dL_law_1851 (by decide) ?_
                                                                refine lv_lshl (v := jlshl ((xs (b4 + 1).toNatClampNeg).toInt64) 32) B.1 B.2.1 dL_law_1853 rfl ?_
                                                                refine lv_aload_n B.1 B.2.1 dL_law_1854 rfl (lv_at hl 0 rfl) ?_
                                                                refine lv_iload B.1 B.2.1 dL_law_1855 (lv_at hl 4 rfl) ?_
                                                                refine lv_iconst (v := 2) B.1 B.2.1 dL_law_1857 (by decide) ?_
                                                                refine lv_iadd B.1 B.2.1 dL_law_1858 ?_
                                                                have q466 := hw.1
                                                                replace hw := hw.2
                                                                refine va_sld B.1 B.2.1 hX hbl hbA hH.2 q466 dL_law_1859 ?_
                                                                refine lv_i2l B.1 B.2.1 dL_law_1860 rfl ?_
                                                                refine lv_ldc2 (own := RL) B.1 B.2.1 B.2.2.2.1 (tv_1307 B.2.2.2.2.1) dL_law_1861 ?_
                                                                refine lv_land B.1 B.2.1 dL_law_1864 ?_
                                                                refine lv_lor B.1 B.2.1 dL_law_1865 ?_
                                                                refine lv_aload_n B.1 B.2.1 dL_law_1866 rfl (lv_at hl 0 rfl) ?_
                                                                refine lv_iload B.1 B.2.1 dL_law_1867 (lv_at hl 4 rfl) ?_
                                                                refine lv_iconst (v := 3) B.1 B.2.1 dL_law_1869 (by decide) ?_
                                                                refine lv_iadd B.1 B.2.1 dL_law_1870 ?_
                                                                have q467 := hw.1
                                                                replace hw := hw.2
                                                                refine va_sld B.1 B.2.1 hX hbl hbA hH.2 q467 dL_law_1871 ?_
                                                                refine lv_aload_n B.1 B.2.1 dL_law_1872 rfl (lv_at hl 3 rfl) ?_
                                                                refine w_call (own := RL) (As := [.ref (zA Z b1), .long ((jlshl ((xs (b4 + 1).toNatClampNeg).toInt64) 32) ||| (((xs (b4 + 2).toNatClampNeg).toInt64) &&& 4294967295)), .int (xs (b4 + 3).toNatClampNeg), .ref (zA Z b3)]) (rest := []) B hH hB (cy_L_simulate B.2.2.2.2.1) (ct_L_simulate B.2.2.2.2.2.2.2 l hB.2.2.2 hN b1 ((jlshl ((xs (b4 + 1).toNatClampNeg).toInt64) 32) ||| (((xs (b4 + 2).toNatClampNeg).toInt64) &&& 4294967295)) (xs (b4 + 3).toNatClampNeg) b3 h _ _ (kb1) (kb3) hw) ⟨⟨rfl, rfl⟩, Nat.le_of_ble_eq_true rfl, Nat.le_of_ble_eq_true rfl, (by show cells + 1 ≤ 601024; omega), (by show slots + 6 ≤ 7293034; omega)⟩ (tv_923 B.2.2.2.2.1) rfl hl.1 rfl (Nat.le_of_ble_eq_true rfl) dL_law_1873 ?_
                                                                clear hw hH
                                                                intro r469 h468 H locs hw hH
                                                                refine lv_istore (lv' := [(5, .int r469), (0, .ref b), (1, .ref (zA Z b1)), (2, .ref (zA Z b2)), (3, .ref (zA Z b3)), (4, .int b4)]) B.1 B.2.1 dL_law_1876 hl (by decide) (by first | rfl | simp [va_re_cat, Value.category]) ?_
                                                                clear hl
                                                                intro ls hl
                                                                refine lv_aload_n B.1 B.2.1 dL_law_1878 rfl (lv_at hl 3 rfl) ?_
                                                                refine lv_aload_n B.1 B.2.1 dL_law_1879 rfl (lv_at hl 1 rfl) ?_
                                                                refine lv_iload B.1 B.2.1 dL_law_1880 (lv_at hl 5 rfl) ?_
                                                                refine lv_iconst (v := 1) B.1 B.2.1 dL_law_1882 (by decide) ?_
                                                                refine lv_iadd B.1 B.2.1 dL_law_1883 ?_
                                                                have q470 := hw.1
                                                                replace hw := hw.2
                                                                refine va_sld B.1 B.2.1 hX hbl hbA hH.2 q470 dL_law_1884 ?_
                                                                refine lv_i2l B.1 B.2.1 dL_law_1885 rfl ?_
                                                                refine lv_bipush (v := 32) B.1 B.2.1 dL_law_1886 (by decide) ?_
                                                                refine lv_lshl (v := jlshl ((xs (b4 + 1).toNatClampNeg).toInt64) 32) B.1 B.2.1 dL_law_1888 rfl ?_
                                                                refine lv_aload_n B.1 B.2.1 dL_law_1889 rfl (lv_at hl 1 rfl) ?_
                                                                refine lv_iload B.1 B.2.1 dL_law_1890 (lv_at hl 5 rfl) ?_
                                                                refine lv_iconst (v := 2) B.1 B.2.1 dL_law_1892 (by decide) ?_
                                                                refine lv_iadd B.1 B.2.1 dL_law_1893 ?_
                                                                have q471 := hw.1
                                                                replace hw := hw.2
                                                                refine va_sld B.1 B.2.1 hX hbl hbA hH.2 q471 dL_law_1894 ?_
                                                                refine lv_i2l B.1 B.2.1 dL_law_1895 rfl ?_
                                                                refine lv_ldc2 (own := RL) B.1 B.2.1 B.2.2.2.1 (tv_1307 B.2.2.2.2.1) dL_law_1896 ?_
                                                                refine lv_land B.1 B.2.1 dL_law_1899 ?_
                                                                refine lv_lor B.1 B.2.1 dL_law_1900 ?_
                                                                refine lv_aload_n B.1 B.2.1 dL_law_1901 rfl (lv_at hl 1 rfl) ?_
                                                                refine lv_iload B.1 B.2.1 dL_law_1902 (lv_at hl 5 rfl) ?_
                                                                refine lv_iconst (v := 3) B.1 B.2.1 dL_law_1904 (by decide) ?_
                                                                refine lv_iadd B.1 B.2.1 dL_law_1905 ?_
                                                                have q472 := hw.1
                                                                replace hw := hw.2
                                                                refine va_sld B.1 B.2.1 hX hbl hbA hH.2 q472 dL_law_1906 ?_
                                                                refine c_V_I (own := RL) (As := [.long ((jlshl ((xs (b4 + 1).toNatClampNeg).toInt64) 32) ||| (((xs (b4 + 2).toNatClampNeg).toInt64) &&& 4294967295)), .int (xs (b4 + 3).toNatClampNeg)]) (rest := []) B hH (cy_X8_simulate B.2.2.2.2.1) (ct_X8_simulate B.2.2.2.2.2.2.2 l b2 ((jlshl ((xs (b4 + 1).toNatClampNeg).toInt64) 32) ||| (((xs (b4 + 2).toNatClampNeg).toInt64) &&& 4294967295)) (xs (b4 + 3).toNatClampNeg) h468 _ _ (kb2) hw) ⟨⟨rfl, rfl⟩, Nat.le_of_ble_eq_true rfl, Nat.le_of_ble_eq_true rfl, (by show cells + 1 ≤ 601024; omega), (by show slots + 6 ≤ 7293034; omega)⟩ (rv_8 B hH (kb2)) (tv_1287 B.2.2.2.2.1) rfl hl.1 rfl (Nat.le_of_ble_eq_true rfl) dL_law_1907 ?_
                                                                clear hw hH
                                                                intro r474 h473 H locs hw hH
                                                                refine lv_istore (lv' := [(6, .int r474), (5, .int r469), (0, .ref b), (1, .ref (zA Z b1)), (2, .ref (zA Z b2)), (3, .ref (zA Z b3)), (4, .int b4)]) B.1 B.2.1 dL_law_1910 hl (by decide) (by first | rfl | simp [va_re_cat, Value.category]) ?_
                                                                clear hl
                                                                intro ls hl
                                                                refine lv_aload_n B.1 B.2.1 dL_law_1912 rfl (lv_at hl 4 rfl) ?_
                                                                refine c_V_I (own := RL) (As := []) (rest := []) B hH (cy_X8_thrown B.2.2.2.2.1) (ct_X8_thrown B.2.2.2.2.2.2.2 l b2 h473 _ _ (kb2) hw) ⟨⟨rfl, rfl⟩, Nat.le_of_ble_eq_true rfl, Nat.le_of_ble_eq_true rfl, (by show cells + 1 ≤ 601024; omega), (by show slots + 6 ≤ 7293034; omega)⟩ (rv_8 B hH (kb2)) (tv_1001 B.2.2.2.2.1) rfl hl.1 rfl (Nat.le_of_ble_eq_true rfl) dL_law_1913 ?_
                                                                clear hw hH
                                                                intro r476 h475 H locs hw hH
                                                                refine lv_iload B.1 B.2.1 dL_law_1916 (lv_at hl 1 rfl) ?_
                                                                refine lv_icmp_eq (tgt := 1923) B.1 B.2.1 dL_law_1918 (by decide) (fun c477 => ?_) (fun c477 => ?_)
                                                                · replace hw := hw.1 c477
                                                                  refine lv_iload B.1 B.2.1 dL_law_1923 (lv_at hl 1 rfl) ?_
                                                                  refine lv_if_ne (tgt := 1940) B.1 B.2.1 dL_law_1925 (by decide) (fun c478 => ?_) (fun c478 => ?_)
                                                                  · replace hw := hw.1 c478
                                                                    refine lv_goto (tgt := 2055) B.1 B.2.1 dL_law_1940 (by decide) ?_
                                                                    obtain ⟨x479, ex479⟩ : ∃ y : Int32, y = b4 + 5 := ⟨_, rfl⟩
                                                                    replace hw := hw x479 ex479
                                                                    refine lv_iinc (v := x479) (lv' := [(4, .int x479), (6, .int r474), (5, .int r469), (0, .ref b), (1, .ref (zA Z b1)), (2, .ref (zA Z b2)), (3, .ref (zA Z b3))]) B.1 B.2.1 dL_law_2055 hl (k := 6) rfl (by rw [ex479]; rfl) (by decide) (by first | rfl | simp [va_re_cat, Value.category]) ?_
                                                                    clear hl
                                                                    intro ls hl
                                                                    refine lv_goto (tgt := 23) B.1 B.2.1 dL_law_2058 (by decide) ?_
                                                                    exact ih x479 h475 (cells + 1) (slots + 6) _ _ _ (by omega) (by omega) hw hH (lv_sub hl [3, 4, 5, 6, 0] rfl)
                                                                  · replace hw := hw.2 c478
                                                                    refine lv_aload_n B.1 B.2.1 dL_law_1928 rfl (lv_at hl 5 rfl) ?_
                                                                    refine lv_iconst (v := 0) B.1 B.2.1 dL_law_1929 (by decide) ?_
                                                                    have q480 := hw.1
                                                                    replace hw := hw.2
                                                                    refine r_lald B hN hH (kb3) q480 dL_law_1930 ?_
                                                                    refine lv_iload B.1 B.2.1 dL_law_1931 (lv_at hl 0 rfl) ?_
                                                                    refine lv_i2l B.1 B.2.1 dL_law_1933 rfl ?_
                                                                    refine W.lcmp B.1 B.2.1 dL_law_1934 ?_
                                                                    refine lv_if_eq (tgt := 1940) B.1 B.2.1 dL_law_1935 (by decide) (fun c481 => ?_) (fun c481 => ?_)
                                                                    · replace hw := hw.1 c481
                                                                      refine lv_goto (tgt := 2055) B.1 B.2.1 dL_law_1940 (by decide) ?_
                                                                      obtain ⟨x482, ex482⟩ : ∃ y : Int32, y = b4 + 5 := ⟨_, rfl⟩
                                                                      replace hw := hw x482 ex482
                                                                      refine lv_iinc (v := x482) (lv' := [(4, .int x482), (6, .int r474), (5, .int r469), (0, .ref b), (1, .ref (zA Z b1)), (2, .ref (zA Z b2)), (3, .ref (zA Z b3))]) B.1 B.2.1 dL_law_2055 hl (k := 6) rfl (by rw [ex482]; rfl) (by decide) (by first | rfl | simp [va_re_cat, Value.category]) ?_
                                                                      clear hl
                                                                      intro ls hl
                                                                      refine lv_goto (tgt := 23) B.1 B.2.1 dL_law_2058 (by decide) ?_
                                                                      exact ih x482 h475 (cells + 1) (slots + 6) _ _ _ (by omega) (by omega) hw hH (lv_sub hl [3, 4, 5, 6, 0] rfl)
                                                                    · replace hw := hw.2 c481
                                                                      refine lv_iconst (v := 0) B.1 B.2.1 dL_law_1938 (by decide) ?_
                                                                      exact absurd (hQ _ _ hw) (by decide)
                                                                · replace hw := hw.2 c477
                                                                  refine lv_iconst (v := 0) B.1 B.2.1 dL_law_1921 (by decide) ?_
                                                                  exact absurd (hQ _ _ hw) (by decide)
                                                              · by_cases c483 : (x3 = 28)
                                                                · replace hw := hw.2.2.2.2.2.2.2.2.2.2.2.2.2.2.2.2.2.2.2.2.2.2.2.2.2.2.2.2.1 c483
                                                                  refine lv_tableIn (off := 1904) (tgt := 1943) B.1 B.2.1 dL_law_39 (by rw [c483]; decide) (by rw [c483]; decide) (by rw [c483]; rfl) (by decide) ?_
                                                                  refine lv_aload_n B.1 B.2.1 dL_law_1943 rfl (lv_at hl 1 rfl) ?_
                                                                  refine lv_aload_n B.1 B.2.1 dL_law_1944 rfl (lv_at hl 0 rfl) ?_
                                                                  refine lv_iload B.1 B.2.1 dL_law_1945 (lv_at hl 4 rfl) ?_
                                                                  refine lv_iconst (v := 1) B.1 B.2.1 dL_law_1947 (by decide) ?_
                                                                  refine lv_iadd B.1 B.2.1 dL_law_1948 ?_
                                                                  have q484 := hw.1
                                                                  replace hw := hw.2
                                                                  refine va_sld B.1 B.2.1 hX hbl hbA hH.2 q484 dL_law_1949 ?_
                                                                  refine lv_aload_n B.1 B.2.1 dL_law_1950 rfl (lv_at hl 3 rfl) ?_
                                                                  refine w_call (own := RL) (As := [.ref (zA Z b1), .int (xs (b4 + 1).toNatClampNeg), .ref (zA Z b3)]) (rest := []) B hH hB (cy_L_save B.2.2.2.2.1) (ct_L_save B.2.2.2.2.2.2.2 l hB.2.2.2 hN b1 (xs (b4 + 1).toNatClampNeg) b3 h _ _ (kb1) (kb3) hw) ⟨⟨rfl, rfl⟩, Nat.le_of_ble_eq_true rfl, Nat.le_of_ble_eq_true rfl, (by show cells + 1 ≤ 601024; omega), (by show slots + 6 ≤ 7293034; omega)⟩ (tv_937 B.2.2.2.2.1) rfl hl.1 rfl (Nat.le_of_ble_eq_true rfl) dL_law_1951 ?_
                                                                  clear hw hH
                                                                  intro r486 h485 H locs hw hH
                                                                  refine lv_istore (lv' := [(5, .int r486), (0, .ref b), (1, .ref (zA Z b1)), (2, .ref (zA Z b2)), (3, .ref (zA Z b3)), (4, .int b4)]) B.1 B.2.1 dL_law_1954 hl (by decide) (by first | rfl | simp [va_re_cat, Value.category]) ?_
                                                                  clear hl
                                                                  intro ls hl
                                                                  refine lv_aload_n B.1 B.2.1 dL_law_1956 rfl (lv_at hl 3 rfl) ?_
                                                                  refine lv_aload_n B.1 B.2.1 dL_law_1957 rfl (lv_at hl 1 rfl) ?_
                                                                  refine lv_iload B.1 B.2.1 dL_law_1958 (lv_at hl 5 rfl) ?_
                                                                  refine lv_iconst (v := 1) B.1 B.2.1 dL_law_1960 (by decide) ?_
                                                                  refine lv_iadd B.1 B.2.1 dL_law_1961 ?_
                                                                  have q487 := hw.1
                                                                  replace hw := hw.2
                                                                  refine va_sld B.1 B.2.1 hX hbl hbA hH.2 q487 dL_law_1962 ?_
                                                                  refine c_V_I (own := RL) (As := [.int (xs (b4 + 1).toNatClampNeg)]) (rest := []) B hH (cy_X8_save B.2.2.2.2.1) (ct_X8_save B.2.2.2.2.2.2.2 l b2 (xs (b4 + 1).toNatClampNeg) h485 _ _ (kb2) hw) ⟨⟨rfl, rfl⟩, Nat.le_of_ble_eq_true rfl, Nat.le_of_ble_eq_true rfl, (by show cells + 1 ≤ 601024; omega), (by show slots + 6 ≤ 7293034; omega)⟩ (rv_8 B hH (kb2)) (tv_1299 B.2.2.2.2.1) rfl hl.1 rfl (Nat.le_of_ble_eq_true rfl) dL_law_1963 ?_
                                                                  clear hw hH
                                                                  intro r489 h488 H locs hw hH
                                                                  refine lv_istore (lv' := [(6, .int r489), (5, .int r486), (0, .ref b), (1, .ref (zA Z b1)), (2, .ref (zA Z b2)), (3, .ref (zA Z b3)), (4, .int b4)]) B.1 B.2.1 dL_law_1966 hl (by decide) (by first | rfl | simp [va_re_cat, Value.category]) ?_
                                                                  clear hl
                                                                  intro ls hl
                                                                  refine lv_aload_n B.1 B.2.1 dL_law_1968 rfl (lv_at hl 4 rfl) ?_
                                                                  refine c_V_I (own := RL) (As := []) (rest := []) B hH (cy_X8_thrown B.2.2.2.2.1) (ct_X8_thrown B.2.2.2.2.2.2.2 l b2 h488 _ _ (kb2) hw) ⟨⟨rfl, rfl⟩, Nat.le_of_ble_eq_true rfl, Nat.le_of_ble_eq_true rfl, (by show cells + 1 ≤ 601024; omega), (by show slots + 6 ≤ 7293034; omega)⟩ (rv_8 B hH (kb2)) (tv_1001 B.2.2.2.2.1) rfl hl.1 rfl (Nat.le_of_ble_eq_true rfl) dL_law_1969 ?_
                                                                  clear hw hH
                                                                  intro r491 h490 H locs hw hH
                                                                  refine lv_iload B.1 B.2.1 dL_law_1972 (lv_at hl 1 rfl) ?_
                                                                  refine lv_icmp_eq (tgt := 1979) B.1 B.2.1 dL_law_1974 (by decide) (fun c492 => ?_) (fun c492 => ?_)
                                                                  · replace hw := hw.1 c492
                                                                    refine lv_iload B.1 B.2.1 dL_law_1979 (lv_at hl 1 rfl) ?_
                                                                    refine lv_if_ne (tgt := 1996) B.1 B.2.1 dL_law_1981 (by decide) (fun c493 => ?_) (fun c493 => ?_)
                                                                    · replace hw := hw.1 c493
                                                                      refine lv_goto (tgt := 2055) B.1 B.2.1 dL_law_1996 (by decide) ?_
                                                                      obtain ⟨x494, ex494⟩ : ∃ y : Int32, y = b4 + 5 := ⟨_, rfl⟩
                                                                      replace hw := hw x494 ex494
                                                                      refine lv_iinc (v := x494) (lv' := [(4, .int x494), (6, .int r489), (5, .int r486), (0, .ref b), (1, .ref (zA Z b1)), (2, .ref (zA Z b2)), (3, .ref (zA Z b3))]) B.1 B.2.1 dL_law_2055 hl (k := 6) rfl (by rw [ex494]; rfl) (by decide) (by first | rfl | simp [va_re_cat, Value.category]) ?_
                                                                      clear hl
                                                                      intro ls hl
                                                                      refine lv_goto (tgt := 23) B.1 B.2.1 dL_law_2058 (by decide) ?_
                                                                      exact ih x494 h490 (cells + 1) (slots + 6) _ _ _ (by omega) (by omega) hw hH (lv_sub hl [3, 4, 5, 6, 0] rfl)
                                                                    · replace hw := hw.2 c493
                                                                      refine lv_aload_n B.1 B.2.1 dL_law_1984 rfl (lv_at hl 5 rfl) ?_
                                                                      refine lv_iconst (v := 0) B.1 B.2.1 dL_law_1985 (by decide) ?_
                                                                      have q495 := hw.1
                                                                      replace hw := hw.2
                                                                      refine r_lald B hN hH (kb3) q495 dL_law_1986 ?_
                                                                      refine lv_iload B.1 B.2.1 dL_law_1987 (lv_at hl 0 rfl) ?_
                                                                      refine lv_i2l B.1 B.2.1 dL_law_1989 rfl ?_
                                                                      refine W.lcmp B.1 B.2.1 dL_law_1990 ?_
                                                                      refine lv_if_eq (tgt := 1996) B.1 B.2.1 dL_law_1991 (by decide) (fun c496 => ?_) (fun c496 => ?_)
                                                                      · replace hw := hw.1 c496
                                                                        refine lv_goto (tgt := 2055) B.1 B.2.1 dL_law_1996 (by decide) ?_
                                                                        obtain ⟨x497, ex497⟩ : ∃ y : Int32, y = b4 + 5 := ⟨_, rfl⟩
                                                                        replace hw := hw x497 ex497
                                                                        refine lv_iinc (v := x497) (lv' := [(4, .int x497), (6, .int r489), (5, .int r486), (0, .ref b), (1, .ref (zA Z b1)), (2, .ref (zA Z b2)), (3, .ref (zA Z b3))]) B.1 B.2.1 dL_law_2055 hl (k := 6) rfl (by rw [ex497]; rfl) (by decide) (by first | rfl | simp [va_re_cat, Value.category]) ?_
                                                                        clear hl
                                                                        intro ls hl
                                                                        refine lv_goto (tgt := 23) B.1 B.2.1 dL_law_2058 (by decide) ?_
                                                                        exact ih x497 h490 (cells + 1) (slots + 6) _ _ _ (by omega) (by omega) hw hH (lv_sub hl [3, 4, 5, 6, 0] rfl)
                                                                      · replace hw := hw.2 c496
                                                                        refine lv_iconst (v := 0) B.1 B.2.1 dL_law_1994 (by decide) ?_
                                                                        exact absurd (hQ _ _ hw) (by decide)
                                                                  · replace hw := hw.2 c492
                                                                    refine lv_iconst (v := 0) B.1 B.2.1 dL_law_1977 (by decide) ?_
                                                                    exact absurd (hQ _ _ hw) (by decide)
                                                                · by_cases c498 : (x3 = 29)
                                                                  · replace hw := hw.2.2.2.2.2.2.2.2.2.2.2.2.2.2.2.2.2.2.2.2.2.2.2.2.2.2.2.2.2.1 c498
                                                                    refine lv_tableIn (off := 1960) (tgt := 1999) B.1 B.2.1 dL_law_39 (by rw [c498]; decide) (by rw [c498]; decide) (by rw [c498]; rfl) (by decide) ?_
                                                                    refine lv_aload_n B.1 B.2.1 dL_law_1999 rfl (lv_at hl 1 rfl) ?_
                                                                    refine lv_aload_n B.1 B.2.1 dL_law_2000 rfl (lv_at hl 0 rfl) ?_
                                                                    refine lv_iload B.1 B.2.1 dL_law_2001 (lv_at hl 4 rfl) ?_
                                                                    refine lv_iconst (v := 1) B.1 B.2.1 dL_law_2003 (by decide) ?_
                                                                    refine lv_iadd B.1 B.2.1 dL_law_2004 ?_
                                                                    have q499 := hw.1
                                                                    replace hw := hw.2
                                                                    refine va_sld B.1 B.2.1 hX hbl hbA hH.2 q499 dL_law_2005 ?_
                                                                    refine lv_aload_n B.1 B.2.1 dL_law_2006 rfl (lv_at hl 3 rfl) ?_
                                                                    refine w_call (own := RL) (As := [.ref (zA Z b1), .int (xs (b4 + 1).toNatClampNeg), .ref (zA Z b3)]) (rest := []) B hH hB (cy_L_restore B.2.2.2.2.1) (ct_L_restore B.2.2.2.2.2.2.2 l hB.2.2.2 hN b1 (xs (b4 + 1).toNatClampNeg) b3 h _ _ (kb1) (kb3) hw) ⟨⟨rfl, rfl⟩, Nat.le_of_ble_eq_true rfl, Nat.le_of_ble_eq_true rfl, (by show cells + 1 ≤ 601024; omega), (by show slots + 6 ≤ 7293034; omega)⟩ (tv_949 B.2.2.2.2.1) rfl hl.1 rfl (Nat.le_of_ble_eq_true rfl) dL_law_2007 ?_
                                                                    clear hw hH
                                                                    intro r501 h500 H locs hw hH
                                                                    refine lv_istore (lv' := [(5, .int r501), (0, .ref b), (1, .ref (zA Z b1)), (2, .ref (zA Z b2)), (3, .ref (zA Z b3)), (4, .int b4)]) B.1 B.2.1 dL_law_2010 hl (by decide) (by first | rfl | simp [va_re_cat, Value.category]) ?_
                                                                    clear hl
                                                                    intro ls hl
                                                                    refine lv_aload_n B.1 B.2.1 dL_law_2012 rfl (lv_at hl 3 rfl) ?_
                                                                    refine lv_aload_n B.1 B.2.1 dL_law_2013 rfl (lv_at hl 1 rfl) ?_
                                                                    refine lv_iload B.1 B.2.1 dL_law_2014 (lv_at hl 5 rfl) ?_
                                                                    refine lv_iconst (v := 1) B.1 B.2.1 dL_law_2016 (by decide) ?_
                                                                    refine lv_iadd B.1 B.2.1 dL_law_2017 ?_
                                                                    have q502 := hw.1
                                                                    replace hw := hw.2
                                                                    refine va_sld B.1 B.2.1 hX hbl hbA hH.2 q502 dL_law_2018 ?_
                                                                    refine c_V_I (own := RL) (As := [.int (xs (b4 + 1).toNatClampNeg)]) (rest := []) B hH (cy_X8_restore B.2.2.2.2.1) (ct_X8_restore B.2.2.2.2.2.2.2 l b2 (xs (b4 + 1).toNatClampNeg) h500 _ _ (kb2) hw) ⟨⟨rfl, rfl⟩, Nat.le_of_ble_eq_true rfl, Nat.le_of_ble_eq_true rfl, (by show cells + 1 ≤ 601024; omega), (by show slots + 6 ≤ 7293034; omega)⟩ (rv_8 B hH (kb2)) (tv_1303 B.2.2.2.2.1) rfl hl.1 rfl (Nat.le_of_ble_eq_true rfl) dL_law_2019 ?_
                                                                    clear hw hH
                                                                    intro r504 h503 H locs hw hH
                                                                    refine lv_istore (lv' := [(6, .int r504), (5, .int r501), (0, .ref b), (1, .ref (zA Z b1)), (2, .ref (zA Z b2)), (3, .ref (zA Z b3)), (4, .int b4)]) B.1 B.2.1 dL_law_2022 hl (by decide) (by first | rfl | simp [va_re_cat, Value.category]) ?_
                                                                    clear hl
                                                                    intro ls hl
                                                                    refine lv_aload_n B.1 B.2.1 dL_law_2024 rfl (lv_at hl 4 rfl) ?_
                                                                    refine c_V_I (own := RL) (As := []) (rest := []) B hH (cy_X8_thrown B.2.2.2.2.1) (ct_X8_thrown B.2.2.2.2.2.2.2 l b2 h503 _ _ (kb2) hw) ⟨⟨rfl, rfl⟩, Nat.le_of_ble_eq_true rfl, Nat.le_of_ble_eq_true rfl, (by show cells + 1 ≤ 601024; omega), (by show slots + 6 ≤ 7293034; omega)⟩ (rv_8 B hH (kb2)) (tv_1001 B.2.2.2.2.1) rfl hl.1 rfl (Nat.le_of_ble_eq_true rfl) dL_law_2025 ?_
                                                                    clear hw hH
                                                                    intro r506 h505 H locs hw hH
                                                                    refine lv_iload B.1 B.2.1 dL_law_2028 (lv_at hl 1 rfl) ?_
                                                                    refine lv_icmp_eq (tgt := 2035) B.1 B.2.1 dL_law_2030 (by decide) (fun c507 => ?_) (fun c507 => ?_)
                                                                    · replace hw := hw.1 c507
                                                                      refine lv_iload B.1 B.2.1 dL_law_2035 (lv_at hl 1 rfl) ?_
                                                                      refine lv_if_ne (tgt := 2052) B.1 B.2.1 dL_law_2037 (by decide) (fun c508 => ?_) (fun c508 => ?_)
                                                                      · replace hw := hw.1 c508
                                                                        refine lv_goto (tgt := 2055) B.1 B.2.1 dL_law_2052 (by decide) ?_
                                                                        obtain ⟨x509, ex509⟩ : ∃ y : Int32, y = b4 + 5 := ⟨_, rfl⟩
                                                                        replace hw := hw x509 ex509
                                                                        refine lv_iinc (v := x509) (lv' := [(4, .int x509), (6, .int r504), (5, .int r501), (0, .ref b), (1, .ref (zA Z b1)), (2, .ref (zA Z b2)), (3, .ref (zA Z b3))]) B.1 B.2.1 dL_law_2055 hl (k := 6) rfl (by rw [ex509]; rfl) (by decide) (by first | rfl | simp [va_re_cat, Value.category]) ?_
                                                                        clear hl
                                                                        intro ls hl
                                                                        refine lv_goto (tgt := 23) B.1 B.2.1 dL_law_2058 (by decide) ?_
                                                                        exact ih x509 h505 (cells + 1) (slots + 6) _ _ _ (by omega) (by omega) hw hH (lv_sub hl [3, 4, 5, 6, 0] rfl)
                                                                      · replace hw := hw.2 c508
                                                                        refine lv_aload_n B.1 B.2.1 dL_law_2040 rfl (lv_at hl 5 rfl) ?_
                                                                        refine lv_iconst (v := 0) B.1 B.2.1 dL_law_2041 (by decide) ?_
                                                                        have q510 := hw.1
                                                                        replace hw := hw.2
                                                                        refine r_lald B hN hH (kb3) q510 dL_law_2042 ?_
                                                                        refine lv_iload B.1 B.2.1 dL_law_2043 (lv_at hl 0 rfl) ?_
                                                                        refine lv_i2l B.1 B.2.1 dL_law_2045 rfl ?_
                                                                        refine W.lcmp B.1 B.2.1 dL_law_2046 ?_
                                                                        refine lv_if_eq (tgt := 2052) B.1 B.2.1 dL_law_2047 (by decide) (fun c511 => ?_) (fun c511 => ?_)
                                                                        · replace hw := hw.1 c511
                                                                          refine lv_goto (tgt := 2055) B.1 B.2.1 dL_law_2052 (by decide) ?_
                                                                          obtain ⟨x512, ex512⟩ : ∃ y : Int32, y = b4 + 5 := ⟨_, rfl⟩
                                                                          replace hw := hw x512 ex512
                                                                          refine lv_iinc (v := x512) (lv' := [(4, .int x512), (6, .int r504), (5, .int r501), (0, .ref b), (1, .ref (zA Z b1)), (2, .ref (zA Z b2)), (3, .ref (zA Z b3))]) B.1 B.2.1 dL_law_2055 hl (k := 6) rfl (by rw [ex512]; rfl) (by decide) (by first | rfl | simp [va_re_cat, Value.category]) ?_
                                                                          clear hl
                                                                          intro ls hl
                                                                          refine lv_goto (tgt := 23) B.1 B.2.1 dL_law_2058 (by decide) ?_
                                                                          exact ih x512 h505 (cells + 1) (slots + 6) _ _ _ (by omega) (by omega) hw hH (lv_sub hl [3, 4, 5, 6, 0] rfl)
                                                                        · replace hw := hw.2 c511
                                                                          refine lv_iconst (v := 0) B.1 B.2.1 dL_law_2050 (by decide) ?_
                                                                          exact absurd (hQ _ _ hw) (by decide)
                                                                    · replace hw := hw.2 c507
                                                                      refine lv_iconst (v := 0) B.1 B.2.1 dL_law_2033 (by decide) ?_
                                                                      exact absurd (hQ _ _ hw) (by decide)
                                                                  · replace hw := hw.2.2.2.2.2.2.2.2.2.2.2.2.2.2.2.2.2.2.2.2.2.2.2.2.2.2.2.2.2.2 c4 c19 c26 c33 c46 c61 c78 c95 c114 c133 c150 c167 c182 c203 c216 c237 c252 c271 c325 c340 c357 c370 c385 c404 c411 c428 c445 c464 c483 c498
                                                                    have t0 := lv_neT (x := x3) (k := 0) (a := 0) c4 (by decide)
                                                                    have t1 := lv_neT (x := x3) (k := 1) (a := 1) c19 (by decide)
                                                                    have t2 := lv_neT (x := x3) (k := 2) (a := 2) c26 (by decide)
                                                                    have t3 := lv_neT (x := x3) (k := 3) (a := 3) c33 (by decide)
                                                                    have t4 := lv_neT (x := x3) (k := 4) (a := 4) c46 (by decide)
                                                                    have t5 := lv_neT (x := x3) (k := 5) (a := 5) c61 (by decide)
                                                                    have t6 := lv_neT (x := x3) (k := 6) (a := 6) c78 (by decide)
                                                                    have t7 := lv_neT (x := x3) (k := 7) (a := 7) c95 (by decide)
                                                                    have t8 := lv_neT (x := x3) (k := 8) (a := 8) c114 (by decide)
                                                                    have t9 := lv_neT (x := x3) (k := 9) (a := 9) c133 (by decide)
                                                                    have t10 := lv_neT (x := x3) (k := 10) (a := 10) c150 (by decide)
                                                                    have t11 := lv_neT (x := x3) (k := 11) (a := 11) c167 (by decide)
                                                                    have t12 := lv_neT (x := x3) (k := 12) (a := 12) c182 (by decide)
                                                                    have t13 := lv_neT (x := x3) (k := 13) (a := 13) c203 (by decide)
                                                                    have t14 := lv_neT (x := x3) (k := 14) (a := 14) c216 (by decide)
                                                                    have t15 := lv_neT (x := x3) (k := 15) (a := 15) c237 (by decide)
                                                                    have t16 := lv_neT (x := x3) (k := 16) (a := 16) c252 (by decide)
                                                                    have t17 := lv_neT (x := x3) (k := 17) (a := 17) c271 (by decide)
                                                                    have t18 := lv_neT (x := x3) (k := 18) (a := 18) c325 (by decide)
                                                                    have t19 := lv_neT (x := x3) (k := 19) (a := 19) c340 (by decide)
                                                                    have t20 := lv_neT (x := x3) (k := 20) (a := 20) c357 (by decide)
                                                                    have t21 := lv_neT (x := x3) (k := 21) (a := 21) c370 (by decide)
                                                                    have t22 := lv_neT (x := x3) (k := 22) (a := 22) c385 (by decide)
                                                                    have t23 := lv_neT (x := x3) (k := 23) (a := 23) c404 (by decide)
                                                                    have t24 := lv_neT (x := x3) (k := 24) (a := 24) c411 (by decide)
                                                                    have t25 := lv_neT (x := x3) (k := 25) (a := 25) c428 (by decide)
                                                                    have t26 := lv_neT (x := x3) (k := 26) (a := 26) c445 (by decide)
                                                                    have t27 := lv_neT (x := x3) (k := 27) (a := 27) c464 (by decide)
                                                                    have t28 := lv_neT (x := x3) (k := 28) (a := 28) c483 (by decide)
                                                                    have t29 := lv_neT (x := x3) (k := 29) (a := 29) c498 (by decide)
                                                                    refine lv_tableOut (tgt := 2055) B.1 B.2.1 dL_law_39 (by omega) (by decide) ?_
                                                                    obtain ⟨x513, ex513⟩ : ∃ y : Int32, y = b4 + 5 := ⟨_, rfl⟩
                                                                    replace hw := hw x513 ex513
                                                                    refine lv_iinc (v := x513) (lv' := [(4, .int x513), (0, .ref b), (1, .ref (zA Z b1)), (2, .ref (zA Z b2)), (3, .ref (zA Z b3))]) B.1 B.2.1 dL_law_2055 hl (k := 4) rfl (by rw [ex513]; rfl) (by decide) (by first | rfl | simp [va_re_cat, Value.category]) ?_
                                                                    clear hl
                                                                    intro ls hl
                                                                    refine lv_goto (tgt := 23) B.1 B.2.1 dL_law_2058 (by decide) ?_
                                                                    exact ih x513 h cells slots _ _ _ (by omega) (by omega) hw hH (lv_sub hl [1, 2, 3, 4, 0] rfl)
