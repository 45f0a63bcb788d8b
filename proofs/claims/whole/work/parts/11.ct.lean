theorem cy_J9_max_7cf53 {s : State} {args : Array Value} (hG : GG s) : CYS s args yJ9_max_7cf53 cJ9_max_7cf53 2 (some .int) 2 := CYS.of hG (fun _ _ hG => tw_329 hG) (tw_18 hG) (tw_328 hG) (by decide +kernel)
set_option maxRecDepth 100000 in
set_option maxHeartbeats 4000000 in
theorem ct_J9_max_7cf53 {Z : ZT} (hZ : ZO Z) (l : Launch) (a0 : Int32) (a1 : Int32) (h : PH) (sz : Nat) (Q : Int32 → PH → Prop)  (hw : wp_J9_max_7cf53 a0 a1 h Q) : MI Z l yJ9_max_7cf53 cJ9_max_7cf53 2 (some .int) ({ frames := 0, cells := 0, slots := 0, locals := 0 } : Room) h sz [.int a0, .int a1] Q := by
  refine open_MF hZ (by decide +kernel) (by exact Nat.le_of_ble_eq_true rfl) ?_
  intro p e s m below meth c B hr hsz ls hl hH
  subst hsz
  have hl : lv_has ls 2 [(0, .int a0), (1, .int a1)] := hl
  unfold wp_J9_max_7cf53 at hw
  refine lv_iload_n B.1 B.2.1 dJ9_max_7cf53_0 rfl (lv_at hl 0 rfl) ?_
  refine lv_iload_n B.1 B.2.1 dJ9_max_7cf53_1 rfl (lv_at hl 1 rfl) ?_
  refine lv_icmp_lt (tgt := 9) B.1 B.2.1 dJ9_max_7cf53_2 (by decide) (fun c1 => ?_) (fun c1 => ?_)
  · have hw := hw.1 c1
    refine lv_iload_n B.1 B.2.1 dJ9_max_7cf53_9 rfl (lv_at hl 1 rfl) ?_
    exact e_i B hr hH hw dJ9_max_7cf53_10
  · have hw := hw.2 c1
    refine lv_iload_n B.1 B.2.1 dJ9_max_7cf53_5 rfl (lv_at hl 0 rfl) ?_
    refine lv_goto (tgt := 10) B.1 B.2.1 dJ9_max_7cf53_6 (by decide) ?_
    exact e_i B hr hH hw dJ9_max_7cf53_10
theorem cy_J9_min_7cf53 {s : State} {args : Array Value} (hG : GG s) : CYS s args yJ9_min_7cf53 cJ9_min_7cf53 2 (some .int) 2 := CYS.of hG (fun _ _ hG => tw_597 hG) (tw_18 hG) (tw_596 hG) (by decide +kernel)
set_option maxRecDepth 100000 in
set_option maxHeartbeats 4000000 in
theorem ct_J9_min_7cf53 {Z : ZT} (hZ : ZO Z) (l : Launch) (a0 : Int32) (a1 : Int32) (h : PH) (sz : Nat) (Q : Int32 → PH → Prop)  (hw : wp_J9_min_7cf53 a0 a1 h Q) : MI Z l yJ9_min_7cf53 cJ9_min_7cf53 2 (some .int) ({ frames := 0, cells := 0, slots := 0, locals := 0 } : Room) h sz [.int a0, .int a1] Q := by
  refine open_MF hZ (by decide +kernel) (by exact Nat.le_of_ble_eq_true rfl) ?_
  intro p e s m below meth c B hr hsz ls hl hH
  subst hsz
  have hl : lv_has ls 2 [(0, .int a0), (1, .int a1)] := hl
  unfold wp_J9_min_7cf53 at hw
  refine lv_iload_n B.1 B.2.1 dJ9_min_7cf53_0 rfl (lv_at hl 0 rfl) ?_
  refine lv_iload_n B.1 B.2.1 dJ9_min_7cf53_1 rfl (lv_at hl 1 rfl) ?_
  refine lv_icmp_gt (tgt := 9) B.1 B.2.1 dJ9_min_7cf53_2 (by decide) (fun c1 => ?_) (fun c1 => ?_)
  · have hw := hw.1 c1
    refine lv_iload_n B.1 B.2.1 dJ9_min_7cf53_9 rfl (lv_at hl 1 rfl) ?_
    exact e_i B hr hH hw dJ9_min_7cf53_10
  · have hw := hw.2 c1
    refine lv_iload_n B.1 B.2.1 dJ9_min_7cf53_5 rfl (lv_at hl 0 rfl) ?_
    refine lv_goto (tgt := 10) B.1 B.2.1 dJ9_min_7cf53_6 (by decide) ?_
    exact e_i B hr hH hw dJ9_min_7cf53_10
theorem cy_X7_copyRow {s : State} {args : Array Value} (hG : GG s) : CYS s args yX7_copyRow cX7_copyRow 4 none 3 := CYS.of hG (fun _ _ hG => tw_766 hG) (tw_1 hG) (tw_765 hG) (by decide +kernel)
set_option maxRecDepth 100000 in
set_option maxHeartbeats 4000000 in
theorem ct_X7_copyRow {Z : ZT} (hZ : ZO Z) (l : Launch) (a0 : Nat) (a1 : Nat) (a2 : Int32) (h : PH) (sz : Nat) (Q : PH → Prop) (k0 : kd a0 = 10) (k1 : kd a1 = 10) (hw : wp_X7_copyRow a0 a1 a2 h Q) : MV Z l yX7_copyRow cX7_copyRow 4 none ({ frames := 1, cells := 0, slots := 0, locals := 26 } : Room) h sz [.ref (zA Z a0), .ref (zA Z a1), .int a2] Q := by
  refine open_M hZ (by decide +kernel) (by exact Nat.le_of_ble_eq_true rfl) ?_
  intro p e s m below meth c B hr hsz ls hl hH
  subst hsz
  have hl : lv_has ls 4 [(0, .ref (zA Z a0)), (1, .ref (zA Z a1)), (2, .int a2)] := hl
  unfold wp_X7_copyRow at hw
  refine lv_aload_n B.1 B.2.1 dX7_copyRow_0 rfl (lv_at hl 0 rfl) ?_
  refine r_alen B hH (k0) dX7_copyRow_1 ?_
  refine lv_aload_n B.1 B.2.1 dX7_copyRow_2 rfl (lv_at hl 1 rfl) ?_
  refine r_alen B hH (k1) dX7_copyRow_3 ?_
  refine c_S_I (own := RX7) (As := [.int (nI (al a0)), .int (nI (al a1))]) (rest := []) B hH (cy_J9_min_7cf53 B.2.2.2.2.1) (ct_J9_min_7cf53 B.2.2.2.2.2.2.2 l (nI (al a0)) (nI (al a1)) h _ _  hw) ⟨⟨rfl, rfl⟩, Nat.le_of_ble_eq_true rfl, Nat.le_of_ble_eq_true rfl, Nat.zero_le _, Nat.zero_le _⟩ (tw_767 B.2.2.2.2.1) rfl hl.1 rfl (Nat.le_of_ble_eq_true rfl) dX7_copyRow_4 (fun r2 h1 H locs hw hH => ?_)
  refine lv_istore_n (lv' := [(3, .int r2), (0, .ref (zA Z a0)), (1, .ref (zA Z a1)), (2, .int a2)]) B.1 B.2.1 dX7_copyRow_7 rfl hl (by decide) (by first | rfl | simp [va_re_cat, Value.category]) (fun ls hl => ?_)
  refine lv_aload_n B.1 B.2.1 dX7_copyRow_8 rfl (lv_at hl 1 rfl) ?_
  refine lv_iconst (v := 0) B.1 B.2.1 dX7_copyRow_9 (by decide) ?_
  refine lv_aload_n B.1 B.2.1 dX7_copyRow_10 rfl (lv_at hl 2 rfl) ?_
  refine lv_iconst (v := 0) B.1 B.2.1 dX7_copyRow_11 (by decide) ?_
  refine lv_iconst (v := 0) B.1 B.2.1 dX7_copyRow_12 (by decide) ?_
  refine lv_iload_n B.1 B.2.1 dX7_copyRow_13 rfl (lv_at hl 3 rfl) ?_
  refine lv_iload_n B.1 B.2.1 dX7_copyRow_14 rfl (lv_at hl 0 rfl) ?_
  refine c_S_I (own := RX7) (As := [.int a2, .int r2]) (rest := [.int 0, .int 0, .ref (zA Z a1), .int 0, .ref (zA Z a0)]) B hH (cy_J9_min_7cf53 B.2.2.2.2.1) (ct_J9_min_7cf53 B.2.2.2.2.2.2.2 l a2 r2 h1 _ _  hw) ⟨⟨rfl, rfl⟩, Nat.le_of_ble_eq_true rfl, Nat.le_of_ble_eq_true rfl, Nat.zero_le _, Nat.zero_le _⟩ (tw_767 B.2.2.2.2.1) rfl hl.1 rfl (Nat.le_of_ble_eq_true rfl) dX7_copyRow_15 (fun r4 h3 H locs hw hH => ?_)
  refine c_S_I (own := RX7) (As := [.int 0, .int r4]) (rest := [.int 0, .ref (zA Z a1), .int 0, .ref (zA Z a0)]) B hH (cy_J9_max_7cf53 B.2.2.2.2.1) (ct_J9_max_7cf53 B.2.2.2.2.2.2.2 l 0 r4 h3 _ _  hw) ⟨⟨rfl, rfl⟩, Nat.le_of_ble_eq_true rfl, Nat.le_of_ble_eq_true rfl, Nat.zero_le _, Nat.zero_le _⟩ (tw_768 B.2.2.2.2.1) rfl hl.1 rfl (Nat.le_of_ble_eq_true rfl) dX7_copyRow_18 (fun r6 h5 H locs hw hH => ?_)
  have q7 := hw.1
  have hw := hw.2
  refine r_copy B hH (own := RX7) (k0) (k1) (tw_771 B.2.2.2.2.1) (tw_770 B.2.2.2.2.1) (tw_21 B.2.2.2.2.1) (tw_769 B.2.2.2.2.1) q7 hl.1 (by decide) (Nat.le_of_ble_eq_true rfl) dX7_copyRow_21 (fun H locs hH => ?_)
  exact e_v B hr hH hw dX7_copyRow_24
theorem cy_X7_get {s : State} {args : Array Value} (hG : GG s) : CYS s args yX7_get cX7_get 2 (some .int) 2 := CYS.of hG (fun _ _ hG => tw_226 hG) (tw_1 hG) (tw_225 hG) (by decide +kernel)
set_option maxRecDepth 100000 in
set_option maxHeartbeats 4000000 in
theorem ct_X7_get {Z : ZT} (hZ : ZO Z) (l : Launch) (a0 : Nat) (a1 : Int32) (h : PH) (sz : Nat) (Q : Int32 → PH → Prop) (k0 : kd a0 = 10) (hw : wp_X7_get a0 a1 h Q) : MI Z l yX7_get cX7_get 2 (some .int) ({ frames := 0, cells := 0, slots := 0, locals := 0 } : Room) h sz [.ref (zA Z a0), .int a1] Q := by
  refine open_M hZ (by decide +kernel) (by exact Nat.le_of_ble_eq_true rfl) ?_
  intro p e s m below meth c B hr hsz ls hl hH
  subst hsz
  have hl : lv_has ls 2 [(0, .ref (zA Z a0)), (1, .int a1)] := hl
  unfold wp_X7_get at hw
  refine lv_iload_n B.1 B.2.1 dX7_get_0 rfl (lv_at hl 1 rfl) ?_
  refine lv_if_lt (tgt := 10) B.1 B.2.1 dX7_get_1 (by decide) (fun c1 => ?_) (fun c1 => ?_)
  · have hw := hw.1 c1
    refine lv_iconst (v := 0) B.1 B.2.1 dX7_get_10 (by decide) ?_
    refine lv_goto (tgt := 17) B.1 B.2.1 dX7_get_11 (by decide) ?_
    exact e_i B hr hH hw dX7_get_17
  · have hw := hw.2 c1
    refine lv_iload_n B.1 B.2.1 dX7_get_4 rfl (lv_at hl 1 rfl) ?_
    refine lv_aload_n B.1 B.2.1 dX7_get_5 rfl (lv_at hl 0 rfl) ?_
    refine r_alen B hH (k0) dX7_get_6 ?_
    refine lv_icmp_lt (tgt := 14) B.1 B.2.1 dX7_get_7 (by decide) (fun c2 => ?_) (fun c2 => ?_)
    · have hw := hw.1 c2
      refine lv_aload_n B.1 B.2.1 dX7_get_14 rfl (lv_at hl 0 rfl) ?_
      refine lv_iload_n B.1 B.2.1 dX7_get_15 rfl (lv_at hl 1 rfl) ?_
      have q3 := hw.1
      have hw := hw.2
      refine r_iald B hH (k0) q3 dX7_get_16 ?_
      exact e_i B hr hH hw dX7_get_17
    · have hw := hw.2 c2
      refine lv_iconst (v := 0) B.1 B.2.1 dX7_get_10 (by decide) ?_
      refine lv_goto (tgt := 17) B.1 B.2.1 dX7_get_11 (by decide) ?_
      exact e_i B hr hH hw dX7_get_17
theorem cy_X7_put {s : State} {args : Array Value} (hG : GG s) : CYS s args yX7_put cX7_put 3 none 3 := CYS.of hG (fun _ _ hG => tw_309 hG) (tw_1 hG) (tw_308 hG) (by decide +kernel)
set_option maxRecDepth 100000 in
set_option maxHeartbeats 4000000 in
theorem ct_X7_put {Z : ZT} (hZ : ZO Z) (l : Launch) (a0 : Nat) (a1 : Int32) (a2 : Int32) (h : PH) (sz : Nat) (Q : PH → Prop) (k0 : kd a0 = 10) (hw : wp_X7_put a0 a1 a2 h Q) : MV Z l yX7_put cX7_put 3 none ({ frames := 0, cells := 0, slots := 0, locals := 0 } : Room) h sz [.ref (zA Z a0), .int a1, .int a2] Q := by
  refine open_M hZ (by decide +kernel) (by exact Nat.le_of_ble_eq_true rfl) ?_
  intro p e s m below meth c B hr hsz ls hl hH
  subst hsz
  have hl : lv_has ls 3 [(0, .ref (zA Z a0)), (1, .int a1), (2, .int a2)] := hl
  unfold wp_X7_put at hw
  refine lv_iload_n B.1 B.2.1 dX7_put_0 rfl (lv_at hl 1 rfl) ?_
  refine lv_if_lt (tgt := 14) B.1 B.2.1 dX7_put_1 (by decide) (fun c1 => ?_) (fun c1 => ?_)
  · have hw := hw.1 c1
    exact e_v B hr hH hw dX7_put_14
  · have hw := hw.2 c1
    refine lv_iload_n B.1 B.2.1 dX7_put_4 rfl (lv_at hl 1 rfl) ?_
    refine lv_aload_n B.1 B.2.1 dX7_put_5 rfl (lv_at hl 0 rfl) ?_
    refine r_alen B hH (k0) dX7_put_6 ?_
    refine lv_icmp_ge (tgt := 14) B.1 B.2.1 dX7_put_7 (by decide) (fun c2 => ?_) (fun c2 => ?_)
    · have hw := hw.1 c2
      exact e_v B hr hH hw dX7_put_14
    · have hw := hw.2 c2
      refine lv_aload_n B.1 B.2.1 dX7_put_10 rfl (lv_at hl 0 rfl) ?_
      refine lv_iload_n B.1 B.2.1 dX7_put_11 rfl (lv_at hl 1 rfl) ?_
      refine lv_iload_n B.1 B.2.1 dX7_put_12 rfl (lv_at hl 2 rfl) ?_
      have q3 := hw.1
      have hw := hw.2
      refine r_iast B hH (k0) q3 dX7_put_13 (fun H locs hH => ?_)
      exact e_v B hr hH hw dX7_put_14
theorem cy_J9_floorMod_7cf53 {s : State} {args : Array Value} (hG : GG s) : CYS s args yJ9_floorMod_7cf53 cJ9_floorMod_7cf53 3 (some .int) 2 := CYS.of hG (fun _ _ hG => tw_872 hG) (tw_18 hG) (tw_871 hG) (by decide +kernel)
set_option maxRecDepth 100000 in
set_option maxHeartbeats 4000000 in
theorem ct_J9_floorMod_7cf53 {Z : ZT} (hZ : ZO Z) (l : Launch) (a0 : Int32) (a1 : Int32) (h : PH) (sz : Nat) (Q : Int32 → PH → Prop)  (hw : wp_J9_floorMod_7cf53 a0 a1 h Q) : MI Z l yJ9_floorMod_7cf53 cJ9_floorMod_7cf53 3 (some .int) ({ frames := 0, cells := 0, slots := 0, locals := 0 } : Room) h sz [.int a0, .int a1] Q := by
  refine open_MF hZ (by decide +kernel) (by exact Nat.le_of_ble_eq_true rfl) ?_
  intro p e s m below meth c B hr hsz ls hl hH
  subst hsz
  have hl : lv_has ls 3 [(0, .int a0), (1, .int a1)] := hl
  unfold wp_J9_floorMod_7cf53 at hw
  refine lv_iload_n B.1 B.2.1 dJ9_floorMod_7cf53_0 rfl (lv_at hl 0 rfl) ?_
  refine lv_iload_n B.1 B.2.1 dJ9_floorMod_7cf53_1 rfl (lv_at hl 1 rfl) ?_
  have q1 := hw.1
  have hw := hw.2
  refine x_irem B dJ9_floorMod_7cf53_2 q1 ?_
  refine lv_topi (fun x2 ex2 => ?_)
  have hw := hw x2 ex2
  refine lv_istore_n (lv' := [(2, .int x2), (0, .int a0), (1, .int a1)]) B.1 B.2.1 dJ9_floorMod_7cf53_3 rfl hl (by decide) (by first | rfl | simp [va_re_cat, Value.category]) (fun ls hl => ?_)
  refine lv_iload_n B.1 B.2.1 dJ9_floorMod_7cf53_4 rfl (lv_at hl 1 rfl) ?_
  refine lv_iload_n B.1 B.2.1 dJ9_floorMod_7cf53_5 rfl (lv_at hl 2 rfl) ?_
  refine lv_ixor B.1 B.2.1 dJ9_floorMod_7cf53_6 ?_
  refine lv_if_ge (tgt := 18) B.1 B.2.1 dJ9_floorMod_7cf53_7 (by decide) (fun c3 => ?_) (fun c3 => ?_)
  · have hw := hw.1 c3
    refine lv_iload_n B.1 B.2.1 dJ9_floorMod_7cf53_18 rfl (lv_at hl 0 rfl) ?_
    exact e_i B hr hH hw dJ9_floorMod_7cf53_19
  · have hw := hw.2 c3
    refine lv_iload_n B.1 B.2.1 dJ9_floorMod_7cf53_10 rfl (lv_at hl 0 rfl) ?_
    refine lv_if_eq (tgt := 18) B.1 B.2.1 dJ9_floorMod_7cf53_11 (by decide) (fun c4 => ?_) (fun c4 => ?_)
    · have hw := hw.1 c4
      refine lv_iload_n B.1 B.2.1 dJ9_floorMod_7cf53_18 rfl (lv_at hl 0 rfl) ?_
      exact e_i B hr hH hw dJ9_floorMod_7cf53_19
    · have hw := hw.2 c4
      refine lv_iload_n B.1 B.2.1 dJ9_floorMod_7cf53_14 rfl (lv_at hl 0 rfl) ?_
      refine lv_iload_n B.1 B.2.1 dJ9_floorMod_7cf53_15 rfl (lv_at hl 2 rfl) ?_
      refine lv_iadd B.1 B.2.1 dJ9_floorMod_7cf53_16 ?_
      exact e_i B hr hH hw dJ9_floorMod_7cf53_17
theorem cy_X7_outside {s : State} {args : Array Value} (hG : GG s) : CYS s args yX7_outside cX7_outside 3 (some .boolean) 3 := CYS.of hG (fun _ _ hG => tw_223 hG) (tw_1 hG) (tw_222 hG) (by decide +kernel)
set_option maxRecDepth 100000 in
set_option maxHeartbeats 4000000 in
theorem ct_X7_outside {Z : ZT} (hZ : ZO Z) (l : Launch) (a0 : Int32) (a1 : Int32) (a2 : Int32) (h : PH) (sz : Nat) (Q : Int32 → PH → Prop)  (hw : wp_X7_outside a0 a1 a2 h Q) : MI Z l yX7_outside cX7_outside 3 (some .boolean) ({ frames := 0, cells := 0, slots := 0, locals := 0 } : Room) h sz [.int a0, .int a1, .int a2] Q := by
  refine open_M hZ (by decide +kernel) (by exact Nat.le_of_ble_eq_true rfl) ?_
  intro p e s m below meth c B hr hsz ls hl hH
  subst hsz
  have hl : lv_has ls 3 [(0, .int a0), (1, .int a1), (2, .int a2)] := hl
  unfold wp_X7_outside at hw
  refine lv_iload_n B.1 B.2.1 dX7_outside_0 rfl (lv_at hl 0 rfl) ?_
  refine lv_iload_n B.1 B.2.1 dX7_outside_1 rfl (lv_at hl 1 rfl) ?_
  refine lv_icmp_lt (tgt := 10) B.1 B.2.1 dX7_outside_2 (by decide) (fun c1 => ?_) (fun c1 => ?_)
  · have hw := hw.1 c1
    refine lv_iconst (v := 1) B.1 B.2.1 dX7_outside_10 (by decide) ?_
    refine lv_goto (tgt := 15) B.1 B.2.1 dX7_outside_11 (by decide) ?_
    exact e_z B hr (by decide) hH hw dX7_outside_15
  · have hw := hw.2 c1
    refine lv_iload_n B.1 B.2.1 dX7_outside_5 rfl (lv_at hl 0 rfl) ?_
    refine lv_iload_n B.1 B.2.1 dX7_outside_6 rfl (lv_at hl 2 rfl) ?_
    refine lv_icmp_le (tgt := 14) B.1 B.2.1 dX7_outside_7 (by decide) (fun c2 => ?_) (fun c2 => ?_)
    · have hw := hw.1 c2
      refine lv_iconst (v := 0) B.1 B.2.1 dX7_outside_14 (by decide) ?_
      exact e_z B hr (by decide) hH hw dX7_outside_15
    · have hw := hw.2 c2
      refine lv_iconst (v := 1) B.1 B.2.1 dX7_outside_10 (by decide) ?_
      refine lv_goto (tgt := 15) B.1 B.2.1 dX7_outside_11 (by decide) ?_
      exact e_z B hr (by decide) hH hw dX7_outside_15
theorem cy_X3_copyFrom {s : State} {args : Array Value} (hG : GG s) : CYV s args yX3_copyFrom cX3_copyFrom 2 none 1 := CYV.of hG (fun _ _ hG => tw_763 hG) (tw_3 hG) (tw_762 hG) (tp_55 hG) (by decide +kernel)
set_option maxRecDepth 100000 in
set_option maxHeartbeats 4000000 in
theorem ct_X3_copyFrom {Z : ZT} (hZ : ZO Z) (l : Launch) (a0 : Nat) (a1 : Nat) (h : PH) (sz : Nat) (Q : PH → Prop) (k0 : kd a0 = 3) (k1 : kd a1 = 3) (hw : wp_X3_copyFrom a0 a1 h Q) : MV Z l yX3_copyFrom cX3_copyFrom 2 none ({ frames := 2, cells := 0, slots := 0, locals := 49 } : Room) h sz [.ref (zA Z a0), .ref (zA Z a1)] Q := by
  refine open_M hZ (by decide +kernel) (by exact Nat.le_of_ble_eq_true rfl) ?_
  intro p e s m below meth c B hr hsz ls hl hH
  subst hsz
  have hl : lv_has ls 2 [(0, .ref (zA Z a0)), (1, .ref (zA Z a1))] := hl
  unfold wp_X3_copyFrom at hw
  refine lv_aload_n B.1 B.2.1 dX3_copyFrom_0 rfl (lv_at hl 0 rfl) ?_
  refine lv_aload_n B.1 B.2.1 dX3_copyFrom_1 rfl (lv_at hl 1 rfl) ?_
  refine r_get B hH (own := RX3) (kd_n B (k1) (by decide) (by decide)) (ct_3 (k1)) rfl (ul_3 B.2.2.2.2.1) 1 (by decide) rfl (tw_47 B.2.2.2.2.1) dX3_copyFrom_2 ?_
  refine r_put B hH (own := RX3) (kd_n B (k0) (by decide) (by decide)) (ct_3 (k0)) rfl (ul_3 B.2.2.2.2.1) tyX3 tyX3_ok nmX3 1 (by decide) (ty := .int) rfl rfl rfl rfl (Nat.le_of_ble_eq_true rfl) (cs_3_1 (k0)) (tw_47 B.2.2.2.2.1) dX3_copyFrom_5 (fun H locs hH => ?_)
  refine lv_aload_n B.1 B.2.1 dX3_copyFrom_8 rfl (lv_at hl 1 rfl) ?_
  refine r_get B hH (own := RX3) (kd_n B (k1) (by decide) (by decide)) (ct_3 (k1)) rfl (ul_3 B.2.2.2.2.1) 0 (by decide) rfl (tw_43 B.2.2.2.2.1) dX3_copyFrom_9 ?_
  refine lv_aload_n B.1 B.2.1 dX3_copyFrom_12 rfl (lv_at hl 0 rfl) ?_
  refine r_get B hH (own := RX3) (kd_n B (k0) (by decide) (by decide)) (ct_3 (k0)) rfl (ul_3 B.2.2.2.2.1) 0 (by decide) rfl (tw_43 B.2.2.2.2.1) dX3_copyFrom_13 ?_
  refine lv_aload_n B.1 B.2.1 dX3_copyFrom_16 rfl (lv_at hl 1 rfl) ?_
  refine r_get B hH (own := RX3) (kd_n B (k1) (by decide) (by decide)) (ct_3 (k1)) rfl (ul_3 B.2.2.2.2.1) 1 (by decide) rfl (tw_47 B.2.2.2.2.1) dX3_copyFrom_17 ?_
  refine c_SN_V (own := RX3) (As := [.ref (zA Z (a1 + 1)), .ref (zA Z (a0 + 1)), .int ((up2 h a0 1 (h a1 1)) a1 1)]) (rest := []) B hH (cy_X7_copyRow B.2.2.2.2.1) (ct_X7_copyRow B.2.2.2.2.2.2.2 l (a1 + 1) (a0 + 1) ((up2 h a0 1 (h a1 1)) a1 1) (up2 h a0 1 (h a1 1)) _ _ (kf_3_0 (k1)) (kf_3_0 (k0)) hw) ⟨⟨rfl, rfl⟩, Nat.le_of_ble_eq_true rfl, Nat.le_of_ble_eq_true rfl, Nat.zero_le _, Nat.zero_le _⟩ (tw_764 B.2.2.2.2.1) rfl hl.1 rfl (Nat.le_of_ble_eq_true rfl) dX3_copyFrom_20 (fun h1 H locs hw hH => ?_)
  exact e_v B hr hH hw dX3_copyFrom_23
theorem cy_X3_begin {s : State} {args : Array Value} (hG : GG s) : CYV s args yX3_begin cX3_begin 3 none 1 := CYV.of hG (fun _ _ hG => tw_529 hG) (tw_3 hG) (tw_528 hG) (tp_25 hG) (by decide +kernel)
set_option maxRecDepth 100000 in
set_option maxHeartbeats 4000000 in
theorem ct_X3_begin {Z : ZT} (hZ : ZO Z) (l : Launch) (a0 : Nat) (a1 : Int32) (h : PH) (sz : Nat) (Q : PH → Prop) (k0 : kd a0 = 3) (hw : wp_X3_begin a0 a1 h Q) : MV Z l yX3_begin cX3_begin 3 none ({ frames := 0, cells := 0, slots := 0, locals := 0 } : Room) h sz [.ref (zA Z a0), .int a1] Q := by
  refine open_M hZ (by decide +kernel) (by exact Nat.le_of_ble_eq_true rfl) ?_
  intro p e s m below meth c B hr hsz ls hl hH
  subst hsz
  have hl : lv_has ls 3 [(0, .ref (zA Z a0)), (1, .int a1)] := hl
  unfold wp_X3_begin at hw
  have L7 : ∀ (b0 : Nat), kd b0 = 3 → ∀ (n : Nat) (b2 : Int32) (h : PH), ∀ (H : Heap) (locs : List Loc) (ls : Array Slot), wp_X3_begin_b7 b0 Q n b2 h → HH Z s h H locs → lv_has ls 3 [(0, .ref (zA Z b0)), (2, .int b2)] → W p l e ({ frames := 0, cells := 0, slots := 0, locals := 0 } : Room) s m ([.ref (zA Z a0), .int a1]).toArray below meth c H locs 0 0 (MQ below (va_Qv Q (BZ Z) (fr Z s.heap.size)) ([.ref (zA Z a0), .int a1]).toArray s 0 0 (fr Z s.heap.size)) (F0 m 7 ls []) := by
    intro b0 kb0 n
    induction n with
    | zero => intro b2 h H locs ls hw hH hl; exact absurd hw id
    | succ n ih =>
      intro b2 h H locs ls hw hH hl
      unfold wp_X3_begin_b7 at hw
      refine lv_iload_n B.1 B.2.1 dX3_begin_7 rfl (lv_at hl 1 rfl) ?_
      refine lv_aload_n B.1 B.2.1 dX3_begin_8 rfl (lv_at hl 0 rfl) ?_
      refine r_get B hH (own := RX3) (kd_n B (kb0) (by decide) (by decide)) (ct_3 (kb0)) rfl (ul_3 B.2.2.2.2.1) 0 (by decide) rfl (tw_43 B.2.2.2.2.1) dX3_begin_9 ?_
      refine r_alen B hH (kf_3_0 (kb0)) dX3_begin_12 ?_
      refine lv_icmp_ge (tgt := 29) B.1 B.2.1 dX3_begin_13 (by decide) (fun c1 => ?_) (fun c1 => ?_)
      · have hw := hw.1 c1
        exact e_v B hr hH hw dX3_begin_29
      · have hw := hw.2 c1
        refine lv_aload_n B.1 B.2.1 dX3_begin_16 rfl (lv_at hl 0 rfl) ?_
        refine r_get B hH (own := RX3) (kd_n B (kb0) (by decide) (by decide)) (ct_3 (kb0)) rfl (ul_3 B.2.2.2.2.1) 0 (by decide) rfl (tw_43 B.2.2.2.2.1) dX3_begin_17 ?_
        refine lv_iload_n B.1 B.2.1 dX3_begin_20 rfl (lv_at hl 1 rfl) ?_
        refine lv_iconst (v := 0) B.1 B.2.1 dX3_begin_21 (by decide) ?_
        have q2 := hw.1
        have hw := hw.2
        refine r_iast B hH (kf_3_0 (kb0)) q2 dX3_begin_22 (fun H locs hH => ?_)
        obtain ⟨x3, ex3⟩ : ∃ y : Int32, y = b2 + 1 := ⟨_, rfl⟩
        have hw := hw x3 ex3
        refine lv_iinc (v := x3) (lv' := [(2, .int x3), (0, .ref (zA Z b0))]) B.1 B.2.1 dX3_begin_23 hl (k := 1) rfl (by rw [ex3]; rfl) (by decide) (by first | rfl | simp [va_re_cat, Value.category]) (fun ls hl => ?_)
        refine lv_goto (tgt := 7) B.1 B.2.1 dX3_begin_26 (by decide) ?_
        exact ih x3 (up2 h (b0 + 1) b2.toNatClampNeg 0)  _ _ _ hw hH (lv_sub hl [1, 0] rfl)
  refine lv_aload_n B.1 B.2.1 dX3_begin_0 rfl (lv_at hl 0 rfl) ?_
  refine lv_iload_n B.1 B.2.1 dX3_begin_1 rfl (lv_at hl 1 rfl) ?_
  refine r_put B hH (own := RX3) (kd_n B (k0) (by decide) (by decide)) (ct_3 (k0)) rfl (ul_3 B.2.2.2.2.1) tyX3 tyX3_ok nmX3 1 (by decide) (ty := .int) rfl rfl rfl rfl (Nat.le_of_ble_eq_true rfl) (cs_3_1 (k0)) (tw_47 B.2.2.2.2.1) dX3_begin_2 (fun H locs hH => ?_)
  refine lv_iconst (v := 0) B.1 B.2.1 dX3_begin_5 (by decide) ?_
  refine lv_istore_n (lv' := [(2, .int 0), (0, .ref (zA Z a0)), (1, .int a1)]) B.1 B.2.1 dX3_begin_6 rfl hl (by decide) (by first | rfl | simp [va_re_cat, Value.category]) (fun ls hl => ?_)
  obtain ⟨n4, hw⟩ := hw
  exact L7 a0 (k0) n4 0 (up2 h a0 1 a1)  _ _ _ hw hH (lv_sub hl [1, 0] rfl)
theorem cy_X3_hasCell {s : State} {args : Array Value} (hG : GG s) : CYV s args yX3_hasCell cX3_hasCell 2 (some .boolean) 1 := CYV.of hG (fun _ _ hG => tw_493 hG) (tw_3 hG) (tw_492 hG) (tp_20 hG) (by decide +kernel)
set_option maxRecDepth 100000 in
set_option maxHeartbeats 4000000 in
theorem ct_X3_hasCell {Z : ZT} (hZ : ZO Z) (l : Launch) (a0 : Nat) (a1 : Int32) (h : PH) (sz : Nat) (Q : Int32 → PH → Prop) (k0 : kd a0 = 3) (hw : wp_X3_hasCell a0 a1 h Q) : MI Z l yX3_hasCell cX3_hasCell 2 (some .boolean) ({ frames := 1, cells := 0, slots := 0, locals := 22 } : Room) h sz [.ref (zA Z a0), .int a1] Q := by
  refine open_M hZ (by decide +kernel) (by exact Nat.le_of_ble_eq_true rfl) ?_
  intro p e s m below meth c B hr hsz ls hl hH
  subst hsz
  have hl : lv_has ls 2 [(0, .ref (zA Z a0)), (1, .int a1)] := hl
  unfold wp_X3_hasCell at hw
  refine lv_iload_n B.1 B.2.1 dX3_hasCell_0 rfl (lv_at hl 1 rfl) ?_
  refine lv_iconst (v := 0) B.1 B.2.1 dX3_hasCell_1 (by decide) ?_
  refine lv_aload_n B.1 B.2.1 dX3_hasCell_2 rfl (lv_at hl 0 rfl) ?_
  refine r_get B hH (own := RX3) (kd_n B (k0) (by decide) (by decide)) (ct_3 (k0)) rfl (ul_3 B.2.2.2.2.1) 1 (by decide) rfl (tw_47 B.2.2.2.2.1) dX3_hasCell_3 ?_
  refine lv_iconst (v := 1) B.1 B.2.1 dX3_hasCell_6 (by decide) ?_
  refine lv_isub B.1 B.2.1 dX3_hasCell_7 ?_
  refine c_SN_I (own := RX3) (As := [.int a1, .int 0, .int ((h a0 1) - 1)]) (rest := []) B hH (cy_X7_outside B.2.2.2.2.1) (ct_X7_outside B.2.2.2.2.2.2.2 l a1 0 ((h a0 1) - 1) h _ _  hw) ⟨⟨rfl, rfl⟩, Nat.le_of_ble_eq_true rfl, Nat.le_of_ble_eq_true rfl, Nat.zero_le _, Nat.zero_le _⟩ (tw_494 B.2.2.2.2.1) rfl hl.1 rfl (Nat.le_of_ble_eq_true rfl) dX3_hasCell_8 (fun r2 h1 H locs hw hH => ?_)
  refine lv_if_ne (tgt := 18) B.1 B.2.1 dX3_hasCell_11 (by decide) (fun c3 => ?_) (fun c3 => ?_)
  · have hw := hw.1 c3
    refine lv_iconst (v := 0) B.1 B.2.1 dX3_hasCell_18 (by decide) ?_
    exact e_z B hr (by decide) hH hw dX3_hasCell_19
  · have hw := hw.2 c3
    refine lv_iconst (v := 1) B.1 B.2.1 dX3_hasCell_14 (by decide) ?_
    refine lv_goto (tgt := 19) B.1 B.2.1 dX3_hasCell_15 (by decide) ?_
    exact e_z B hr (by decide) hH hw dX3_hasCell_19
theorem cy_X3_hasPlace {s : State} {args : Array Value} (hG : GG s) : CYV s args yX3_hasPlace cX3_hasPlace 2 (some .boolean) 1 := CYV.of hG (fun _ _ hG => tw_502 hG) (tw_3 hG) (tw_501 hG) (tp_21 hG) (by decide +kernel)
set_option maxRecDepth 100000 in
set_option maxHeartbeats 4000000 in
theorem ct_X3_hasPlace {Z : ZT} (hZ : ZO Z) (l : Launch) (a0 : Nat) (a1 : Int32) (h : PH) (sz : Nat) (Q : Int32 → PH → Prop) (k0 : kd a0 = 3) (hw : wp_X3_hasPlace a0 a1 h Q) : MI Z l yX3_hasPlace cX3_hasPlace 2 (some .boolean) ({ frames := 1, cells := 0, slots := 0, locals := 22 } : Room) h sz [.ref (zA Z a0), .int a1] Q := by
  refine open_M hZ (by decide +kernel) (by exact Nat.le_of_ble_eq_true rfl) ?_
  intro p e s m below meth c B hr hsz ls hl hH
  subst hsz
  have hl : lv_has ls 2 [(0, .ref (zA Z a0)), (1, .int a1)] := hl
  unfold wp_X3_hasPlace at hw
  refine lv_iload_n B.1 B.2.1 dX3_hasPlace_0 rfl (lv_at hl 1 rfl) ?_
  refine lv_iconst (v := 0) B.1 B.2.1 dX3_hasPlace_1 (by decide) ?_
  refine lv_aload_n B.1 B.2.1 dX3_hasPlace_2 rfl (lv_at hl 0 rfl) ?_
  refine r_get B hH (own := RX3) (kd_n B (k0) (by decide) (by decide)) (ct_3 (k0)) rfl (ul_3 B.2.2.2.2.1) 1 (by decide) rfl (tw_47 B.2.2.2.2.1) dX3_hasPlace_3 ?_
  refine c_SN_I (own := RX3) (As := [.int a1, .int 0, .int (h a0 1)]) (rest := []) B hH (cy_X7_outside B.2.2.2.2.1) (ct_X7_outside B.2.2.2.2.2.2.2 l a1 0 (h a0 1) h _ _  hw) ⟨⟨rfl, rfl⟩, Nat.le_of_ble_eq_true rfl, Nat.le_of_ble_eq_true rfl, Nat.zero_le _, Nat.zero_le _⟩ (tw_494 B.2.2.2.2.1) rfl hl.1 rfl (Nat.le_of_ble_eq_true rfl) dX3_hasPlace_6 (fun r2 h1 H locs hw hH => ?_)
  refine lv_if_ne (tgt := 16) B.1 B.2.1 dX3_hasPlace_9 (by decide) (fun c3 => ?_) (fun c3 => ?_)
  · have hw := hw.1 c3
    refine lv_iconst (v := 0) B.1 B.2.1 dX3_hasPlace_16 (by decide) ?_
    exact e_z B hr (by decide) hH hw dX3_hasPlace_17
  · have hw := hw.2 c3
    refine lv_iconst (v := 1) B.1 B.2.1 dX3_hasPlace_12 (by decide) ?_
    refine lv_goto (tgt := 17) B.1 B.2.1 dX3_hasPlace_13 (by decide) ?_
    exact e_z B hr (by decide) hH hw dX3_hasPlace_17
theorem cy_X3_isSilent {s : State} {args : Array Value} (hG : GG s) : CYV s args yX3_isSilent cX3_isSilent 2 (some .boolean) 1 := CYV.of hG (fun _ _ hG => tw_656 hG) (tw_3 hG) (tw_655 hG) (tp_44 hG) (by decide +kernel)
set_option maxRecDepth 100000 in
set_option maxHeartbeats 4000000 in
theorem ct_X3_isSilent {Z : ZT} (hZ : ZO Z) (l : Launch) (a0 : Nat) (a1 : Int32) (h : PH) (sz : Nat) (Q : Int32 → PH → Prop) (k0 : kd a0 = 3) (hw : wp_X3_isSilent a0 a1 h Q) : MI Z l yX3_isSilent cX3_isSilent 2 (some .boolean) ({ frames := 1, cells := 0, slots := 0, locals := 21 } : Room) h sz [.ref (zA Z a0), .int a1] Q := by
  refine open_M hZ (by decide +kernel) (by exact Nat.le_of_ble_eq_true rfl) ?_
  intro p e s m below meth c B hr hsz ls hl hH
  subst hsz
  have hl : lv_has ls 2 [(0, .ref (zA Z a0)), (1, .int a1)] := hl
  unfold wp_X3_isSilent at hw
  refine lv_aload_n B.1 B.2.1 dX3_isSilent_0 rfl (lv_at hl 0 rfl) ?_
  refine r_get B hH (own := RX3) (kd_n B (k0) (by decide) (by decide)) (ct_3 (k0)) rfl (ul_3 B.2.2.2.2.1) 0 (by decide) rfl (tw_43 B.2.2.2.2.1) dX3_isSilent_1 ?_
  refine lv_iload_n B.1 B.2.1 dX3_isSilent_4 rfl (lv_at hl 1 rfl) ?_
  refine c_SN_I (own := RX3) (As := [.ref (zA Z (a0 + 1)), .int a1]) (rest := []) B hH (cy_X7_get B.2.2.2.2.1) (ct_X7_get B.2.2.2.2.2.2.2 l (a0 + 1) a1 h _ _ (kf_3_0 (k0)) hw) ⟨⟨rfl, rfl⟩, Nat.le_of_ble_eq_true rfl, Nat.le_of_ble_eq_true rfl, Nat.zero_le _, Nat.zero_le _⟩ (tw_517 B.2.2.2.2.1) rfl hl.1 rfl (Nat.le_of_ble_eq_true rfl) dX3_isSilent_5 (fun r2 h1 H locs hw hH => ?_)
  refine lv_if_ne (tgt := 15) B.1 B.2.1 dX3_isSilent_8 (by decide) (fun c3 => ?_) (fun c3 => ?_)
  · have hw := hw.1 c3
    refine lv_iconst (v := 0) B.1 B.2.1 dX3_isSilent_15 (by decide) ?_
    exact e_z B hr (by decide) hH hw dX3_isSilent_16
  · have hw := hw.2 c3
    refine lv_iconst (v := 1) B.1 B.2.1 dX3_isSilent_11 (by decide) ?_
    refine lv_goto (tgt := 16) B.1 B.2.1 dX3_isSilent_12 (by decide) ?_
    exact e_z B hr (by decide) hH hw dX3_isSilent_16
theorem cy_X3_isQuiet {s : State} {args : Array Value} (hG : GG s) : CYV s args yX3_isQuiet cX3_isQuiet 2 (some .boolean) 1 := CYV.of hG (fun _ _ hG => tw_516 hG) (tw_3 hG) (tw_515 hG) (tp_22 hG) (by decide +kernel)
set_option maxRecDepth 100000 in
set_option maxHeartbeats 4000000 in
theorem ct_X3_isQuiet {Z : ZT} (hZ : ZO Z) (l : Launch) (a0 : Nat) (a1 : Int32) (h : PH) (sz : Nat) (Q : Int32 → PH → Prop) (k0 : kd a0 = 3) (hw : wp_X3_isQuiet a0 a1 h Q) : MI Z l yX3_isQuiet cX3_isQuiet 2 (some .boolean) ({ frames := 1, cells := 0, slots := 0, locals := 21 } : Room) h sz [.ref (zA Z a0), .int a1] Q := by
  refine open_M hZ (by decide +kernel) (by exact Nat.le_of_ble_eq_true rfl) ?_
  intro p e s m below meth c B hr hsz ls hl hH
  subst hsz
  have hl : lv_has ls 2 [(0, .ref (zA Z a0)), (1, .int a1)] := hl
  unfold wp_X3_isQuiet at hw
  refine lv_iload_n B.1 B.2.1 dX3_isQuiet_0 rfl (lv_at hl 1 rfl) ?_
  refine lv_if_eq (tgt := 36) B.1 B.2.1 dX3_isQuiet_1 (by decide) (fun c1 => ?_) (fun c1 => ?_)
  · have hw := hw.1 c1
    refine lv_iconst (v := 1) B.1 B.2.1 dX3_isQuiet_36 (by decide) ?_
    refine lv_goto (tgt := 41) B.1 B.2.1 dX3_isQuiet_37 (by decide) ?_
    exact e_z B hr (by decide) hH hw dX3_isQuiet_41
  · have hw := hw.2 c1
    refine lv_iload_n B.1 B.2.1 dX3_isQuiet_4 rfl (lv_at hl 1 rfl) ?_
    refine lv_aload_n B.1 B.2.1 dX3_isQuiet_5 rfl (lv_at hl 0 rfl) ?_
    refine r_get B hH (own := RX3) (kd_n B (k0) (by decide) (by decide)) (ct_3 (k0)) rfl (ul_3 B.2.2.2.2.1) 1 (by decide) rfl (tw_47 B.2.2.2.2.1) dX3_isQuiet_6 ?_
    refine lv_icmp_eq (tgt := 36) B.1 B.2.1 dX3_isQuiet_9 (by decide) (fun c2 => ?_) (fun c2 => ?_)
    · have hw := hw.1 c2
      refine lv_iconst (v := 1) B.1 B.2.1 dX3_isQuiet_36 (by decide) ?_
      refine lv_goto (tgt := 41) B.1 B.2.1 dX3_isQuiet_37 (by decide) ?_
      exact e_z B hr (by decide) hH hw dX3_isQuiet_41
    · have hw := hw.2 c2
      refine lv_aload_n B.1 B.2.1 dX3_isQuiet_12 rfl (lv_at hl 0 rfl) ?_
      refine r_get B hH (own := RX3) (kd_n B (k0) (by decide) (by decide)) (ct_3 (k0)) rfl (ul_3 B.2.2.2.2.1) 0 (by decide) rfl (tw_43 B.2.2.2.2.1) dX3_isQuiet_13 ?_
      refine lv_iload_n B.1 B.2.1 dX3_isQuiet_16 rfl (lv_at hl 1 rfl) ?_
      refine lv_iconst (v := 1) B.1 B.2.1 dX3_isQuiet_17 (by decide) ?_
      refine lv_isub B.1 B.2.1 dX3_isQuiet_18 ?_
      refine c_SN_I (own := RX3) (As := [.ref (zA Z (a0 + 1)), .int (a1 - 1)]) (rest := []) B hH (cy_X7_get B.2.2.2.2.1) (ct_X7_get B.2.2.2.2.2.2.2 l (a0 + 1) (a1 - 1) h _ _ (kf_3_0 (k0)) hw) ⟨⟨rfl, rfl⟩, Nat.le_of_ble_eq_true rfl, Nat.le_of_ble_eq_true rfl, Nat.zero_le _, Nat.zero_le _⟩ (tw_517 B.2.2.2.2.1) rfl hl.1 rfl (Nat.le_of_ble_eq_true rfl) dX3_isQuiet_19 (fun r4 h3 H locs hw hH => ?_)
      refine lv_if_ne (tgt := 40) B.1 B.2.1 dX3_isQuiet_22 (by decide) (fun c5 => ?_) (fun c5 => ?_)
      · have hw := hw.1 c5
        refine lv_iconst (v := 0) B.1 B.2.1 dX3_isQuiet_40 (by decide) ?_
        exact e_z B hr (by decide) hH hw dX3_isQuiet_41
      · have hw := hw.2 c5
        refine lv_aload_n B.1 B.2.1 dX3_isQuiet_25 rfl (lv_at hl 0 rfl) ?_
        refine r_get B hH (own := RX3) (kd_n B (k0) (by decide) (by decide)) (ct_3 (k0)) rfl (ul_3 B.2.2.2.2.1) 0 (by decide) rfl (tw_43 B.2.2.2.2.1) dX3_isQuiet_26 ?_
        refine lv_iload_n B.1 B.2.1 dX3_isQuiet_29 rfl (lv_at hl 1 rfl) ?_
        refine c_SN_I (own := RX3) (As := [.ref (zA Z (a0 + 1)), .int a1]) (rest := []) B hH (cy_X7_get B.2.2.2.2.1) (ct_X7_get B.2.2.2.2.2.2.2 l (a0 + 1) a1 h3 _ _ (kf_3_0 (k0)) hw) ⟨⟨rfl, rfl⟩, Nat.le_of_ble_eq_true rfl, Nat.le_of_ble_eq_true rfl, Nat.zero_le _, Nat.zero_le _⟩ (tw_517 B.2.2.2.2.1) rfl hl.1 rfl (Nat.le_of_ble_eq_true rfl) dX3_isQuiet_30 (fun r7 h6 H locs hw hH => ?_)
        refine lv_if_ne (tgt := 40) B.1 B.2.1 dX3_isQuiet_33 (by decide) (fun c8 => ?_) (fun c8 => ?_)
        · have hw := hw.1 c8
          refine lv_iconst (v := 0) B.1 B.2.1 dX3_isQuiet_40 (by decide) ?_
          exact e_z B hr (by decide) hH hw dX3_isQuiet_41
        · have hw := hw.2 c8
          refine lv_iconst (v := 1) B.1 B.2.1 dX3_isQuiet_36 (by decide) ?_
          refine lv_goto (tgt := 41) B.1 B.2.1 dX3_isQuiet_37 (by decide) ?_
          exact e_z B hr (by decide) hH hw dX3_isQuiet_41
theorem cy_X3_startsRow {s : State} {args : Array Value} (hG : GG s) : CYV s args yX3_startsRow cX3_startsRow 3 (some .boolean) 2 := CYV.of hG (fun _ _ hG => tw_652 hG) (tw_3 hG) (tw_651 hG) (tp_43 hG) (by decide +kernel)
set_option maxRecDepth 100000 in
set_option maxHeartbeats 4000000 in
theorem ct_X3_startsRow {Z : ZT} (hZ : ZO Z) (l : Launch) (a0 : Nat) (a1 : Int32) (a2 : Int32) (h : PH) (sz : Nat) (Q : Int32 → PH → Prop) (k0 : kd a0 = 3) (hw : wp_X3_startsRow a0 a1 a2 h Q) : MI Z l yX3_startsRow cX3_startsRow 3 (some .boolean) ({ frames := 2, cells := 0, slots := 0, locals := 42 } : Room) h sz [.ref (zA Z a0), .int a1, .int a2] Q := by
  refine open_M hZ (by decide +kernel) (by exact Nat.le_of_ble_eq_true rfl) ?_
  intro p e s m below meth c B hr hsz ls hl hH
  subst hsz
  have hl : lv_has ls 3 [(0, .ref (zA Z a0)), (1, .int a1), (2, .int a2)] := hl
  unfold wp_X3_startsRow at hw
  refine lv_aload_n B.1 B.2.1 dX3_startsRow_0 rfl (lv_at hl 0 rfl) ?_
  refine lv_iload_n B.1 B.2.1 dX3_startsRow_1 rfl (lv_at hl 1 rfl) ?_
  refine c_V_I (own := RX3) (As := [.int a1]) (rest := []) B hH (cy_X3_isSilent B.2.2.2.2.1) (ct_X3_isSilent B.2.2.2.2.2.2.2 l a0 a1 h _ _ (k0) hw) ⟨⟨rfl, rfl⟩, Nat.le_of_ble_eq_true rfl, Nat.le_of_ble_eq_true rfl, Nat.zero_le _, Nat.zero_le _⟩ (rv_3 B hH (k0)) (tw_653 B.2.2.2.2.1) rfl hl.1 rfl (Nat.le_of_ble_eq_true rfl) dX3_startsRow_2 (fun r2 h1 H locs hw hH => ?_)
  refine lv_iload_n B.1 B.2.1 dX3_startsRow_5 rfl (lv_at hl 2 rfl) ?_
  refine lv_icmp_ne (tgt := 28) B.1 B.2.1 dX3_startsRow_6 (by decide) (fun c3 => ?_) (fun c3 => ?_)
  · have hw := hw.1 c3
    refine lv_iconst (v := 0) B.1 B.2.1 dX3_startsRow_28 (by decide) ?_
    exact e_z B hr (by decide) hH hw dX3_startsRow_29
  · have hw := hw.2 c3
    refine lv_iload_n B.1 B.2.1 dX3_startsRow_9 rfl (lv_at hl 1 rfl) ?_
    refine lv_if_eq (tgt := 24) B.1 B.2.1 dX3_startsRow_10 (by decide) (fun c4 => ?_) (fun c4 => ?_)
    · have hw := hw.1 c4
      refine lv_iconst (v := 1) B.1 B.2.1 dX3_startsRow_24 (by decide) ?_
      refine lv_goto (tgt := 29) B.1 B.2.1 dX3_startsRow_25 (by decide) ?_
      exact e_z B hr (by decide) hH hw dX3_startsRow_29
    · have hw := hw.2 c4
      refine lv_aload_n B.1 B.2.1 dX3_startsRow_13 rfl (lv_at hl 0 rfl) ?_
      refine lv_iload_n B.1 B.2.1 dX3_startsRow_14 rfl (lv_at hl 1 rfl) ?_
      refine lv_iconst (v := 1) B.1 B.2.1 dX3_startsRow_15 (by decide) ?_
      refine lv_isub B.1 B.2.1 dX3_startsRow_16 ?_
      refine c_V_I (own := RX3) (As := [.int (a1 - 1)]) (rest := []) B hH (cy_X3_isSilent B.2.2.2.2.1) (ct_X3_isSilent B.2.2.2.2.2.2.2 l a0 (a1 - 1) h1 _ _ (k0) hw) ⟨⟨rfl, rfl⟩, Nat.le_of_ble_eq_true rfl, Nat.le_of_ble_eq_true rfl, Nat.zero_le _, Nat.zero_le _⟩ (rv_3 B hH (k0)) (tw_653 B.2.2.2.2.1) rfl hl.1 rfl (Nat.le_of_ble_eq_true rfl) dX3_startsRow_17 (fun r6 h5 H locs hw hH => ?_)
      refine lv_iload_n B.1 B.2.1 dX3_startsRow_20 rfl (lv_at hl 2 rfl) ?_
      refine lv_icmp_eq (tgt := 28) B.1 B.2.1 dX3_startsRow_21 (by decide) (fun c7 => ?_) (fun c7 => ?_)
      · have hw := hw.1 c7
        refine lv_iconst (v := 0) B.1 B.2.1 dX3_startsRow_28 (by decide) ?_
        exact e_z B hr (by decide) hH hw dX3_startsRow_29
      · have hw := hw.2 c7
        refine lv_iconst (v := 1) B.1 B.2.1 dX3_startsRow_24 (by decide) ?_
        refine lv_goto (tgt := 29) B.1 B.2.1 dX3_startsRow_25 (by decide) ?_
        exact e_z B hr (by decide) hH hw dX3_startsRow_29
theorem cy_X3_countRows {s : State} {args : Array Value} (hG : GG s) : CYV s args yX3_countRows cX3_countRows 4 (some .int) 1 := CYV.of hG (fun _ _ hG => tw_648 hG) (tw_3 hG) (tw_647 hG) (tp_42 hG) (by decide +kernel)
set_option maxRecDepth 100000 in
set_option maxHeartbeats 4000000 in
theorem ct_X3_countRows {Z : ZT} (hZ : ZO Z) (l : Launch) (a0 : Nat) (a1 : Int32) (h : PH) (sz : Nat) (Q : Int32 → PH → Prop) (k0 : kd a0 = 3) (hw : wp_X3_countRows a0 a1 h Q) : MI Z l yX3_countRows cX3_countRows 4 (some .int) ({ frames := 3, cells := 0, slots := 0, locals := 64 } : Room) h sz [.ref (zA Z a0), .int a1] Q := by
  refine open_M hZ (by decide +kernel) (by exact Nat.le_of_ble_eq_true rfl) ?_
  intro p e s m below meth c B hr hsz ls hl hH
  subst hsz
  have hl : lv_has ls 4 [(0, .ref (zA Z a0)), (1, .int a1)] := hl
  unfold wp_X3_countRows at hw
  have L4 : ∀ (b0 : Nat) (b1 : Int32), kd b0 = 3 → ∀ (n : Nat) (b2 : Int32) (b3 : Int32) (h : PH), ∀ (H : Heap) (locs : List Loc) (ls : Array Slot), wp_X3_countRows_b4 b0 b1 Q n b2 b3 h → HH Z s h H locs → lv_has ls 4 [(0, .ref (zA Z b0)), (1, .int b1), (2, .int b2), (3, .int b3)] → W p l e ({ frames := 3, cells := 0, slots := 0, locals := 64 } : Room) s m ([.ref (zA Z a0), .int a1]).toArray below meth c H locs 0 0 (MQ below (va_Qi Q (BZ Z) (fr Z s.heap.size)) ([.ref (zA Z a0), .int a1]).toArray s 0 0 (fr Z s.heap.size)) (F0 m 4 ls []) := by
    intro b0 b1 kb0 n
    induction n with
    | zero => intro b2 b3 h H locs ls hw hH hl; exact absurd hw id
    | succ n ih =>
      intro b2 b3 h H locs ls hw hH hl
      unfold wp_X3_countRows_b4 at hw
      refine lv_iload_n B.1 B.2.1 dX3_countRows_4 rfl (lv_at hl 3 rfl) ?_
      refine lv_aload_n B.1 B.2.1 dX3_countRows_5 rfl (lv_at hl 0 rfl) ?_
      refine r_get B hH (own := RX3) (kd_n B (kb0) (by decide) (by decide)) (ct_3 (kb0)) rfl (ul_3 B.2.2.2.2.1) 1 (by decide) rfl (tw_47 B.2.2.2.2.1) dX3_countRows_6 ?_
      refine lv_icmp_ge (tgt := 30) B.1 B.2.1 dX3_countRows_9 (by decide) (fun c1 => ?_) (fun c1 => ?_)
      · have hw := hw.1 c1
        refine lv_iload_n B.1 B.2.1 dX3_countRows_30 rfl (lv_at hl 2 rfl) ?_
        exact e_i B hr hH hw dX3_countRows_31
      · have hw := hw.2 c1
        refine lv_aload_n B.1 B.2.1 dX3_countRows_12 rfl (lv_at hl 0 rfl) ?_
        refine lv_iload_n B.1 B.2.1 dX3_countRows_13 rfl (lv_at hl 3 rfl) ?_
        refine lv_iload_n B.1 B.2.1 dX3_countRows_14 rfl (lv_at hl 1 rfl) ?_
        refine c_V_I (own := RX3) (As := [.int b3, .int b1]) (rest := []) B hH (cy_X3_startsRow B.2.2.2.2.1) (ct_X3_startsRow B.2.2.2.2.2.2.2 l b0 b3 b1 h _ _ (kb0) hw) ⟨⟨rfl, rfl⟩, Nat.le_of_ble_eq_true rfl, Nat.le_of_ble_eq_true rfl, Nat.zero_le _, Nat.zero_le _⟩ (rv_3 B hH (kb0)) (tw_649 B.2.2.2.2.1) rfl hl.1 rfl (Nat.le_of_ble_eq_true rfl) dX3_countRows_15 (fun r3 h2 H locs hw hH => ?_)
        refine lv_if_eq (tgt := 24) B.1 B.2.1 dX3_countRows_18 (by decide) (fun c4 => ?_) (fun c4 => ?_)
        · have hw := hw.1 c4
          obtain ⟨x5, ex5⟩ : ∃ y : Int32, y = b3 + 1 := ⟨_, rfl⟩
          have hw := hw x5 ex5
          refine lv_iinc (v := x5) (lv' := [(3, .int x5), (0, .ref (zA Z b0)), (1, .int b1), (2, .int b2)]) B.1 B.2.1 dX3_countRows_24 hl (k := 3) rfl (by rw [ex5]; rfl) (by decide) (by first | rfl | simp [va_re_cat, Value.category]) (fun ls hl => ?_)
          refine lv_goto (tgt := 4) B.1 B.2.1 dX3_countRows_27 (by decide) ?_
          exact ih b2 x5 h2  _ _ _ hw hH (lv_sub hl [1, 2, 3, 0] rfl)
        · have hw := hw.2 c4
          obtain ⟨x6, ex6⟩ : ∃ y : Int32, y = b2 + 1 := ⟨_, rfl⟩
          have hw := hw x6 ex6
          refine lv_iinc (v := x6) (lv' := [(2, .int x6), (0, .ref (zA Z b0)), (1, .int b1), (3, .int b3)]) B.1 B.2.1 dX3_countRows_21 hl (k := 2) rfl (by rw [ex6]; rfl) (by decide) (by first | rfl | simp [va_re_cat, Value.category]) (fun ls hl => ?_)
          obtain ⟨x7, ex7⟩ : ∃ y : Int32, y = b3 + 1 := ⟨_, rfl⟩
          have hw := hw x7 ex7
          refine lv_iinc (v := x7) (lv' := [(3, .int x7), (2, .int x6), (0, .ref (zA Z b0)), (1, .int b1)]) B.1 B.2.1 dX3_countRows_24 hl (k := 3) rfl (by rw [ex7]; rfl) (by decide) (by first | rfl | simp [va_re_cat, Value.category]) (fun ls hl => ?_)
          refine lv_goto (tgt := 4) B.1 B.2.1 dX3_countRows_27 (by decide) ?_
          exact ih x6 x7 h2  _ _ _ hw hH (lv_sub hl [2, 3, 1, 0] rfl)
  refine lv_iconst (v := 0) B.1 B.2.1 dX3_countRows_0 (by decide) ?_
  refine lv_istore_n (lv' := [(2, .int 0), (0, .ref (zA Z a0)), (1, .int a1)]) B.1 B.2.1 dX3_countRows_1 rfl hl (by decide) (by first | rfl | simp [va_re_cat, Value.category]) (fun ls hl => ?_)
  refine lv_iconst (v := 0) B.1 B.2.1 dX3_countRows_2 (by decide) ?_
  refine lv_istore_n (lv' := [(3, .int 0), (2, .int 0), (0, .ref (zA Z a0)), (1, .int a1)]) B.1 B.2.1 dX3_countRows_3 rfl hl (by decide) (by first | rfl | simp [va_re_cat, Value.category]) (fun ls hl => ?_)
  obtain ⟨n8, hw⟩ := hw
  exact L4 a0 a1 (k0) n8 0 0 h  _ _ _ hw hH (lv_sub hl [2, 3, 1, 0] rfl)
theorem cy_X3_startOfRow {s : State} {args : Array Value} (hG : GG s) : CYV s args yX3_startOfRow cX3_startOfRow 5 (some .int) 2 := CYV.of hG (fun _ _ hG => tw_690 hG) (tw_3 hG) (tw_689 hG) (tp_48 hG) (by decide +kernel)
set_option maxRecDepth 100000 in
set_option maxHeartbeats 4000000 in
theorem ct_X3_startOfRow {Z : ZT} (hZ : ZO Z) (l : Launch) (a0 : Nat) (a1 : Int32) (a2 : Int32) (h : PH) (sz : Nat) (Q : Int32 → PH → Prop) (k0 : kd a0 = 3) (hw : wp_X3_startOfRow a0 a1 a2 h Q) : MI Z l yX3_startOfRow cX3_startOfRow 5 (some .int) ({ frames := 3, cells := 0, slots := 0, locals := 64 } : Room) h sz [.ref (zA Z a0), .int a1, .int a2] Q := by
  refine open_M hZ (by decide +kernel) (by exact Nat.le_of_ble_eq_true rfl) ?_
  intro p e s m below meth c B hr hsz ls hl hH
  subst hsz
  have hl : lv_has ls 5 [(0, .ref (zA Z a0)), (1, .int a1), (2, .int a2)] := hl
  unfold wp_X3_startOfRow at hw
  have L5 : ∀ (b0 : Nat) (b1 : Int32) (b2 : Int32), kd b0 = 3 → ∀ (n : Nat) (b3 : Int32) (b4 : Int32) (h : PH), ∀ (H : Heap) (locs : List Loc) (ls : Array Slot), wp_X3_startOfRow_b5 b0 b1 b2 Q n b3 b4 h → HH Z s h H locs → lv_has ls 5 [(0, .ref (zA Z b0)), (1, .int b1), (2, .int b2), (3, .int b3), (4, .int b4)] → W p l e ({ frames := 3, cells := 0, slots := 0, locals := 64 } : Room) s m ([.ref (zA Z a0), .int a1, .int a2]).toArray below meth c H locs 0 0 (MQ below (va_Qi Q (BZ Z) (fr Z s.heap.size)) ([.ref (zA Z a0), .int a1, .int a2]).toArray s 0 0 (fr Z s.heap.size)) (F0 m 5 ls []) := by
    intro b0 b1 b2 kb0 n
    induction n with
    | zero => intro b3 b4 h H locs ls hw hH hl; exact absurd hw id
    | succ n ih =>
      intro b3 b4 h H locs ls hw hH hl
      unfold wp_X3_startOfRow_b5 at hw
      refine lv_iload B.1 B.2.1 dX3_startOfRow_5 (lv_at hl 4 rfl) ?_
      refine lv_aload_n B.1 B.2.1 dX3_startOfRow_7 rfl (lv_at hl 0 rfl) ?_
      refine r_get B hH (own := RX3) (kd_n B (kb0) (by decide) (by decide)) (ct_3 (kb0)) rfl (ul_3 B.2.2.2.2.1) 1 (by decide) rfl (tw_47 B.2.2.2.2.1) dX3_startOfRow_8 ?_
      refine lv_icmp_ge (tgt := 41) B.1 B.2.1 dX3_startOfRow_11 (by decide) (fun c1 => ?_) (fun c1 => ?_)
      · have hw := hw.1 c1
        refine lv_iconst (v := (-1)) B.1 B.2.1 dX3_startOfRow_41 (by decide) ?_
        exact e_i B hr hH hw dX3_startOfRow_42
      · have hw := hw.2 c1
        refine lv_aload_n B.1 B.2.1 dX3_startOfRow_14 rfl (lv_at hl 0 rfl) ?_
        refine lv_iload B.1 B.2.1 dX3_startOfRow_15 (lv_at hl 4 rfl) ?_
        refine lv_iload_n B.1 B.2.1 dX3_startOfRow_17 rfl (lv_at hl 2 rfl) ?_
        refine c_V_I (own := RX3) (As := [.int b4, .int b2]) (rest := []) B hH (cy_X3_startsRow B.2.2.2.2.1) (ct_X3_startsRow B.2.2.2.2.2.2.2 l b0 b4 b2 h _ _ (kb0) hw) ⟨⟨rfl, rfl⟩, Nat.le_of_ble_eq_true rfl, Nat.le_of_ble_eq_true rfl, Nat.zero_le _, Nat.zero_le _⟩ (rv_3 B hH (kb0)) (tw_649 B.2.2.2.2.1) rfl hl.1 rfl (Nat.le_of_ble_eq_true rfl) dX3_startOfRow_18 (fun r3 h2 H locs hw hH => ?_)
        refine lv_if_eq (tgt := 35) B.1 B.2.1 dX3_startOfRow_21 (by decide) (fun c4 => ?_) (fun c4 => ?_)
        · have hw := hw.1 c4
          obtain ⟨x5, ex5⟩ : ∃ y : Int32, y = b4 + 1 := ⟨_, rfl⟩
          have hw := hw x5 ex5
          refine lv_iinc (v := x5) (lv' := [(4, .int x5), (0, .ref (zA Z b0)), (1, .int b1), (2, .int b2), (3, .int b3)]) B.1 B.2.1 dX3_startOfRow_35 hl (k := 4) rfl (by rw [ex5]; rfl) (by decide) (by first | rfl | simp [va_re_cat, Value.category]) (fun ls hl => ?_)
          refine lv_goto (tgt := 5) B.1 B.2.1 dX3_startOfRow_38 (by decide) ?_
          exact ih b3 x5 h2  _ _ _ hw hH (lv_sub hl [1, 2, 3, 4, 0] rfl)
        · have hw := hw.2 c4
          refine lv_iload_n B.1 B.2.1 dX3_startOfRow_24 rfl (lv_at hl 3 rfl) ?_
          refine lv_iload_n B.1 B.2.1 dX3_startOfRow_25 rfl (lv_at hl 1 rfl) ?_
          refine lv_icmp_ne (tgt := 32) B.1 B.2.1 dX3_startOfRow_26 (by decide) (fun c6 => ?_) (fun c6 => ?_)
          · have hw := hw.1 c6
            obtain ⟨x7, ex7⟩ : ∃ y : Int32, y = b3 + 1 := ⟨_, rfl⟩
            have hw := hw x7 ex7
            refine lv_iinc (v := x7) (lv' := [(3, .int x7), (0, .ref (zA Z b0)), (1, .int b1), (2, .int b2), (4, .int b4)]) B.1 B.2.1 dX3_startOfRow_32 hl (k := 3) rfl (by rw [ex7]; rfl) (by decide) (by first | rfl | simp [va_re_cat, Value.category]) (fun ls hl => ?_)
            obtain ⟨x8, ex8⟩ : ∃ y : Int32, y = b4 + 1 := ⟨_, rfl⟩
            have hw := hw x8 ex8
            refine lv_iinc (v := x8) (lv' := [(4, .int x8), (3, .int x7), (0, .ref (zA Z b0)), (1, .int b1), (2, .int b2)]) B.1 B.2.1 dX3_startOfRow_35 hl (k := 4) rfl (by rw [ex8]; rfl) (by decide) (by first | rfl | simp [va_re_cat, Value.category]) (fun ls hl => ?_)
            refine lv_goto (tgt := 5) B.1 B.2.1 dX3_startOfRow_38 (by decide) ?_
            exact ih x7 x8 h2  _ _ _ hw hH (lv_sub hl [2, 3, 4, 1, 0] rfl)
          · have hw := hw.2 c6
            refine lv_iload B.1 B.2.1 dX3_startOfRow_29 (lv_at hl 4 rfl) ?_
            exact e_i B hr hH hw dX3_startOfRow_31
  refine lv_iconst (v := 0) B.1 B.2.1 dX3_startOfRow_0 (by decide) ?_
  refine lv_istore_n (lv' := [(3, .int 0), (0, .ref (zA Z a0)), (1, .int a1), (2, .int a2)]) B.1 B.2.1 dX3_startOfRow_1 rfl hl (by decide) (by first | rfl | simp [va_re_cat, Value.category]) (fun ls hl => ?_)
  refine lv_iconst (v := 0) B.1 B.2.1 dX3_startOfRow_2 (by decide) ?_
  refine lv_istore (lv' := [(4, .int 0), (3, .int 0), (0, .ref (zA Z a0)), (1, .int a1), (2, .int a2)]) B.1 B.2.1 dX3_startOfRow_3 hl (by decide) (by first | rfl | simp [va_re_cat, Value.category]) (fun ls hl => ?_)
  obtain ⟨n9, hw⟩ := hw
  exact L5 a0 a1 a2 (k0) n9 0 0 h  _ _ _ hw hH (lv_sub hl [2, 3, 4, 1, 0] rfl)
theorem cy_X3_rowLength {s : State} {args : Array Value} (hG : GG s) : CYV s args yX3_rowLength cX3_rowLength 3 (some .int) 1 := CYV.of hG (fun _ _ hG => tw_668 hG) (tw_3 hG) (tw_667 hG) (tp_47 hG) (by decide +kernel)
set_option maxRecDepth 100000 in
set_option maxHeartbeats 4000000 in
theorem ct_X3_rowLength {Z : ZT} (hZ : ZO Z) (l : Launch) (a0 : Nat) (a1 : Int32) (h : PH) (sz : Nat) (Q : Int32 → PH → Prop) (k0 : kd a0 = 3) (hw : wp_X3_rowLength a0 a1 h Q) : MI Z l yX3_rowLength cX3_rowLength 3 (some .int) ({ frames := 2, cells := 0, slots := 0, locals := 42 } : Room) h sz [.ref (zA Z a0), .int a1] Q := by
  refine open_M hZ (by decide +kernel) (by exact Nat.le_of_ble_eq_true rfl) ?_
  intro p e s m below meth c B hr hsz ls hl hH
  subst hsz
  have hl : lv_has ls 3 [(0, .ref (zA Z a0)), (1, .int a1)] := hl
  unfold wp_X3_rowLength at hw
  have L2 : ∀ (b0 : Nat) (b1 : Int32), kd b0 = 3 → ∀ (n : Nat) (b2 : Int32) (h : PH), ∀ (H : Heap) (locs : List Loc) (ls : Array Slot), wp_X3_rowLength_b2 b0 b1 Q n b2 h → HH Z s h H locs → lv_has ls 3 [(0, .ref (zA Z b0)), (1, .int b1), (2, .int b2)] → W p l e ({ frames := 2, cells := 0, slots := 0, locals := 42 } : Room) s m ([.ref (zA Z a0), .int a1]).toArray below meth c H locs 0 0 (MQ below (va_Qi Q (BZ Z) (fr Z s.heap.size)) ([.ref (zA Z a0), .int a1]).toArray s 0 0 (fr Z s.heap.size)) (F0 m 2 ls []) := by
    intro b0 b1 kb0 n
    induction n with
    | zero => intro b2 h H locs ls hw hH hl; exact absurd hw id
    | succ n ih =>
      intro b2 h H locs ls hw hH hl
      unfold wp_X3_rowLength_b2 at hw
      refine lv_iload_n B.1 B.2.1 dX3_rowLength_2 rfl (lv_at hl 2 rfl) ?_
      refine lv_aload_n B.1 B.2.1 dX3_rowLength_3 rfl (lv_at hl 0 rfl) ?_
      refine r_get B hH (own := RX3) (kd_n B (kb0) (by decide) (by decide)) (ct_3 (kb0)) rfl (ul_3 B.2.2.2.2.1) 1 (by decide) rfl (tw_47 B.2.2.2.2.1) dX3_rowLength_4 ?_
      refine lv_icmp_ge (tgt := 29) B.1 B.2.1 dX3_rowLength_7 (by decide) (fun c1 => ?_) (fun c1 => ?_)
      · have hw := hw.1 c1
        refine lv_iload_n B.1 B.2.1 dX3_rowLength_29 rfl (lv_at hl 2 rfl) ?_
        refine lv_iload_n B.1 B.2.1 dX3_rowLength_30 rfl (lv_at hl 1 rfl) ?_
        refine lv_isub B.1 B.2.1 dX3_rowLength_31 ?_
        exact e_i B hr hH hw dX3_rowLength_32
      · have hw := hw.2 c1
        refine lv_aload_n B.1 B.2.1 dX3_rowLength_10 rfl (lv_at hl 0 rfl) ?_
        refine lv_iload_n B.1 B.2.1 dX3_rowLength_11 rfl (lv_at hl 2 rfl) ?_
        refine c_V_I (own := RX3) (As := [.int b2]) (rest := []) B hH (cy_X3_isSilent B.2.2.2.2.1) (ct_X3_isSilent B.2.2.2.2.2.2.2 l b0 b2 h _ _ (kb0) hw) ⟨⟨rfl, rfl⟩, Nat.le_of_ble_eq_true rfl, Nat.le_of_ble_eq_true rfl, Nat.zero_le _, Nat.zero_le _⟩ (rv_3 B hH (kb0)) (tw_653 B.2.2.2.2.1) rfl hl.1 rfl (Nat.le_of_ble_eq_true rfl) dX3_rowLength_12 (fun r3 h2 H locs hw hH => ?_)
        refine lv_aload_n B.1 B.2.1 dX3_rowLength_15 rfl (lv_at hl 0 rfl) ?_
        refine lv_iload_n B.1 B.2.1 dX3_rowLength_16 rfl (lv_at hl 1 rfl) ?_
        refine c_V_I (own := RX3) (As := [.int b1]) (rest := [.int r3]) B hH (cy_X3_isSilent B.2.2.2.2.1) (ct_X3_isSilent B.2.2.2.2.2.2.2 l b0 b1 h2 _ _ (kb0) hw) ⟨⟨rfl, rfl⟩, Nat.le_of_ble_eq_true rfl, Nat.le_of_ble_eq_true rfl, Nat.zero_le _, Nat.zero_le _⟩ (rv_3 B hH (kb0)) (tw_653 B.2.2.2.2.1) rfl hl.1 rfl (Nat.le_of_ble_eq_true rfl) dX3_rowLength_17 (fun r5 h4 H locs hw hH => ?_)
        refine lv_icmp_ne (tgt := 29) B.1 B.2.1 dX3_rowLength_20 (by decide) (fun c6 => ?_) (fun c6 => ?_)
        · have hw := hw.1 c6
          refine lv_iload_n B.1 B.2.1 dX3_rowLength_29 rfl (lv_at hl 2 rfl) ?_
          refine lv_iload_n B.1 B.2.1 dX3_rowLength_30 rfl (lv_at hl 1 rfl) ?_
          refine lv_isub B.1 B.2.1 dX3_rowLength_31 ?_
          exact e_i B hr hH hw dX3_rowLength_32
        · have hw := hw.2 c6
          obtain ⟨x7, ex7⟩ : ∃ y : Int32, y = b2 + 1 := ⟨_, rfl⟩
          have hw := hw x7 ex7
          refine lv_iinc (v := x7) (lv' := [(2, .int x7), (0, .ref (zA Z b0)), (1, .int b1)]) B.1 B.2.1 dX3_rowLength_23 hl (k := 2) rfl (by rw [ex7]; rfl) (by decide) (by first | rfl | simp [va_re_cat, Value.category]) (fun ls hl => ?_)
          refine lv_goto (tgt := 2) B.1 B.2.1 dX3_rowLength_26 (by decide) ?_
          exact ih x7 h4  _ _ _ hw hH (lv_sub hl [1, 2, 0] rfl)
  refine lv_iload_n B.1 B.2.1 dX3_rowLength_0 rfl (lv_at hl 1 rfl) ?_
  refine lv_istore_n (lv' := [(2, .int a1), (0, .ref (zA Z a0)), (1, .int a1)]) B.1 B.2.1 dX3_rowLength_1 rfl hl (by decide) (by first | rfl | simp [va_re_cat, Value.category]) (fun ls hl => ?_)
  obtain ⟨n8, hw⟩ := hw
  exact L2 a0 a1 (k0) n8 a1 h  _ _ _ hw hH (lv_sub hl [1, 2, 0] rfl)
theorem cy_X3_firstQuiet {s : State} {args : Array Value} (hG : GG s) : CYV s args yX3_firstQuiet cX3_firstQuiet 4 (some .int) 1 := CYV.of hG (fun _ _ hG => tw_696 hG) (tw_3 hG) (tw_695 hG) (tp_49 hG) (by decide +kernel)
set_option maxRecDepth 100000 in
set_option maxHeartbeats 4000000 in
theorem ct_X3_firstQuiet {Z : ZT} (hZ : ZO Z) (l : Launch) (a0 : Nat) (a1 : Int32) (h : PH) (sz : Nat) (Q : Int32 → PH → Prop) (k0 : kd a0 = 3) (hw : wp_X3_firstQuiet a0 a1 h Q) : MI Z l yX3_firstQuiet cX3_firstQuiet 4 (some .int) ({ frames := 3, cells := 0, slots := 0, locals := 64 } : Room) h sz [.ref (zA Z a0), .int a1] Q := by
  refine open_M hZ (by decide +kernel) (by exact Nat.le_of_ble_eq_true rfl) ?_
  intro p e s m below meth c B hr hsz ls hl hH
  subst hsz
  have hl : lv_has ls 4 [(0, .ref (zA Z a0)), (1, .int a1)] := hl
  unfold wp_X3_firstQuiet at hw
  have L10 : ∀ (b0 : Nat) (b2 : Int32), kd b0 = 3 → ∀ (n : Nat) (b3 : Int32) (h : PH), ∀ (H : Heap) (locs : List Loc) (ls : Array Slot), wp_X3_firstQuiet_b10 b0 b2 Q n b3 h → HH Z s h H locs → lv_has ls 4 [(0, .ref (zA Z b0)), (2, .int b2), (3, .int b3)] → W p l e ({ frames := 3, cells := 0, slots := 0, locals := 64 } : Room) s m ([.ref (zA Z a0), .int a1]).toArray below meth c H locs 0 0 (MQ below (va_Qi Q (BZ Z) (fr Z s.heap.size)) ([.ref (zA Z a0), .int a1]).toArray s 0 0 (fr Z s.heap.size)) (F0 m 10 ls []) := by
    intro b0 b2 kb0 n
    induction n with
    | zero => intro b3 h H locs ls hw hH hl; exact absurd hw id
    | succ n ih =>
      intro b3 h H locs ls hw hH hl
      unfold wp_X3_firstQuiet_b10 at hw
      refine lv_iload_n B.1 B.2.1 dX3_firstQuiet_10 rfl (lv_at hl 2 rfl) ?_
      refine lv_iload_n B.1 B.2.1 dX3_firstQuiet_11 rfl (lv_at hl 1 rfl) ?_
      refine lv_icmp_gt (tgt := 31) B.1 B.2.1 dX3_firstQuiet_12 (by decide) (fun c4 => ?_) (fun c4 => ?_)
      · have hw := hw.1 c4
        refine lv_iconst (v := (-1)) B.1 B.2.1 dX3_firstQuiet_31 (by decide) ?_
        exact e_i B hr hH hw dX3_firstQuiet_32
      · have hw := hw.2 c4
        refine lv_aload_n B.1 B.2.1 dX3_firstQuiet_15 rfl (lv_at hl 0 rfl) ?_
        refine lv_iload_n B.1 B.2.1 dX3_firstQuiet_16 rfl (lv_at hl 2 rfl) ?_
        refine c_V_I (own := RX3) (As := [.int b3]) (rest := []) B hH (cy_X3_isQuiet B.2.2.2.2.1) (ct_X3_isQuiet B.2.2.2.2.2.2.2 l b0 b3 h _ _ (kb0) hw) ⟨⟨rfl, rfl⟩, Nat.le_of_ble_eq_true rfl, Nat.le_of_ble_eq_true rfl, Nat.zero_le _, Nat.zero_le _⟩ (rv_3 B hH (kb0)) (tw_697 B.2.2.2.2.1) rfl hl.1 rfl (Nat.le_of_ble_eq_true rfl) dX3_firstQuiet_17 (fun r6 h5 H locs hw hH => ?_)
        refine lv_if_eq (tgt := 25) B.1 B.2.1 dX3_firstQuiet_20 (by decide) (fun c7 => ?_) (fun c7 => ?_)
        · have hw := hw.1 c7
          obtain ⟨x8, ex8⟩ : ∃ y : Int32, y = b3 + 1 := ⟨_, rfl⟩
          have hw := hw x8 ex8
          refine lv_iinc (v := x8) (lv' := [(3, .int x8), (0, .ref (zA Z b0)), (2, .int b2)]) B.1 B.2.1 dX3_firstQuiet_25 hl (k := 2) rfl (by rw [ex8]; rfl) (by decide) (by first | rfl | simp [va_re_cat, Value.category]) (fun ls hl => ?_)
          refine lv_goto (tgt := 10) B.1 B.2.1 dX3_firstQuiet_28 (by decide) ?_
          exact ih x8 h5  _ _ _ hw hH (lv_sub hl [1, 2, 0] rfl)
        · have hw := hw.2 c7
          refine lv_iload_n B.1 B.2.1 dX3_firstQuiet_23 rfl (lv_at hl 2 rfl) ?_
          exact e_i B hr hH hw dX3_firstQuiet_24
  refine lv_iload_n B.1 B.2.1 dX3_firstQuiet_0 rfl (lv_at hl 1 rfl) ?_
  refine lv_aload_n B.1 B.2.1 dX3_firstQuiet_1 rfl (lv_at hl 0 rfl) ?_
  refine lv_iload_n B.1 B.2.1 dX3_firstQuiet_2 rfl (lv_at hl 1 rfl) ?_
  refine c_V_I (own := RX3) (As := [.int a1]) (rest := [.int a1]) B hH (cy_X3_rowLength B.2.2.2.2.1) (ct_X3_rowLength B.2.2.2.2.2.2.2 l a0 a1 h _ _ (k0) hw) ⟨⟨rfl, rfl⟩, Nat.le_of_ble_eq_true rfl, Nat.le_of_ble_eq_true rfl, Nat.zero_le _, Nat.zero_le _⟩ (rv_3 B hH (k0)) (tw_665 B.2.2.2.2.1) rfl hl.1 rfl (Nat.le_of_ble_eq_true rfl) dX3_firstQuiet_3 (fun r2 h1 H locs hw hH => ?_)
  refine lv_iadd B.1 B.2.1 dX3_firstQuiet_6 ?_
  refine lv_topi (fun x3 ex3 => ?_)
  have hw := hw x3 ex3
  refine lv_istore_n (lv' := [(2, .int x3), (0, .ref (zA Z a0)), (1, .int a1)]) B.1 B.2.1 dX3_firstQuiet_7 rfl hl (by decide) (by first | rfl | simp [va_re_cat, Value.category]) (fun ls hl => ?_)
  refine lv_iload_n B.1 B.2.1 dX3_firstQuiet_8 rfl (lv_at hl 2 rfl) ?_
  refine lv_istore_n (lv' := [(3, .int a1), (2, .int x3), (0, .ref (zA Z a0)), (1, .int a1)]) B.1 B.2.1 dX3_firstQuiet_9 rfl hl (by decide) (by first | rfl | simp [va_re_cat, Value.category]) (fun ls hl => ?_)
  obtain ⟨n9, hw⟩ := hw
  exact L10 a0 x3 (k0) n9 a1 h1  _ _ _ hw hH (lv_sub hl [2, 1, 0] rfl)
theorem cy_X3_greatestSound {s : State} {args : Array Value} (hG : GG s) : CYV s args yX3_greatestSound cX3_greatestSound 5 (some .int) 1 := CYV.of hG (fun _ _ hG => tw_709 hG) (tw_3 hG) (tw_708 hG) (tp_50 hG) (by decide +kernel)
set_option maxRecDepth 100000 in
set_option maxHeartbeats 4000000 in
theorem ct_X3_greatestSound {Z : ZT} (hZ : ZO Z) (l : Launch) (a0 : Nat) (a1 : Int32) (h : PH) (sz : Nat) (Q : Int32 → PH → Prop) (k0 : kd a0 = 3) (hw : wp_X3_greatestSound a0 a1 h Q) : MI Z l yX3_greatestSound cX3_greatestSound 5 (some .int) ({ frames := 3, cells := 0, slots := 0, locals := 64 } : Room) h sz [.ref (zA Z a0), .int a1] Q := by
  refine open_M hZ (by decide +kernel) (by exact Nat.le_of_ble_eq_true rfl) ?_
  intro p e s m below meth c B hr hsz ls hl hH
  subst hsz
  have hl : lv_has ls 5 [(0, .ref (zA Z a0)), (1, .int a1)] := hl
  unfold wp_X3_greatestSound at hw
  have L13 : ∀ (b0 : Nat) (b2 : Int32), kd b0 = 3 → ∀ (n : Nat) (b3 : Int32) (b4 : Int32) (h : PH), ∀ (H : Heap) (locs : List Loc) (ls : Array Slot), wp_X3_greatestSound_b13 b0 b2 Q n b3 b4 h → HH Z s h H locs → lv_has ls 5 [(0, .ref (zA Z b0)), (2, .int b2), (3, .int b3), (4, .int b4)] → W p l e ({ frames := 3, cells := 0, slots := 0, locals := 64 } : Room) s m ([.ref (zA Z a0), .int a1]).toArray below meth c H locs 0 0 (MQ below (va_Qi Q (BZ Z) (fr Z s.heap.size)) ([.ref (zA Z a0), .int a1]).toArray s 0 0 (fr Z s.heap.size)) (F0 m 13 ls []) := by
    intro b0 b2 kb0 n
    induction n with
    | zero => intro b3 b4 h H locs ls hw hH hl; exact absurd hw id
    | succ n ih =>
      intro b3 b4 h H locs ls hw hH hl
      unfold wp_X3_greatestSound_b13 at hw
      refine lv_iload B.1 B.2.1 dX3_greatestSound_13 (lv_at hl 3 rfl) ?_
      refine lv_iload_n B.1 B.2.1 dX3_greatestSound_15 rfl (lv_at hl 1 rfl) ?_
      refine lv_icmp_ge (tgt := 39) B.1 B.2.1 dX3_greatestSound_16 (by decide) (fun c4 => ?_) (fun c4 => ?_)
      · have hw := hw.1 c4
        refine lv_iload_n B.1 B.2.1 dX3_greatestSound_39 rfl (lv_at hl 2 rfl) ?_
        exact e_i B hr hH hw dX3_greatestSound_40
      · have hw := hw.2 c4
        refine lv_iload_n B.1 B.2.1 dX3_greatestSound_19 rfl (lv_at hl 2 rfl) ?_
        refine lv_aload_n B.1 B.2.1 dX3_greatestSound_20 rfl (lv_at hl 0 rfl) ?_
        refine r_get B hH (own := RX3) (kd_n B (kb0) (by decide) (by decide)) (ct_3 (kb0)) rfl (ul_3 B.2.2.2.2.1) 0 (by decide) rfl (tw_43 B.2.2.2.2.1) dX3_greatestSound_21 ?_
        refine lv_iload B.1 B.2.1 dX3_greatestSound_24 (lv_at hl 3 rfl) ?_
        refine c_SN_I (own := RX3) (As := [.ref (zA Z (b0 + 1)), .int b4]) (rest := [.int b3]) B hH (cy_X7_get B.2.2.2.2.1) (ct_X7_get B.2.2.2.2.2.2.2 l (b0 + 1) b4 h _ _ (kf_3_0 (kb0)) hw) ⟨⟨rfl, rfl⟩, Nat.le_of_ble_eq_true rfl, Nat.le_of_ble_eq_true rfl, Nat.zero_le _, Nat.zero_le _⟩ (tw_517 B.2.2.2.2.1) rfl hl.1 rfl (Nat.le_of_ble_eq_true rfl) dX3_greatestSound_26 (fun r6 h5 H locs hw hH => ?_)
        refine c_S_I (own := RX3) (As := [.int b3, .int r6]) (rest := []) B hH (cy_J9_max_7cf53 B.2.2.2.2.1) (ct_J9_max_7cf53 B.2.2.2.2.2.2.2 l b3 r6 h5 _ _  hw) ⟨⟨rfl, rfl⟩, Nat.le_of_ble_eq_true rfl, Nat.le_of_ble_eq_true rfl, Nat.zero_le _, Nat.zero_le _⟩ (tw_669 B.2.2.2.2.1) rfl hl.1 rfl (Nat.le_of_ble_eq_true rfl) dX3_greatestSound_29 (fun r8 h7 H locs hw hH => ?_)
        refine lv_istore_n (lv' := [(3, .int r8), (0, .ref (zA Z b0)), (2, .int b2), (4, .int b4)]) B.1 B.2.1 dX3_greatestSound_32 rfl hl (by decide) (by first | rfl | simp [va_re_cat, Value.category]) (fun ls hl => ?_)
        obtain ⟨x9, ex9⟩ : ∃ y : Int32, y = b4 + 1 := ⟨_, rfl⟩
        have hw := hw x9 ex9
        refine lv_iinc (v := x9) (lv' := [(4, .int x9), (3, .int r8), (0, .ref (zA Z b0)), (2, .int b2)]) B.1 B.2.1 dX3_greatestSound_33 hl (k := 3) rfl (by rw [ex9]; rfl) (by decide) (by first | rfl | simp [va_re_cat, Value.category]) (fun ls hl => ?_)
        refine lv_goto (tgt := 13) B.1 B.2.1 dX3_greatestSound_36 (by decide) ?_
        exact ih r8 x9 h7  _ _ _ hw hH (lv_sub hl [2, 3, 1, 0] rfl)
  refine lv_iload_n B.1 B.2.1 dX3_greatestSound_0 rfl (lv_at hl 1 rfl) ?_
  refine lv_aload_n B.1 B.2.1 dX3_greatestSound_1 rfl (lv_at hl 0 rfl) ?_
  refine lv_iload_n B.1 B.2.1 dX3_greatestSound_2 rfl (lv_at hl 1 rfl) ?_
  refine c_V_I (own := RX3) (As := [.int a1]) (rest := [.int a1]) B hH (cy_X3_rowLength B.2.2.2.2.1) (ct_X3_rowLength B.2.2.2.2.2.2.2 l a0 a1 h _ _ (k0) hw) ⟨⟨rfl, rfl⟩, Nat.le_of_ble_eq_true rfl, Nat.le_of_ble_eq_true rfl, Nat.zero_le _, Nat.zero_le _⟩ (rv_3 B hH (k0)) (tw_665 B.2.2.2.2.1) rfl hl.1 rfl (Nat.le_of_ble_eq_true rfl) dX3_greatestSound_3 (fun r2 h1 H locs hw hH => ?_)
  refine lv_iadd B.1 B.2.1 dX3_greatestSound_6 ?_
  refine lv_topi (fun x3 ex3 => ?_)
  have hw := hw x3 ex3
  refine lv_istore_n (lv' := [(2, .int x3), (0, .ref (zA Z a0)), (1, .int a1)]) B.1 B.2.1 dX3_greatestSound_7 rfl hl (by decide) (by first | rfl | simp [va_re_cat, Value.category]) (fun ls hl => ?_)
  refine lv_iconst (v := 0) B.1 B.2.1 dX3_greatestSound_8 (by decide) ?_
  refine lv_istore_n (lv' := [(3, .int 0), (2, .int x3), (0, .ref (zA Z a0)), (1, .int a1)]) B.1 B.2.1 dX3_greatestSound_9 rfl hl (by decide) (by first | rfl | simp [va_re_cat, Value.category]) (fun ls hl => ?_)
  refine lv_iload_n B.1 B.2.1 dX3_greatestSound_10 rfl (lv_at hl 3 rfl) ?_
  refine lv_istore (lv' := [(4, .int a1), (3, .int 0), (2, .int x3), (0, .ref (zA Z a0)), (1, .int a1)]) B.1 B.2.1 dX3_greatestSound_11 hl (by decide) (by first | rfl | simp [va_re_cat, Value.category]) (fun ls hl => ?_)
  obtain ⟨n10, hw⟩ := hw
  exact L13 a0 x3 (k0) n10 0 a1 h1  _ _ _ hw hH (lv_sub hl [3, 2, 1, 0] rfl)
theorem cy_X3_longestSilence {s : State} {args : Array Value} (hG : GG s) : CYV s args yX3_longestSilence cX3_longestSilence 3 (some .int) 0 := CYV.of hG (fun _ _ hG => tw_664 hG) (tw_3 hG) (tw_663 hG) (tp_46 hG) (by decide +kernel)
set_option maxRecDepth 100000 in
set_option maxHeartbeats 4000000 in
theorem ct_X3_longestSilence {Z : ZT} (hZ : ZO Z) (l : Launch) (a0 : Nat) (h : PH) (sz : Nat) (Q : Int32 → PH → Prop) (k0 : kd a0 = 3) (hw : wp_X3_longestSilence a0 h Q) : MI Z l yX3_longestSilence cX3_longestSilence 3 (some .int) ({ frames := 3, cells := 0, slots := 0, locals := 64 } : Room) h sz [.ref (zA Z a0)] Q := by
  refine open_M hZ (by decide +kernel) (by exact Nat.le_of_ble_eq_true rfl) ?_
  intro p e s m below meth c B hr hsz ls hl hH
  subst hsz
  have hl : lv_has ls 3 [(0, .ref (zA Z a0))] := hl
  unfold wp_X3_longestSilence at hw
  have L4 : ∀ (b0 : Nat), kd b0 = 3 → ∀ (n : Nat) (b1 : Int32) (b2 : Int32) (h : PH), ∀ (H : Heap) (locs : List Loc) (ls : Array Slot), wp_X3_longestSilence_b4 b0 Q n b1 b2 h → HH Z s h H locs → lv_has ls 3 [(0, .ref (zA Z b0)), (1, .int b1), (2, .int b2)] → W p l e ({ frames := 3, cells := 0, slots := 0, locals := 64 } : Room) s m ([.ref (zA Z a0)]).toArray below meth c H locs 0 0 (MQ below (va_Qi Q (BZ Z) (fr Z s.heap.size)) ([.ref (zA Z a0)]).toArray s 0 0 (fr Z s.heap.size)) (F0 m 4 ls []) := by
    intro b0 kb0 n
    induction n with
    | zero => intro b1 b2 h H locs ls hw hH hl; exact absurd hw id
    | succ n ih =>
      intro b1 b2 h H locs ls hw hH hl
      unfold wp_X3_longestSilence_b4 at hw
      refine lv_iload_n B.1 B.2.1 dX3_longestSilence_4 rfl (lv_at hl 2 rfl) ?_
      refine lv_aload_n B.1 B.2.1 dX3_longestSilence_5 rfl (lv_at hl 0 rfl) ?_
      refine r_get B hH (own := RX3) (kd_n B (kb0) (by decide) (by decide)) (ct_3 (kb0)) rfl (ul_3 B.2.2.2.2.1) 1 (by decide) rfl (tw_47 B.2.2.2.2.1) dX3_longestSilence_6 ?_
      refine lv_icmp_ge (tgt := 37) B.1 B.2.1 dX3_longestSilence_9 (by decide) (fun c1 => ?_) (fun c1 => ?_)
      · have hw := hw.1 c1
        refine lv_iload_n B.1 B.2.1 dX3_longestSilence_37 rfl (lv_at hl 1 rfl) ?_
        exact e_i B hr hH hw dX3_longestSilence_38
      · have hw := hw.2 c1
        refine lv_aload_n B.1 B.2.1 dX3_longestSilence_12 rfl (lv_at hl 0 rfl) ?_
        refine lv_iload_n B.1 B.2.1 dX3_longestSilence_13 rfl (lv_at hl 2 rfl) ?_
        refine lv_iconst (v := 1) B.1 B.2.1 dX3_longestSilence_14 (by decide) ?_
        refine c_V_I (own := RX3) (As := [.int b2, .int 1]) (rest := []) B hH (cy_X3_startsRow B.2.2.2.2.1) (ct_X3_startsRow B.2.2.2.2.2.2.2 l b0 b2 1 h _ _ (kb0) hw) ⟨⟨rfl, rfl⟩, Nat.le_of_ble_eq_true rfl, Nat.le_of_ble_eq_true rfl, Nat.zero_le _, Nat.zero_le _⟩ (rv_3 B hH (kb0)) (tw_649 B.2.2.2.2.1) rfl hl.1 rfl (Nat.le_of_ble_eq_true rfl) dX3_longestSilence_15 (fun r3 h2 H locs hw hH => ?_)
        refine lv_if_eq (tgt := 31) B.1 B.2.1 dX3_longestSilence_18 (by decide) (fun c4 => ?_) (fun c4 => ?_)
        · have hw := hw.1 c4
          obtain ⟨x5, ex5⟩ : ∃ y : Int32, y = b2 + 1 := ⟨_, rfl⟩
          have hw := hw x5 ex5
          refine lv_iinc (v := x5) (lv' := [(2, .int x5), (0, .ref (zA Z b0)), (1, .int b1)]) B.1 B.2.1 dX3_longestSilence_31 hl (k := 2) rfl (by rw [ex5]; rfl) (by decide) (by first | rfl | simp [va_re_cat, Value.category]) (fun ls hl => ?_)
          refine lv_goto (tgt := 4) B.1 B.2.1 dX3_longestSilence_34 (by decide) ?_
          exact ih b1 x5 h2  _ _ _ hw hH (lv_sub hl [1, 2, 0] rfl)
        · have hw := hw.2 c4
          refine lv_iload_n B.1 B.2.1 dX3_longestSilence_21 rfl (lv_at hl 1 rfl) ?_
          refine lv_aload_n B.1 B.2.1 dX3_longestSilence_22 rfl (lv_at hl 0 rfl) ?_
          refine lv_iload_n B.1 B.2.1 dX3_longestSilence_23 rfl (lv_at hl 2 rfl) ?_
          refine c_V_I (own := RX3) (As := [.int b2]) (rest := [.int b1]) B hH (cy_X3_rowLength B.2.2.2.2.1) (ct_X3_rowLength B.2.2.2.2.2.2.2 l b0 b2 h2 _ _ (kb0) hw) ⟨⟨rfl, rfl⟩, Nat.le_of_ble_eq_true rfl, Nat.le_of_ble_eq_true rfl, Nat.zero_le _, Nat.zero_le _⟩ (rv_3 B hH (kb0)) (tw_665 B.2.2.2.2.1) rfl hl.1 rfl (Nat.le_of_ble_eq_true rfl) dX3_longestSilence_24 (fun r7 h6 H locs hw hH => ?_)
          refine c_S_I (own := RX3) (As := [.int b1, .int r7]) (rest := []) B hH (cy_J9_max_7cf53 B.2.2.2.2.1) (ct_J9_max_7cf53 B.2.2.2.2.2.2.2 l b1 r7 h6 _ _  hw) ⟨⟨rfl, rfl⟩, Nat.le_of_ble_eq_true rfl, Nat.le_of_ble_eq_true rfl, Nat.zero_le _, Nat.zero_le _⟩ (tw_669 B.2.2.2.2.1) rfl hl.1 rfl (Nat.le_of_ble_eq_true rfl) dX3_longestSilence_27 (fun r9 h8 H locs hw hH => ?_)
          refine lv_istore_n (lv' := [(1, .int r9), (0, .ref (zA Z b0)), (2, .int b2)]) B.1 B.2.1 dX3_longestSilence_30 rfl hl (by decide) (by first | rfl | simp [va_re_cat, Value.category]) (fun ls hl => ?_)
          obtain ⟨x10, ex10⟩ : ∃ y : Int32, y = b2 + 1 := ⟨_, rfl⟩
          have hw := hw x10 ex10
          refine lv_iinc (v := x10) (lv' := [(2, .int x10), (1, .int r9), (0, .ref (zA Z b0))]) B.1 B.2.1 dX3_longestSilence_31 hl (k := 2) rfl (by rw [ex10]; rfl) (by decide) (by first | rfl | simp [va_re_cat, Value.category]) (fun ls hl => ?_)
          refine lv_goto (tgt := 4) B.1 B.2.1 dX3_longestSilence_34 (by decide) ?_
          exact ih r9 x10 h8  _ _ _ hw hH (lv_sub hl [2, 1, 0] rfl)
  refine lv_iconst (v := 0) B.1 B.2.1 dX3_longestSilence_0 (by decide) ?_
  refine lv_istore_n (lv' := [(1, .int 0), (0, .ref (zA Z a0))]) B.1 B.2.1 dX3_longestSilence_1 rfl hl (by decide) (by first | rfl | simp [va_re_cat, Value.category]) (fun ls hl => ?_)
  refine lv_iconst (v := 0) B.1 B.2.1 dX3_longestSilence_2 (by decide) ?_
  refine lv_istore_n (lv' := [(2, .int 0), (1, .int 0), (0, .ref (zA Z a0))]) B.1 B.2.1 dX3_longestSilence_3 rfl hl (by decide) (by first | rfl | simp [va_re_cat, Value.category]) (fun ls hl => ?_)
  obtain ⟨n11, hw⟩ := hw
  exact L4 a0 (k0) n11 0 0 h  _ _ _ hw hH (lv_sub hl [2, 1, 0] rfl)
theorem cy_X3_sumOfSounds {s : State} {args : Array Value} (hG : GG s) : CYV s args yX3_sumOfSounds cX3_sumOfSounds 3 (some .int) 0 := CYV.of hG (fun _ _ hG => tw_660 hG) (tw_3 hG) (tw_659 hG) (tp_45 hG) (by decide +kernel)
set_option maxRecDepth 100000 in
set_option maxHeartbeats 4000000 in
theorem ct_X3_sumOfSounds {Z : ZT} (hZ : ZO Z) (l : Launch) (a0 : Nat) (h : PH) (sz : Nat) (Q : Int32 → PH → Prop) (k0 : kd a0 = 3) (hw : wp_X3_sumOfSounds a0 h Q) : MI Z l yX3_sumOfSounds cX3_sumOfSounds 3 (some .int) ({ frames := 1, cells := 0, slots := 0, locals := 21 } : Room) h sz [.ref (zA Z a0)] Q := by
  refine open_M hZ (by decide +kernel) (by exact Nat.le_of_ble_eq_true rfl) ?_
  intro p e s m below meth c B hr hsz ls hl hH
  subst hsz
  have hl : lv_has ls 3 [(0, .ref (zA Z a0))] := hl
  unfold wp_X3_sumOfSounds at hw
  have L4 : ∀ (b0 : Nat), kd b0 = 3 → ∀ (n : Nat) (b1 : Int32) (b2 : Int32) (h : PH), ∀ (H : Heap) (locs : List Loc) (ls : Array Slot), wp_X3_sumOfSounds_b4 b0 Q n b1 b2 h → HH Z s h H locs → lv_has ls 3 [(0, .ref (zA Z b0)), (1, .int b1), (2, .int b2)] → W p l e ({ frames := 1, cells := 0, slots := 0, locals := 21 } : Room) s m ([.ref (zA Z a0)]).toArray below meth c H locs 0 0 (MQ below (va_Qi Q (BZ Z) (fr Z s.heap.size)) ([.ref (zA Z a0)]).toArray s 0 0 (fr Z s.heap.size)) (F0 m 4 ls []) := by
    intro b0 kb0 n
    induction n with
    | zero => intro b1 b2 h H locs ls hw hH hl; exact absurd hw id
    | succ n ih =>
      intro b1 b2 h H locs ls hw hH hl
      unfold wp_X3_sumOfSounds_b4 at hw
      refine lv_iload_n B.1 B.2.1 dX3_sumOfSounds_4 rfl (lv_at hl 2 rfl) ?_
      refine lv_aload_n B.1 B.2.1 dX3_sumOfSounds_5 rfl (lv_at hl 0 rfl) ?_
      refine r_get B hH (own := RX3) (kd_n B (kb0) (by decide) (by decide)) (ct_3 (kb0)) rfl (ul_3 B.2.2.2.2.1) 1 (by decide) rfl (tw_47 B.2.2.2.2.1) dX3_sumOfSounds_6 ?_
      refine lv_icmp_ge (tgt := 29) B.1 B.2.1 dX3_sumOfSounds_9 (by decide) (fun c1 => ?_) (fun c1 => ?_)
      · have hw := hw.1 c1
        refine lv_iload_n B.1 B.2.1 dX3_sumOfSounds_29 rfl (lv_at hl 1 rfl) ?_
        exact e_i B hr hH hw dX3_sumOfSounds_30
      · have hw := hw.2 c1
        refine lv_iload_n B.1 B.2.1 dX3_sumOfSounds_12 rfl (lv_at hl 1 rfl) ?_
        refine lv_aload_n B.1 B.2.1 dX3_sumOfSounds_13 rfl (lv_at hl 0 rfl) ?_
        refine r_get B hH (own := RX3) (kd_n B (kb0) (by decide) (by decide)) (ct_3 (kb0)) rfl (ul_3 B.2.2.2.2.1) 0 (by decide) rfl (tw_43 B.2.2.2.2.1) dX3_sumOfSounds_14 ?_
        refine lv_iload_n B.1 B.2.1 dX3_sumOfSounds_17 rfl (lv_at hl 2 rfl) ?_
        refine c_SN_I (own := RX3) (As := [.ref (zA Z (b0 + 1)), .int b2]) (rest := [.int b1]) B hH (cy_X7_get B.2.2.2.2.1) (ct_X7_get B.2.2.2.2.2.2.2 l (b0 + 1) b2 h _ _ (kf_3_0 (kb0)) hw) ⟨⟨rfl, rfl⟩, Nat.le_of_ble_eq_true rfl, Nat.le_of_ble_eq_true rfl, Nat.zero_le _, Nat.zero_le _⟩ (tw_517 B.2.2.2.2.1) rfl hl.1 rfl (Nat.le_of_ble_eq_true rfl) dX3_sumOfSounds_18 (fun r3 h2 H locs hw hH => ?_)
        refine lv_iadd B.1 B.2.1 dX3_sumOfSounds_21 ?_
        refine lv_topi (fun x4 ex4 => ?_)
        have hw := hw x4 ex4
        refine lv_istore_n (lv' := [(1, .int x4), (0, .ref (zA Z b0)), (2, .int b2)]) B.1 B.2.1 dX3_sumOfSounds_22 rfl hl (by decide) (by first | rfl | simp [va_re_cat, Value.category]) (fun ls hl => ?_)
        obtain ⟨x5, ex5⟩ : ∃ y : Int32, y = b2 + 1 := ⟨_, rfl⟩
        have hw := hw x5 ex5
        refine lv_iinc (v := x5) (lv' := [(2, .int x5), (1, .int x4), (0, .ref (zA Z b0))]) B.1 B.2.1 dX3_sumOfSounds_23 hl (k := 2) rfl (by rw [ex5]; rfl) (by decide) (by first | rfl | simp [va_re_cat, Value.category]) (fun ls hl => ?_)
        refine lv_goto (tgt := 4) B.1 B.2.1 dX3_sumOfSounds_26 (by decide) ?_
        exact ih x4 x5 h2  _ _ _ hw hH (lv_sub hl [2, 1, 0] rfl)
  refine lv_iconst (v := 0) B.1 B.2.1 dX3_sumOfSounds_0 (by decide) ?_
  refine lv_istore_n (lv' := [(1, .int 0), (0, .ref (zA Z a0))]) B.1 B.2.1 dX3_sumOfSounds_1 rfl hl (by decide) (by first | rfl | simp [va_re_cat, Value.category]) (fun ls hl => ?_)
  refine lv_iconst (v := 0) B.1 B.2.1 dX3_sumOfSounds_2 (by decide) ?_
  refine lv_istore_n (lv' := [(2, .int 0), (1, .int 0), (0, .ref (zA Z a0))]) B.1 B.2.1 dX3_sumOfSounds_3 rfl hl (by decide) (by first | rfl | simp [va_re_cat, Value.category]) (fun ls hl => ?_)
  obtain ⟨n6, hw⟩ := hw
  exact L4 a0 (k0) n6 0 0 h  _ _ _ hw hH (lv_sub hl [2, 1, 0] rfl)
theorem cy_X3_lay {s : State} {args : Array Value} (hG : GG s) : CYV s args yX3_lay cX3_lay 6 (some .int) 3 := CYV.of hG (fun _ _ hG => tw_536 hG) (tw_3 hG) (tw_535 hG) (tp_26 hG) (by decide +kernel)
set_option maxRecDepth 100000 in
set_option maxHeartbeats 4000000 in
theorem ct_X3_lay {Z : ZT} (hZ : ZO Z) (l : Launch) (a0 : Nat) (a1 : Int32) (a2 : Int32) (a3 : Int32) (h : PH) (sz : Nat) (Q : Int32 → PH → Prop) (k0 : kd a0 = 3) (hw : wp_X3_lay a0 a1 a2 a3 h Q) : MI Z l yX3_lay cX3_lay 6 (some .int) ({ frames := 1, cells := 0, slots := 0, locals := 22 } : Room) h sz [.ref (zA Z a0), .int a1, .int a2, .int a3] Q := by
  refine open_M hZ (by decide +kernel) (by exact Nat.le_of_ble_eq_true rfl) ?_
  intro p e s m below meth c B hr hsz ls hl hH
  subst hsz
  have hl : lv_has ls 6 [(0, .ref (zA Z a0)), (1, .int a1), (2, .int a2), (3, .int a3)] := hl
  unfold wp_X3_lay at hw
  have L6 : ∀ (b0 : Nat) (b2 : Int32) (b3 : Int32), kd b0 = 3 → ∀ (n : Nat) (b4 : Int32) (b5 : Int32) (h : PH), ∀ (H : Heap) (locs : List Loc) (ls : Array Slot), wp_X3_lay_b6 b0 b2 b3 Q n b4 b5 h → HH Z s h H locs → lv_has ls 6 [(0, .ref (zA Z b0)), (2, .int b2), (3, .int b3), (4, .int b4), (5, .int b5)] → W p l e ({ frames := 1, cells := 0, slots := 0, locals := 22 } : Room) s m ([.ref (zA Z a0), .int a1, .int a2, .int a3]).toArray below meth c H locs 0 0 (MQ below (va_Qi Q (BZ Z) (fr Z s.heap.size)) ([.ref (zA Z a0), .int a1, .int a2, .int a3]).toArray s 0 0 (fr Z s.heap.size)) (F0 m 6 ls []) := by
    intro b0 b2 b3 kb0 n
    induction n with
    | zero => intro b4 b5 h H locs ls hw hH hl; exact absurd hw id
    | succ n ih =>
      intro b4 b5 h H locs ls hw hH hl
      unfold wp_X3_lay_b6 at hw
      refine lv_iload B.1 B.2.1 dX3_lay_6 (lv_at hl 4 rfl) ?_
      refine lv_iload_n B.1 B.2.1 dX3_lay_8 rfl (lv_at hl 1 rfl) ?_
      refine lv_icmp_gt (tgt := 44) B.1 B.2.1 dX3_lay_9 (by decide) (fun c1 => ?_) (fun c1 => ?_)
      · have hw := hw.1 c1
        refine lv_iload B.1 B.2.1 dX3_lay_44 (lv_at hl 3 rfl) ?_
        exact e_i B hr hH hw dX3_lay_46
      · have hw := hw.2 c1
        refine lv_aload_n B.1 B.2.1 dX3_lay_12 rfl (lv_at hl 0 rfl) ?_
        refine r_get B hH (own := RX3) (kd_n B (kb0) (by decide) (by decide)) (ct_3 (kb0)) rfl (ul_3 B.2.2.2.2.1) 0 (by decide) rfl (tw_43 B.2.2.2.2.1) dX3_lay_13 ?_
        refine lv_iload B.1 B.2.1 dX3_lay_16 (lv_at hl 4 rfl) ?_
        refine c_SN_I (own := RX3) (As := [.ref (zA Z (b0 + 1)), .int b5]) (rest := []) B hH (cy_X7_get B.2.2.2.2.1) (ct_X7_get B.2.2.2.2.2.2.2 l (b0 + 1) b5 h _ _ (kf_3_0 (kb0)) hw) ⟨⟨rfl, rfl⟩, Nat.le_of_ble_eq_true rfl, Nat.le_of_ble_eq_true rfl, Nat.zero_le _, Nat.zero_le _⟩ (tw_517 B.2.2.2.2.1) rfl hl.1 rfl (Nat.le_of_ble_eq_true rfl) dX3_lay_18 (fun r3 h2 H locs hw hH => ?_)
        refine lv_iload_n B.1 B.2.1 dX3_lay_21 rfl (lv_at hl 2 rfl) ?_
        refine lv_icmp_eq (tgt := 38) B.1 B.2.1 dX3_lay_22 (by decide) (fun c4 => ?_) (fun c4 => ?_)
        · have hw := hw.1 c4
          obtain ⟨x5, ex5⟩ : ∃ y : Int32, y = b5 + 1 := ⟨_, rfl⟩
          have hw := hw x5 ex5
          refine lv_iinc (v := x5) (lv' := [(5, .int x5), (0, .ref (zA Z b0)), (2, .int b2), (3, .int b3), (4, .int b4)]) B.1 B.2.1 dX3_lay_38 hl (k := 4) rfl (by rw [ex5]; rfl) (by decide) (by first | rfl | simp [va_re_cat, Value.category]) (fun ls hl => ?_)
          refine lv_goto (tgt := 6) B.1 B.2.1 dX3_lay_41 (by decide) ?_
          exact ih b4 x5 h2  _ _ _ hw hH (lv_sub hl [1, 2, 3, 4, 0] rfl)
        · have hw := hw.2 c4
          refine lv_aload_n B.1 B.2.1 dX3_lay_25 rfl (lv_at hl 0 rfl) ?_
          refine r_get B hH (own := RX3) (kd_n B (kb0) (by decide) (by decide)) (ct_3 (kb0)) rfl (ul_3 B.2.2.2.2.1) 0 (by decide) rfl (tw_43 B.2.2.2.2.1) dX3_lay_26 ?_
          refine lv_iload B.1 B.2.1 dX3_lay_29 (lv_at hl 4 rfl) ?_
          refine lv_iload_n B.1 B.2.1 dX3_lay_31 rfl (lv_at hl 2 rfl) ?_
          refine c_SN_V (own := RX3) (As := [.ref (zA Z (b0 + 1)), .int b5, .int b3]) (rest := []) B hH (cy_X7_put B.2.2.2.2.1) (ct_X7_put B.2.2.2.2.2.2.2 l (b0 + 1) b5 b3 h2 _ _ (kf_3_0 (kb0)) hw) ⟨⟨rfl, rfl⟩, Nat.le_of_ble_eq_true rfl, Nat.le_of_ble_eq_true rfl, Nat.zero_le _, Nat.zero_le _⟩ (tw_537 B.2.2.2.2.1) rfl hl.1 rfl (Nat.le_of_ble_eq_true rfl) dX3_lay_32 (fun h6 H locs hw hH => ?_)
          obtain ⟨x7, ex7⟩ : ∃ y : Int32, y = b4 + 1 := ⟨_, rfl⟩
          have hw := hw x7 ex7
          refine lv_iinc (v := x7) (lv' := [(4, .int x7), (0, .ref (zA Z b0)), (2, .int b2), (3, .int b3), (5, .int b5)]) B.1 B.2.1 dX3_lay_35 hl (k := 3) rfl (by rw [ex7]; rfl) (by decide) (by first | rfl | simp [va_re_cat, Value.category]) (fun ls hl => ?_)
          obtain ⟨x8, ex8⟩ : ∃ y : Int32, y = b5 + 1 := ⟨_, rfl⟩
          have hw := hw x8 ex8
          refine lv_iinc (v := x8) (lv' := [(5, .int x8), (4, .int x7), (0, .ref (zA Z b0)), (2, .int b2), (3, .int b3)]) B.1 B.2.1 dX3_lay_38 hl (k := 4) rfl (by rw [ex8]; rfl) (by decide) (by first | rfl | simp [va_re_cat, Value.category]) (fun ls hl => ?_)
          refine lv_goto (tgt := 6) B.1 B.2.1 dX3_lay_41 (by decide) ?_
          exact ih x7 x8 h6  _ _ _ hw hH (lv_sub hl [2, 3, 4, 1, 0] rfl)
  refine lv_iconst (v := 0) B.1 B.2.1 dX3_lay_0 (by decide) ?_
  refine lv_istore (lv' := [(4, .int 0), (0, .ref (zA Z a0)), (1, .int a1), (2, .int a2), (3, .int a3)]) B.1 B.2.1 dX3_lay_1 hl (by decide) (by first | rfl | simp [va_re_cat, Value.category]) (fun ls hl => ?_)
  refine lv_iload_n B.1 B.2.1 dX3_lay_3 rfl (lv_at hl 2 rfl) ?_
  refine lv_istore (lv' := [(5, .int a1), (4, .int 0), (0, .ref (zA Z a0)), (1, .int a1), (2, .int a2), (3, .int a3)]) B.1 B.2.1 dX3_lay_4 hl (by decide) (by first | rfl | simp [va_re_cat, Value.category]) (fun ls hl => ?_)
  obtain ⟨n9, hw⟩ := hw
  exact L6 a0 a2 a3 (k0) n9 0 a1 h  _ _ _ hw hH (lv_sub hl [2, 4, 5, 1, 0] rfl)
