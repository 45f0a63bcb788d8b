theorem cy_J9_max_7cf53 {s : State} {args : Array Value} (hG : GG s) : CYS s args yJ9_max_7cf53 cJ9_max_7cf53 2 (some .int) 2 := CYS.of hG (fun _ _ hG => tw_329 hG) (tw_18 hG) (tw_328 hG) (by decide +kernel)
set_option maxRecDepth 100000 in
set_option maxHeartbeats 4000000 in
theorem ct_J9_max_7cf53 {Z : ZT} (hZ : ZO Z) (l : Launch) (a0 : Int32) (a1 : Int32) (h : PH) (sz : Nat) (Q : Int32 → PH → Prop)  (hw : wp_J9_max_7cf53 a0 a1 h Q) : MI Z l yJ9_max_7cf53 cJ9_max_7cf53 2 (some .int) ({ frames := 0, cells := 0, slots := 0, locals := 0 } : Room) h sz [.int a0, .int a1] Q := by
  refine open_MF hZ (by decide +kernel) (by exact Nat.le_of_ble_eq_true rfl) ?_
  intro p e s m below meth c B hr hsz ls hl hH
  subst hsz
  have hl : lv_has ls 2 [(0, .int a0), (1, .int a1)] := hl
  unfold wp_J9_max_7cf53 at hw
  refine lv_iload_n B.1 B.2.1 dJ9_max_7cf53_0 rfl (lv_at hl 0 rfl) ?_
  refine lv_iload_n B.1 B.2.1 dJ9_max_7cf53_1 rfl (lv_at hl 1 rfl) ?_
  refine lv_icmp_lt (tgt := 9) B.1 B.2.1 dJ9_max_7cf53_2 (by decide) (fun c1 => ?_) (fun c1 => ?_)
  · have hw := hw.1 c1
    refine lv_iload_n B.1 B.2.1 dJ9_max_7cf53_9 rfl (lv_at hl 1 rfl) ?_
    exact e_i B hr hH hw dJ9_max_7cf53_10
  · have hw := hw.2 c1
    refine lv_iload_n B.1 B.2.1 dJ9_max_7cf53_5 rfl (lv_at hl 0 rfl) ?_
    refine lv_goto (tgt := 10) B.1 B.2.1 dJ9_max_7cf53_6 (by decide) ?_
    exact e_i B hr hH hw dJ9_max_7cf53_10
theorem cy_J9_min_7cf53 {s : State} {args : Array Value} (hG : GG s) : CYS s args yJ9_min_7cf53 cJ9_min_7cf53 2 (some .int) 2 := CYS.of hG (fun _ _ hG => tw_597 hG) (tw_18 hG) (tw_596 hG) (by decide +kernel)
set_option maxRecDepth 100000 in
set_option maxHeartbeats 4000000 in
theorem ct_J9_min_7cf53 {Z : ZT} (hZ : ZO Z) (l : Launch) (a0 : Int32) (a1 : Int32) (h : PH) (sz : Nat) (Q : Int32 → PH → Prop)  (hw : wp_J9_min_7cf53 a0 a1 h Q) : MI Z l yJ9_min_7cf53 cJ9_min_7cf53 2 (some .int) ({ frames := 0, cells := 0, slots := 0, locals := 0 } : Room) h sz [.int a0, .int a1] Q := by
  refine open_MF hZ (by decide +kernel) (by exact Nat.le_of_ble_eq_true rfl) ?_
  intro p e s m below meth c B hr hsz ls hl hH
  subst hsz
  have hl : lv_has ls 2 [(0, .int a0), (1, .int a1)] := hl
  unfold wp_J9_min_7cf53 at hw
  refine lv_iload_n B.1 B.2.1 dJ9_min_7cf53_0 rfl (lv_at hl 0 rfl) ?_
  refine lv_iload_n B.1 B.2.1 dJ9_min_7cf53_1 rfl (lv_at hl 1 rfl) ?_
  refine lv_icmp_gt (tgt := 9) B.1 B.2.1 dJ9_min_7cf53_2 (by decide) (fun c1 => ?_) (fun c1 => ?_)
  · have hw := hw.1 c1
    refine lv_iload_n B.1 B.2.1 dJ9_min_7cf53_9 rfl (lv_at hl 1 rfl) ?_
    exact e_i B hr hH hw dJ9_min_7cf53_10
  · have hw := hw.2 c1
    refine lv_iload_n B.1 B.2.1 dJ9_min_7cf53_5 rfl (lv_at hl 0 rfl) ?_
    refine lv_goto (tgt := 10) B.1 B.2.1 dJ9_min_7cf53_6 (by decide) ?_
    exact e_i B hr hH hw dJ9_min_7cf53_10
theorem cy_X7_get {s : State} {args : Array Value} (hG : GG s) : CYS s args yX7_get cX7_get 2 (some .int) 2 := CYS.of hG (fun _ _ hG => tw_226 hG) (tw_1 hG) (tw_225 hG) (by decide +kernel)
set_option maxRecDepth 100000 in
set_option maxHeartbeats 4000000 in
theorem ct_X7_get {Z : ZT} (hZ : ZO Z) (l : Launch) (a0 : Nat) (a1 : Int32) (h : PH) (sz : Nat) (Q : Int32 → PH → Prop) (k0 : kd a0 = 10) (hw : wp_X7_get a0 a1 h Q) : MI Z l yX7_get cX7_get 2 (some .int) ({ frames := 0, cells := 0, slots := 0, locals := 0 } : Room) h sz [.ref (zA Z a0), .int a1] Q := by
  refine open_M hZ (by decide +kernel) (by exact Nat.le_of_ble_eq_true rfl) ?_
  intro p e s m below meth c B hr hsz ls hl hH
  subst hsz
  have hl : lv_has ls 2 [(0, .ref (zA Z a0)), (1, .int a1)] := hl
  unfold wp_X7_get at hw
  refine lv_iload_n B.1 B.2.1 dX7_get_0 rfl (lv_at hl 1 rfl) ?_
  refine lv_if_lt (tgt := 10) B.1 B.2.1 dX7_get_1 (by decide) (fun c1 => ?_) (fun c1 => ?_)
  · have hw := hw.1 c1
    refine lv_iconst (v := 0) B.1 B.2.1 dX7_get_10 (by decide) ?_
    refine lv_goto (tgt := 17) B.1 B.2.1 dX7_get_11 (by decide) ?_
    exact e_i B hr hH hw dX7_get_17
  · have hw := hw.2 c1
    refine lv_iload_n B.1 B.2.1 dX7_get_4 rfl (lv_at hl 1 rfl) ?_
    refine lv_aload_n B.1 B.2.1 dX7_get_5 rfl (lv_at hl 0 rfl) ?_
    refine r_alen B hH (k0) dX7_get_6 ?_
    refine lv_icmp_lt (tgt := 14) B.1 B.2.1 dX7_get_7 (by decide) (fun c2 => ?_) (fun c2 => ?_)
    · have hw := hw.1 c2
      refine lv_aload_n B.1 B.2.1 dX7_get_14 rfl (lv_at hl 0 rfl) ?_
      refine lv_iload_n B.1 B.2.1 dX7_get_15 rfl (lv_at hl 1 rfl) ?_
      have q3 := hw.1
      have hw := hw.2
      refine r_iald B hH (k0) q3 dX7_get_16 ?_
      exact e_i B hr hH hw dX7_get_17
    · have hw := hw.2 c2
      refine lv_iconst (v := 0) B.1 B.2.1 dX7_get_10 (by decide) ?_
      refine lv_goto (tgt := 17) B.1 B.2.1 dX7_get_11 (by decide) ?_
      exact e_i B hr hH hw dX7_get_17
theorem cy_J9_floorMod_7cf53 {s : State} {args : Array Value} (hG : GG s) : CYS s args yJ9_floorMod_7cf53 cJ9_floorMod_7cf53 3 (some .int) 2 := CYS.of hG (fun _ _ hG => tw_872 hG) (tw_18 hG) (tw_871 hG) (by decide +kernel)
set_option maxRecDepth 100000 in
set_option maxHeartbeats 4000000 in
theorem ct_J9_floorMod_7cf53 {Z : ZT} (hZ : ZO Z) (l : Launch) (a0 : Int32) (a1 : Int32) (h : PH) (sz : Nat) (Q : Int32 → PH → Prop)  (hw : wp_J9_floorMod_7cf53 a0 a1 h Q) : MI Z l yJ9_floorMod_7cf53 cJ9_floorMod_7cf53 3 (some .int) ({ frames := 0, cells := 0, slots := 0, locals := 0 } : Room) h sz [.int a0, .int a1] Q := by
  refine open_MF hZ (by decide +kernel) (by exact Nat.le_of_ble_eq_true rfl) ?_
  intro p e s m below meth c B hr hsz ls hl hH
  subst hsz
  have hl : lv_has ls 3 [(0, .int a0), (1, .int a1)] := hl
  unfold wp_J9_floorMod_7cf53 at hw
  refine lv_iload_n B.1 B.2.1 dJ9_floorMod_7cf53_0 rfl (lv_at hl 0 rfl) ?_
  refine lv_iload_n B.1 B.2.1 dJ9_floorMod_7cf53_1 rfl (lv_at hl 1 rfl) ?_
  have q1 := hw.1
  have hw := hw.2
  refine x_irem B dJ9_floorMod_7cf53_2 q1 ?_
  refine lv_topi (fun x2 ex2 => ?_)
  have hw := hw x2 ex2
  refine lv_istore_n (lv' := [(2, .int x2), (0, .int a0), (1, .int a1)]) B.1 B.2.1 dJ9_floorMod_7cf53_3 rfl hl (by decide) (by first | rfl | simp [va_re_cat, Value.category]) (fun ls hl => ?_)
  refine lv_iload_n B.1 B.2.1 dJ9_floorMod_7cf53_4 rfl (lv_at hl 1 rfl) ?_
  refine lv_iload_n B.1 B.2.1 dJ9_floorMod_7cf53_5 rfl (lv_at hl 2 rfl) ?_
  refine lv_ixor B.1 B.2.1 dJ9_floorMod_7cf53_6 ?_
  refine lv_if_ge (tgt := 18) B.1 B.2.1 dJ9_floorMod_7cf53_7 (by decide) (fun c3 => ?_) (fun c3 => ?_)
  · have hw := hw.1 c3
    refine lv_iload_n B.1 B.2.1 dJ9_floorMod_7cf53_18 rfl (lv_at hl 0 rfl) ?_
    exact e_i B hr hH hw dJ9_floorMod_7cf53_19
  · have hw := hw.2 c3
    refine lv_iload_n B.1 B.2.1 dJ9_floorMod_7cf53_10 rfl (lv_at hl 0 rfl) ?_
    refine lv_if_eq (tgt := 18) B.1 B.2.1 dJ9_floorMod_7cf53_11 (by decide) (fun c4 => ?_) (fun c4 => ?_)
    · have hw := hw.1 c4
      refine lv_iload_n B.1 B.2.1 dJ9_floorMod_7cf53_18 rfl (lv_at hl 0 rfl) ?_
      exact e_i B hr hH hw dJ9_floorMod_7cf53_19
    · have hw := hw.2 c4
      refine lv_iload_n B.1 B.2.1 dJ9_floorMod_7cf53_14 rfl (lv_at hl 0 rfl) ?_
      refine lv_iload_n B.1 B.2.1 dJ9_floorMod_7cf53_15 rfl (lv_at hl 2 rfl) ?_
      refine lv_iadd B.1 B.2.1 dJ9_floorMod_7cf53_16 ?_
      exact e_i B hr hH hw dJ9_floorMod_7cf53_17
theorem cy_X7_outside {s : State} {args : Array Value} (hG : GG s) : CYS s args yX7_outside cX7_outside 3 (some .boolean) 3 := CYS.of hG (fun _ _ hG => tw_223 hG) (tw_1 hG) (tw_222 hG) (by decide +kernel)
set_option maxRecDepth 100000 in
set_option maxHeartbeats 4000000 in
theorem ct_X7_outside {Z : ZT} (hZ : ZO Z) (l : Launch) (a0 : Int32) (a1 : Int32) (a2 : Int32) (h : PH) (sz : Nat) (Q : Int32 → PH → Prop)  (hw : wp_X7_outside a0 a1 a2 h Q) : MI Z l yX7_outside cX7_outside 3 (some .boolean) ({ frames := 0, cells := 0, slots := 0, locals := 0 } : Room) h sz [.int a0, .int a1, .int a2] Q := by
  refine open_M hZ (by decide +kernel) (by exact Nat.le_of_ble_eq_true rfl) ?_
  intro p e s m below meth c B hr hsz ls hl hH
  subst hsz
  have hl : lv_has ls 3 [(0, .int a0), (1, .int a1), (2, .int a2)] := hl
  unfold wp_X7_outside at hw
  refine lv_iload_n B.1 B.2.1 dX7_outside_0 rfl (lv_at hl 0 rfl) ?_
  refine lv_iload_n B.1 B.2.1 dX7_outside_1 rfl (lv_at hl 1 rfl) ?_
  refine lv_icmp_lt (tgt := 10) B.1 B.2.1 dX7_outside_2 (by decide) (fun c1 => ?_) (fun c1 => ?_)
  · have hw := hw.1 c1
    refine lv_iconst (v := 1) B.1 B.2.1 dX7_outside_10 (by decide) ?_
    refine lv_goto (tgt := 15) B.1 B.2.1 dX7_outside_11 (by decide) ?_
    exact e_z B hr (by decide) hH hw dX7_outside_15
  · have hw := hw.2 c1
    refine lv_iload_n B.1 B.2.1 dX7_outside_5 rfl (lv_at hl 0 rfl) ?_
    refine lv_iload_n B.1 B.2.1 dX7_outside_6 rfl (lv_at hl 2 rfl) ?_
    refine lv_icmp_le (tgt := 14) B.1 B.2.1 dX7_outside_7 (by decide) (fun c2 => ?_) (fun c2 => ?_)
    · have hw := hw.1 c2
      refine lv_iconst (v := 0) B.1 B.2.1 dX7_outside_14 (by decide) ?_
      exact e_z B hr (by decide) hH hw dX7_outside_15
    · have hw := hw.2 c2
      refine lv_iconst (v := 1) B.1 B.2.1 dX7_outside_10 (by decide) ?_
      refine lv_goto (tgt := 15) B.1 B.2.1 dX7_outside_11 (by decide) ?_
      exact e_z B hr (by decide) hH hw dX7_outside_15
