theorem cy_X3_startOfRow {s : State} {args : Array Value} (hG : GG s) : CYV s args yX3_startOfRow cX3_startOfRow 5 (some .int) 2 := CYV.of hG (fun _ _ hG => tw_690 hG) (tw_3 hG) (tw_689 hG) (tp_48 hG) (by decide +kernel)
set_option maxRecDepth 100000 in
set_option maxHeartbeats 4000000 in
theorem ct_X3_startOfRow {Z : ZT} (hZ : ZO Z) (l : Launch) (a0 : Nat) (a1 : Int32) (a2 : Int32) (h : PH) (sz : Nat) (Q : Int32 → PH → Prop) (k0 : kd a0 = 3) (hw : wp_X3_startOfRow a0 a1 a2 h Q) : MI Z l yX3_startOfRow cX3_startOfRow 5 (some .int) ({ frames := 3, cells := 0, slots := 0, locals := 64 } : Room) h sz [.ref (zA Z a0), .int a1, .int a2] Q := by
  refine open_M hZ (by decide +kernel) (by exact Nat.le_of_ble_eq_true rfl) ?_
  intro p e s m below meth c B hr hsz ls hl hH
  subst hsz
  have hl : lv_has ls 5 [(0, .ref (zA Z a0)), (1, .int a1), (2, .int a2)] := hl
  unfold wp_X3_startOfRow at hw
  have L5 : ∀ (b0 : Nat) (b1 : Int32) (b2 : Int32), kd b0 = 3 → ∀ (n : Nat) (b3 : Int32) (b4 : Int32) (h : PH), ∀ (H : Heap) (locs : List Loc) (ls : Array Slot), wp_X3_startOfRow_b5 b0 b1 b2 Q n b3 b4 h → HH Z s h H locs → lv_has ls 5 [(0, .ref (zA Z b0)), (1, .int b1), (2, .int b2), (3, .int b3), (4, .int b4)] → W p l e ({ frames := 3, cells := 0, slots := 0, locals := 64 } : Room) s m ([.ref (zA Z a0), .int a1, .int a2]).toArray below meth c H locs 0 0 (MQ below (va_Qi Q (BZ Z) (fr Z s.heap.size)) ([.ref (zA Z a0), .int a1, .int a2]).toArray s 0 0 (fr Z s.heap.size)) (F0 m 5 ls []) := by
    intro b0 b1 b2 kb0 n
    induction n with
    | zero => intro b3 b4 h H locs ls hw hH hl; exact absurd hw id
    | succ n ih =>
      intro b3 b4 h H locs ls hw hH hl
      unfold wp_X3_startOfRow_b5 at hw
      refine lv_iload B.1 B.2.1 dX3_startOfRow_5 (lv_at hl 4 rfl) ?_
      refine lv_aload_n B.1 B.2.1 dX3_startOfRow_7 rfl (lv_at hl 0 rfl) ?_
      refine r_get B hH (own := RX3) (kd_n B (kb0) (by decide) (by decide)) (ct_3 (kb0)) rfl (ul_3 B.2.2.2.2.1) 1 (by decide) rfl (tw_47 B.2.2.2.2.1) dX3_startOfRow_8 ?_
      refine lv_icmp_ge (tgt := 41) B.1 B.2.1 dX3_startOfRow_11 (by decide) (fun c1 => ?_) (fun c1 => ?_)
      · replace hw := hw.1 c1
        refine lv_iconst (v := (-1)) B.1 B.2.1 dX3_startOfRow_41 (by decide) ?_
        exact e_i B hr hH hw dX3_startOfRow_42
      · replace hw := hw.2 c1
        refine lv_aload_n B.1 B.2.1 dX3_startOfRow_14 rfl (lv_at hl 0 rfl) ?_
        refine lv_iload B.1 B.2.1 dX3_startOfRow_15 (lv_at hl 4 rfl) ?_
        refine lv_iload_n B.1 B.2.1 dX3_startOfRow_17 rfl (lv_at hl 2 rfl) ?_
        refine c_V_I (own := RX3) (As := [.int b4, .int b2]) (rest := []) B hH (cy_X3_startsRow B.2.2.2.2.1) (ct_X3_startsRow B.2.2.2.2.2.2.2 l b0 b4 b2 h _ _ (kb0) hw) ⟨⟨rfl, rfl⟩, Nat.le_of_ble_eq_true rfl, Nat.le_of_ble_eq_true rfl, Nat.zero_le _, Nat.zero_le _⟩ (rv_3 B hH (kb0)) (tw_649 B.2.2.2.2.1) rfl hl.1 rfl (Nat.le_of_ble_eq_true rfl) dX3_startOfRow_18 ?_
        clear hw hH
        intro r3 h2 H locs hw hH
        refine lv_if_eq (tgt := 35) B.1 B.2.1 dX3_startOfRow_21 (by decide) (fun c4 => ?_) (fun c4 => ?_)
        · replace hw := hw.1 c4
          obtain ⟨x5, ex5⟩ : ∃ y : Int32, y = b4 + 1 := ⟨_, rfl⟩
          replace hw := hw x5 ex5
          refine lv_iinc (v := x5) (lv' := [(4, .int x5), (0, .ref (zA Z b0)), (1, .int b1), (2, .int b2), (3, .int b3)]) B.1 B.2.1 dX3_startOfRow_35 hl (k := 4) rfl (by rw [ex5]; rfl) (by decide) (by first | rfl | simp [va_re_cat, Value.category]) ?_
          clear hl
          intro ls hl
          refine lv_goto (tgt := 5) B.1 B.2.1 dX3_startOfRow_38 (by decide) ?_
          exact ih b3 x5 h2  _ _ _ hw hH (lv_sub hl [1, 2, 3, 4, 0] rfl)
        · replace hw := hw.2 c4
          refine lv_iload_n B.1 B.2.1 dX3_startOfRow_24 rfl (lv_at hl 3 rfl) ?_
          refine lv_iload_n B.1 B.2.1 dX3_startOfRow_25 rfl (lv_at hl 1 rfl) ?_
          refine lv_icmp_ne (tgt := 32) B.1 B.2.1 dX3_startOfRow_26 (by decide) (fun c6 => ?_) (fun c6 => ?_)
          · replace hw := hw.1 c6
            obtain ⟨x7, ex7⟩ : ∃ y : Int32, y = b3 + 1 := ⟨_, rfl⟩
            replace hw := hw x7 ex7
            refine lv_iinc (v := x7) (lv' := [(3, .int x7), (0, .ref (zA Z b0)), (1, .int b1), (2, .int b2), (4, .int b4)]) B.1 B.2.1 dX3_startOfRow_32 hl (k := 3) rfl (by rw [ex7]; rfl) (by decide) (by first | rfl | simp [va_re_cat, Value.category]) ?_
            clear hl
            intro ls hl
            obtain ⟨x8, ex8⟩ : ∃ y : Int32, y = b4 + 1 := ⟨_, rfl⟩
            replace hw := hw x8 ex8
            refine lv_iinc (v := x8) (lv' := [(4, .int x8), (3, .int x7), (0, .ref (zA Z b0)), (1, .int b1), (2, .int b2)]) B.1 B.2.1 dX3_startOfRow_35 hl (k := 4) rfl (by rw [ex8]; rfl) (by decide) (by first | rfl | simp [va_re_cat, Value.category]) ?_
            clear hl
            intro ls hl
            refine lv_goto (tgt := 5) B.1 B.2.1 dX3_startOfRow_38 (by decide) ?_
            exact ih x7 x8 h2  _ _ _ hw hH (lv_sub hl [2, 3, 4, 1, 0] rfl)
          · replace hw := hw.2 c6
            refine lv_iload B.1 B.2.1 dX3_startOfRow_29 (lv_at hl 4 rfl) ?_
            exact e_i B hr hH hw dX3_startOfRow_31
  refine lv_iconst (v := 0) B.1 B.2.1 dX3_startOfRow_0 (by decide) ?_
  refine lv_istore_n (lv' := [(3, .int 0), (0, .ref (zA Z a0)), (1, .int a1), (2, .int a2)]) B.1 B.2.1 dX3_startOfRow_1 rfl hl (by decide) (by first | rfl | simp [va_re_cat, Value.category]) ?_
  clear hl
  intro ls hl
  refine lv_iconst (v := 0) B.1 B.2.1 dX3_startOfRow_2 (by decide) ?_
  refine lv_istore (lv' := [(4, .int 0), (3, .int 0), (0, .ref (zA Z a0)), (1, .int a1), (2, .int a2)]) B.1 B.2.1 dX3_startOfRow_3 hl (by decide) (by first | rfl | simp [va_re_cat, Value.category]) ?_
  clear hl
  intro ls hl
  obtain ⟨n9, hw⟩ := hw
  exact L5 a0 a1 a2 (k0) n9 0 0 h  _ _ _ hw hH (lv_sub hl [2, 3, 4, 1, 0] rfl)
theorem cy_X3_rowLength {s : State} {args : Array Value} (hG : GG s) : CYV s args yX3_rowLength cX3_rowLength 3 (some .int) 1 := CYV.of hG (fun _ _ hG => tw_668 hG) (tw_3 hG) (tw_667 hG) (tp_47 hG) (by decide +kernel)
set_option maxRecDepth 100000 in
set_option maxHeartbeats 4000000 in
theorem ct_X3_rowLength {Z : ZT} (hZ : ZO Z) (l : Launch) (a0 : Nat) (a1 : Int32) (h : PH) (sz : Nat) (Q : Int32 → PH → Prop) (k0 : kd a0 = 3) (hw : wp_X3_rowLength a0 a1 h Q) : MI Z l yX3_rowLength cX3_rowLength 3 (some .int) ({ frames := 2, cells := 0, slots := 0, locals := 42 } : Room) h sz [.ref (zA Z a0), .int a1] Q := by
  refine open_M hZ (by decide +kernel) (by exact Nat.le_of_ble_eq_true rfl) ?_
  intro p e s m below meth c B hr hsz ls hl hH
  subst hsz
  have hl : lv_has ls 3 [(0, .ref (zA Z a0)), (1, .int a1)] := hl
  unfold wp_X3_rowLength at hw
  have L2 : ∀ (b0 : Nat) (b1 : Int32), kd b0 = 3 → ∀ (n : Nat) (b2 : Int32) (h : PH), ∀ (H : Heap) (locs : List Loc) (ls : Array Slot), wp_X3_rowLength_b2 b0 b1 Q n b2 h → HH Z s h H locs → lv_has ls 3 [(0, .ref (zA Z b0)), (1, .int b1), (2, .int b2)] → W p l e ({ frames := 2, cells := 0, slots := 0, locals := 42 } : Room) s m ([.ref (zA Z a0), .int a1]).toArray below meth c H locs 0 0 (MQ below (va_Qi Q (BZ Z) (fr Z s.heap.size)) ([.ref (zA Z a0), .int a1]).toArray s 0 0 (fr Z s.heap.size)) (F0 m 2 ls []) := by
    intro b0 b1 kb0 n
    induction n with
    | zero => intro b2 h H locs ls hw hH hl; exact absurd hw id
    | succ n ih =>
      intro b2 h H locs ls hw hH hl
      unfold wp_X3_rowLength_b2 at hw
      refine lv_iload_n B.1 B.2.1 dX3_rowLength_2 rfl (lv_at hl 2 rfl) ?_
      refine lv_aload_n B.1 B.2.1 dX3_rowLength_3 rfl (lv_at hl 0 rfl) ?_
      refine r_get B hH (own := RX3) (kd_n B (kb0) (by decide) (by decide)) (ct_3 (kb0)) rfl (ul_3 B.2.2.2.2.1) 1 (by decide) rfl (tw_47 B.2.2.2.2.1) dX3_rowLength_4 ?_
      refine lv_icmp_ge (tgt := 29) B.1 B.2.1 dX3_rowLength_7 (by decide) (fun c1 => ?_) (fun c1 => ?_)
      · replace hw := hw.1 c1
        refine lv_iload_n B.1 B.2.1 dX3_rowLength_29 rfl (lv_at hl 2 rfl) ?_
        refine lv_iload_n B.1 B.2.1 dX3_rowLength_30 rfl (lv_at hl 1 rfl) ?_
        refine lv_isub B.1 B.2.1 dX3_rowLength_31 ?_
        exact e_i B hr hH hw dX3_rowLength_32
      · replace hw := hw.2 c1
        refine lv_aload_n B.1 B.2.1 dX3_rowLength_10 rfl (lv_at hl 0 rfl) ?_
        refine lv_iload_n B.1 B.2.1 dX3_rowLength_11 rfl (lv_at hl 2 rfl) ?_
        refine c_V_I (own := RX3) (As := [.int b2]) (rest := []) B hH (cy_X3_isSilent B.2.2.2.2.1) (ct_X3_isSilent B.2.2.2.2.2.2.2 l b0 b2 h _ _ (kb0) hw) ⟨⟨rfl, rfl⟩, Nat.le_of_ble_eq_true rfl, Nat.le_of_ble_eq_true rfl, Nat.zero_le _, Nat.zero_le _⟩ (rv_3 B hH (kb0)) (tw_653 B.2.2.2.2.1) rfl hl.1 rfl (Nat.le_of_ble_eq_true rfl) dX3_rowLength_12 ?_
        clear hw hH
        intro r3 h2 H locs hw hH
        refine lv_aload_n B.1 B.2.1 dX3_rowLength_15 rfl (lv_at hl 0 rfl) ?_
        refine lv_iload_n B.1 B.2.1 dX3_rowLength_16 rfl (lv_at hl 1 rfl) ?_
        refine c_V_I (own := RX3) (As := [.int b1]) (rest := [.int r3]) B hH (cy_X3_isSilent B.2.2.2.2.1) (ct_X3_isSilent B.2.2.2.2.2.2.2 l b0 b1 h2 _ _ (kb0) hw) ⟨⟨rfl, rfl⟩, Nat.le_of_ble_eq_true rfl, Nat.le_of_ble_eq_true rfl, Nat.zero_le _, Nat.zero_le _⟩ (rv_3 B hH (kb0)) (tw_653 B.2.2.2.2.1) rfl hl.1 rfl (Nat.le_of_ble_eq_true rfl) dX3_rowLength_17 ?_
        clear hw hH
        intro r5 h4 H locs hw hH
        refine lv_icmp_ne (tgt := 29) B.1 B.2.1 dX3_rowLength_20 (by decide) (fun c6 => ?_) (fun c6 => ?_)
        · replace hw := hw.1 c6
          refine lv_iload_n B.1 B.2.1 dX3_rowLength_29 rfl (lv_at hl 2 rfl) ?_
          refine lv_iload_n B.1 B.2.1 dX3_rowLength_30 rfl (lv_at hl 1 rfl) ?_
          refine lv_isub B.1 B.2.1 dX3_rowLength_31 ?_
          exact e_i B hr hH hw dX3_rowLength_32
        · replace hw := hw.2 c6
          obtain ⟨x7, ex7⟩ : ∃ y : Int32, y = b2 + 1 := ⟨_, rfl⟩
          replace hw := hw x7 ex7
          refine lv_iinc (v := x7) (lv' := [(2, .int x7), (0, .ref (zA Z b0)), (1, .int b1)]) B.1 B.2.1 dX3_rowLength_23 hl (k := 2) rfl (by rw [ex7]; rfl) (by decide) (by first | rfl | simp [va_re_cat, Value.category]) ?_
          clear hl
          intro ls hl
          refine lv_goto (tgt := 2) B.1 B.2.1 dX3_rowLength_26 (by decide) ?_
          exact ih x7 h4  _ _ _ hw hH (lv_sub hl [1, 2, 0] rfl)
  refine lv_iload_n B.1 B.2.1 dX3_rowLength_0 rfl (lv_at hl 1 rfl) ?_
  refine lv_istore_n (lv' := [(2, .int a1), (0, .ref (zA Z a0)), (1, .int a1)]) B.1 B.2.1 dX3_rowLength_1 rfl hl (by decide) (by first | rfl | simp [va_re_cat, Value.category]) ?_
  clear hl
  intro ls hl
  obtain ⟨n8, hw⟩ := hw
  exact L2 a0 a1 (k0) n8 a1 h  _ _ _ hw hH (lv_sub hl [1, 2, 0] rfl)
theorem cy_X3_firstQuiet {s : State} {args : Array Value} (hG : GG s) : CYV s args yX3_firstQuiet cX3_firstQuiet 4 (some .int) 1 := CYV.of hG (fun _ _ hG => tw_696 hG) (tw_3 hG) (tw_695 hG) (tp_49 hG) (by decide +kernel)
set_option maxRecDepth 100000 in
set_option maxHeartbeats 4000000 in
theorem ct_X3_firstQuiet {Z : ZT} (hZ : ZO Z) (l : Launch) (a0 : Nat) (a1 : Int32) (h : PH) (sz : Nat) (Q : Int32 → PH → Prop) (k0 : kd a0 = 3) (hw : wp_X3_firstQuiet a0 a1 h Q) : MI Z l yX3_firstQuiet cX3_firstQuiet 4 (some .int) ({ frames := 3, cells := 0, slots := 0, locals := 64 } : Room) h sz [.ref (zA Z a0), .int a1] Q := by
  refine open_M hZ (by decide +kernel) (by exact Nat.le_of_ble_eq_true rfl) ?_
  intro p e s m below meth c B hr hsz ls hl hH
  subst hsz
  have hl : lv_has ls 4 [(0, .ref (zA Z a0)), (1, .int a1)] := hl
  unfold wp_X3_firstQuiet at hw
  have L10 : ∀ (b0 : Nat) (b2 : Int32), kd b0 = 3 → ∀ (n : Nat) (b3 : Int32) (h : PH), ∀ (H : Heap) (locs : List Loc) (ls : Array Slot), wp_X3_firstQuiet_b10 b0 b2 Q n b3 h → HH Z s h H locs → lv_has ls 4 [(0, .ref (zA Z b0)), (2, .int b2), (3, .int b3)] → W p l e ({ frames := 3, cells := 0, slots := 0, locals := 64 } : Room) s m ([.ref (zA Z a0), .int a1]).toArray below meth c H locs 0 0 (MQ below (va_Qi Q (BZ Z) (fr Z s.heap.size)) ([.ref (zA Z a0), .int a1]).toArray s 0 0 (fr Z s.heap.size)) (F0 m 10 ls []) := by
    intro b0 b2 kb0 n
    induction n with
    | zero => intro b3 h H locs ls hw hH hl; exact absurd hw id
    | succ n ih =>
      intro b3 h H locs ls hw hH hl
      unfold wp_X3_firstQuiet_b10 at hw
      refine lv_iload_n B.1 B.2.1 dX3_firstQuiet_10 rfl (lv_at hl 2 rfl) ?_
      refine lv_iload_n B.1 B.2.1 dX3_firstQuiet_11 rfl (lv_at hl 1 rfl) ?_
      refine lv_icmp_gt (tgt := 31) B.1 B.2.1 dX3_firstQuiet_12 (by decide) (fun c4 => ?_) (fun c4 => ?_)
      · replace hw := hw.1 c4
        refine lv_iconst (v := (-1)) B.1 B.2.1 dX3_firstQuiet_31 (by decide) ?_
        exact e_i B hr hH hw dX3_firstQuiet_32
      · replace hw := hw.2 c4
        refine lv_aload_n B.1 B.2.1 dX3_firstQuiet_15 rfl (lv_at hl 0 rfl) ?_
        refine lv_iload_n B.1 B.2.1 dX3_firstQuiet_16 rfl (lv_at hl 2 rfl) ?_
        refine c_V_I (own := RX3) (As := [.int b3]) (rest := []) B hH (cy_X3_isQuiet B.2.2.2.2.1) (ct_X3_isQuiet B.2.2.2.2.2.2.2 l b0 b3 h _ _ (kb0) hw) ⟨⟨rfl, rfl⟩, Nat.le_of_ble_eq_true rfl, Nat.le_of_ble_eq_true rfl, Nat.zero_le _, Nat.zero_le _⟩ (rv_3 B hH (kb0)) (tw_697 B.2.2.2.2.1) rfl hl.1 rfl (Nat.le_of_ble_eq_true rfl) dX3_firstQuiet_17 ?_
        clear hw hH
        intro r6 h5 H locs hw hH
        refine lv_if_eq (tgt := 25) B.1 B.2.1 dX3_firstQuiet_20 (by decide) (fun c7 => ?_) (fun c7 => ?_)
        · replace hw := hw.1 c7
          obtain ⟨x8, ex8⟩ : ∃ y : Int32, y = b3 + 1 := ⟨_, rfl⟩
          replace hw := hw x8 ex8
          refine lv_iinc (v := x8) (lv' := [(3, .int x8), (0, .ref (zA Z b0)), (2, .int b2)]) B.1 B.2.1 dX3_firstQuiet_25 hl (k := 2) rfl (by rw [ex8]; rfl) (by decide) (by first | rfl | simp [va_re_cat, Value.category]) ?_
          clear hl
          intro ls hl
          refine lv_goto (tgt := 10) B.1 B.2.1 dX3_firstQuiet_28 (by decide) ?_
          exact ih x8 h5  _ _ _ hw hH (lv_sub hl [1, 2, 0] rfl)
        · replace hw := hw.2 c7
          refine lv_iload_n B.1 B.2.1 dX3_firstQuiet_23 rfl (lv_at hl 2 rfl) ?_
          exact e_i B hr hH hw dX3_firstQuiet_24
  refine lv_iload_n B.1 B.2.1 dX3_firstQuiet_0 rfl (lv_at hl 1 rfl) ?_
  refine lv_aload_n B.1 B.2.1 dX3_firstQuiet_1 rfl (lv_at hl 0 rfl) ?_
  refine lv_iload_n B.1 B.2.1 dX3_firstQuiet_2 rfl (lv_at hl 1 rfl) ?_
  refine c_V_I (own := RX3) (As := [.int a1]) (rest := [.int a1]) B hH (cy_X3_rowLength B.2.2.2.2.1) (ct_X3_rowLength B.2.2.2.2.2.2.2 l a0 a1 h _ _ (k0) hw) ⟨⟨rfl, rfl⟩, Nat.le_of_ble_eq_true rfl, Nat.le_of_ble_eq_true rfl, Nat.zero_le _, Nat.zero_le _⟩ (rv_3 B hH (k0)) (tw_665 B.2.2.2.2.1) rfl hl.1 rfl (Nat.le_of_ble_eq_true rfl) dX3_firstQuiet_3 ?_
  clear hw hH
  intro r2 h1 H locs hw hH
  refine lv_iadd B.1 B.2.1 dX3_firstQuiet_6 ?_
  refine lv_topi (fun x3 ex3 => ?_)
  replace hw := hw x3 ex3
  refine lv_istore_n (lv' := [(2, .int x3), (0, .ref (zA Z a0)), (1, .int a1)]) B.1 B.2.1 dX3_firstQuiet_7 rfl hl (by decide) (by first | rfl | simp [va_re_cat, Value.category]) ?_
  clear hl
  intro ls hl
  refine lv_iload_n B.1 B.2.1 dX3_firstQuiet_8 rfl (lv_at hl 2 rfl) ?_
  refine lv_istore_n (lv' := [(3, .int a1), (2, .int x3), (0, .ref (zA Z a0)), (1, .int a1)]) B.1 B.2.1 dX3_firstQuiet_9 rfl hl (by decide) (by first | rfl | simp [va_re_cat, Value.category]) ?_
  clear hl
  intro ls hl
  obtain ⟨n9, hw⟩ := hw
  exact L10 a0 x3 (k0) n9 a1 h1  _ _ _ hw hH (lv_sub hl [2, 1, 0] rfl)
theorem cy_X3_greatestSound {s : State} {args : Array Value} (hG : GG s) : CYV s args yX3_greatestSound cX3_greatestSound 5 (some .int) 1 := CYV.of hG (fun _ _ hG => tw_709 hG) (tw_3 hG) (tw_708 hG) (tp_50 hG) (by decide +kernel)
set_option maxRecDepth 100000 in
set_option maxHeartbeats 4000000 in
theorem ct_X3_greatestSound {Z : ZT} (hZ : ZO Z) (l : Launch) (a0 : Nat) (a1 : Int32) (h : PH) (sz : Nat) (Q : Int32 → PH → Prop) (k0 : kd a0 = 3) (hw : wp_X3_greatestSound a0 a1 h Q) : MI Z l yX3_greatestSound cX3_greatestSound 5 (some .int) ({ frames := 3, cells := 0, slots := 0, locals := 64 } : Room) h sz [.ref (zA Z a0), .int a1] Q := by
  refine open_M hZ (by decide +kernel) (by exact Nat.le_of_ble_eq_true rfl) ?_
  intro p e s m below meth c B hr hsz ls hl hH
  subst hsz
  have hl : lv_has ls 5 [(0, .ref (zA Z a0)), (1, .int a1)] := hl
  unfold wp_X3_greatestSound at hw
  have L13 : ∀ (b0 : Nat) (b2 : Int32), kd b0 = 3 → ∀ (n : Nat) (b3 : Int32) (b4 : Int32) (h : PH), ∀ (H : Heap) (locs : List Loc) (ls : Array Slot), wp_X3_greatestSound_b13 b0 b2 Q n b3 b4 h → HH Z s h H locs → lv_has ls 5 [(0, .ref (zA Z b0)), (2, .int b2), (3, .int b3), (4, .int b4)] → W p l e ({ frames := 3, cells := 0, slots := 0, locals := 64 } : Room) s m ([.ref (zA Z a0), .int a1]).toArray below meth c H locs 0 0 (MQ below (va_Qi Q (BZ Z) (fr Z s.heap.size)) ([.ref (zA Z a0), .int a1]).toArray s 0 0 (fr Z s.heap.size)) (F0 m 13 ls []) := by
    intro b0 b2 kb0 n
    induction n with
    | zero => intro b3 b4 h H locs ls hw hH hl; exact absurd hw id
    | succ n ih =>
      intro b3 b4 h H locs ls hw hH hl
      unfold wp_X3_greatestSound_b13 at hw
      refine lv_iload B.1 B.2.1 dX3_greatestSound_13 (lv_at hl 3 rfl) ?_
      refine lv_iload_n B.1 B.2.1 dX3_greatestSound_15 rfl (lv_at hl 1 rfl) ?_
      refine lv_icmp_ge (tgt := 39) B.1 B.2.1 dX3_greatestSound_16 (by decide) (fun c4 => ?_) (fun c4 => ?_)
      · replace hw := hw.1 c4
        refine lv_iload_n B.1 B.2.1 dX3_greatestSound_39 rfl (lv_at hl 2 rfl) ?_
        exact e_i B hr hH hw dX3_greatestSound_40
      · replace hw := hw.2 c4
        refine lv_iload_n B.1 B.2.1 dX3_greatestSound_19 rfl (lv_at hl 2 rfl) ?_
        refine lv_aload_n B.1 B.2.1 dX3_greatestSound_20 rfl (lv_at hl 0 rfl) ?_
        refine r_get B hH (own := RX3) (kd_n B (kb0) (by decide) (by decide)) (ct_3 (kb0)) rfl (ul_3 B.2.2.2.2.1) 0 (by decide) rfl (tw_43 B.2.2.2.2.1) dX3_greatestSound_21 ?_
        refine lv_iload B.1 B.2.1 dX3_greatestSound_24 (lv_at hl 3 rfl) ?_
        refine c_SN_I (own := RX3) (As := [.ref (zA Z (b0 + 1)), .int b4]) (rest := [.int b3]) B hH (cy_X7_get B.2.2.2.2.1) (ct_X7_get B.2.2.2.2.2.2.2 l (b0 + 1) b4 h _ _ (kf_3_0 (kb0)) hw) ⟨⟨rfl, rfl⟩, Nat.le_of_ble_eq_true rfl, Nat.le_of_ble_eq_true rfl, Nat.zero_le _, Nat.zero_le _⟩ (tw_517 B.2.2.2.2.1) rfl hl.1 rfl (Nat.le_of_ble_eq_true rfl) dX3_greatestSound_26 ?_
        clear hw hH
        intro r6 h5 H locs hw hH
        refine c_S_I (own := RX3) (As := [.int b3, .int r6]) (rest := []) B hH (cy_J9_max_7cf53 B.2.2.2.2.1) (ct_J9_max_7cf53 B.2.2.2.2.2.2.2 l b3 r6 h5 _ _  hw) ⟨⟨rfl, rfl⟩, Nat.le_of_ble_eq_true rfl, Nat.le_of_ble_eq_true rfl, Nat.zero_le _, Nat.zero_le _⟩ (tw_669 B.2.2.2.2.1) rfl hl.1 rfl (Nat.le_of_ble_eq_true rfl) dX3_greatestSound_29 ?_
        clear hw hH
        intro r8 h7 H locs hw hH
        refine lv_istore_n (lv' := [(3, .int r8), (0, .ref (zA Z b0)), (2, .int b2), (4, .int b4)]) B.1 B.2.1 dX3_greatestSound_32 rfl hl (by decide) (by first | rfl | simp [va_re_cat, Value.category]) ?_
        clear hl
        intro ls hl
        obtain ⟨x9, ex9⟩ : ∃ y : Int32, y = b4 + 1 := ⟨_, rfl⟩
        replace hw := hw x9 ex9
        refine lv_iinc (v := x9) (lv' := [(4, .int x9), (3, .int r8), (0, .ref (zA Z b0)), (2, .int b2)]) B.1 B.2.1 dX3_greatestSound_33 hl (k := 3) rfl (by rw [ex9]; rfl) (by decide) (by first | rfl | simp [va_re_cat, Value.category]) ?_
        clear hl
        intro ls hl
        refine lv_goto (tgt := 13) B.1 B.2.1 dX3_greatestSound_36 (by decide) ?_
        exact ih r8 x9 h7  _ _ _ hw hH (lv_sub hl [2, 3, 1, 0] rfl)
  refine lv_iload_n B.1 B.2.1 dX3_greatestSound_0 rfl (lv_at hl 1 rfl) ?_
  refine lv_aload_n B.1 B.2.1 dX3_greatestSound_1 rfl (lv_at hl 0 rfl) ?_
  refine lv_iload_n B.1 B.2.1 dX3_greatestSound_2 rfl (lv_at hl 1 rfl) ?_
  refine c_V_I (own := RX3) (As := [.int a1]) (rest := [.int a1]) B hH (cy_X3_rowLength B.2.2.2.2.1) (ct_X3_rowLength B.2.2.2.2.2.2.2 l a0 a1 h _ _ (k0) hw) ⟨⟨rfl, rfl⟩, Nat.le_of_ble_eq_true rfl, Nat.le_of_ble_eq_true rfl, Nat.zero_le _, Nat.zero_le _⟩ (rv_3 B hH (k0)) (tw_665 B.2.2.2.2.1) rfl hl.1 rfl (Nat.le_of_ble_eq_true rfl) dX3_greatestSound_3 ?_
  clear hw hH
  intro r2 h1 H locs hw hH
  refine lv_iadd B.1 B.2.1 dX3_greatestSound_6 ?_
  refine lv_topi (fun x3 ex3 => ?_)
  replace hw := hw x3 ex3
  refine lv_istore_n (lv' := [(2, .int x3), (0, .ref (zA Z a0)), (1, .int a1)]) B.1 B.2.1 dX3_greatestSound_7 rfl hl (by decide) (by first | rfl | simp [va_re_cat, Value.category]) ?_
  clear hl
  intro ls hl
  refine lv_iconst (v := 0) B.1 B.2.1 dX3_greatestSound_8 (by decide) ?_
  refine lv_istore_n (lv' := [(3, .int 0), (2, .int x3), (0, .ref (zA Z a0)), (1, .int a1)]) B.1 B.2.1 dX3_greatestSound_9 rfl hl (by decide) (by first | rfl | simp [va_re_cat, Value.category]) ?_
  clear hl
  intro ls hl
  refine lv_iload_n B.1 B.2.1 dX3_greatestSound_10 rfl (lv_at hl 3 rfl) ?_
  refine lv_istore (lv' := [(4, .int a1), (3, .int 0), (2, .int x3), (0, .ref (zA Z a0)), (1, .int a1)]) B.1 B.2.1 dX3_greatestSound_11 hl (by decide) (by first | rfl | simp [va_re_cat, Value.category]) ?_
  clear hl
  intro ls hl
  obtain ⟨n10, hw⟩ := hw
  exact L13 a0 x3 (k0) n10 0 a1 h1  _ _ _ hw hH (lv_sub hl [3, 2, 1, 0] rfl)
theorem cy_X3_longestSilence {s : State} {args : Array Value} (hG : GG s) : CYV s args yX3_longestSilence cX3_longestSilence 3 (some .int) 0 := CYV.of hG (fun _ _ hG => tw_664 hG) (tw_3 hG) (tw_663 hG) (tp_46 hG) (by decide +kernel)
set_option maxRecDepth 100000 in
set_option maxHeartbeats 4000000 in
theorem ct_X3_longestSilence {Z : ZT} (hZ : ZO Z) (l : Launch) (a0 : Nat) (h : PH) (sz : Nat) (Q : Int32 → PH → Prop) (k0 : kd a0 = 3) (hw : wp_X3_longestSilence a0 h Q) : MI Z l yX3_longestSilence cX3_longestSilence 3 (some .int) ({ frames := 3, cells := 0, slots := 0, locals := 64 } : Room) h sz [.ref (zA Z a0)] Q := by
  refine open_M hZ (by decide +kernel) (by exact Nat.le_of_ble_eq_true rfl) ?_
  intro p e s m below meth c B hr hsz ls hl hH
  subst hsz
  have hl : lv_has ls 3 [(0, .ref (zA Z a0))] := hl
  unfold wp_X3_longestSilence at hw
  have L4 : ∀ (b0 : Nat), kd b0 = 3 → ∀ (n : Nat) (b1 : Int32) (b2 : Int32) (h : PH), ∀ (H : Heap) (locs : List Loc) (ls : Array Slot), wp_X3_longestSilence_b4 b0 Q n b1 b2 h → HH Z s h H locs → lv_has ls 3 [(0, .ref (zA Z b0)), (1, .int b1), (2, .int b2)] → W p l e ({ frames := 3, cells := 0, slots := 0, locals := 64 } : Room) s m ([.ref (zA Z a0)]).toArray below meth c H locs 0 0 (MQ below (va_Qi Q (BZ Z) (fr Z s.heap.size)) ([.ref (zA Z a0)]).toArray s 0 0 (fr Z s.heap.size)) (F0 m 4 ls []) := by
    intro b0 kb0 n
    induction n with
    | zero => intro b1 b2 h H locs ls hw hH hl; exact absurd hw id
    | succ n ih =>
      intro b1 b2 h H locs ls hw hH hl
      unfold wp_X3_longestSilence_b4 at hw
      refine lv_iload_n B.1 B.2.1 dX3_longestSilence_4 rfl (lv_at hl 2 rfl) ?_
      refine lv_aload_n B.1 B.2.1 dX3_longestSilence_5 rfl (lv_at hl 0 rfl) ?_
      refine r_get B hH (own := RX3) (kd_n B (kb0) (by decide) (by decide)) (ct_3 (kb0)) rfl (ul_3 B.2.2.2.2.1) 1 (by decide) rfl (tw_47 B.2.2.2.2.1) dX3_longestSilence_6 ?_
      refine lv_icmp_ge (tgt := 37) B.1 B.2.1 dX3_longestSilence_9 (by decide) (fun c1 => ?_) (fun c1 => ?_)
      · replace hw := hw.1 c1
        refine lv_iload_n B.1 B.2.1 dX3_longestSilence_37 rfl (lv_at hl 1 rfl) ?_
        exact e_i B hr hH hw dX3_longestSilence_38
      · replace hw := hw.2 c1
        refine lv_aload_n B.1 B.2.1 dX3_longestSilence_12 rfl (lv_at hl 0 rfl) ?_
        refine lv_iload_n B.1 B.2.1 dX3_longestSilence_13 rfl (lv_at hl 2 rfl) ?_
        refine lv_iconst (v := 1) B.1 B.2.1 dX3_longestSilence_14 (by decide) ?_
        refine c_V_I (own := RX3) (As := [.int b2, .int 1]) (rest := []) B hH (cy_X3_startsRow B.2.2.2.2.1) (ct_X3_startsRow B.2.2.2.2.2.2.2 l b0 b2 1 h _ _ (kb0) hw) ⟨⟨rfl, rfl⟩, Nat.le_of_ble_eq_true rfl, Nat.le_of_ble_eq_true rfl, Nat.zero_le _, Nat.zero_le _⟩ (rv_3 B hH (kb0)) (tw_649 B.2.2.2.2.1) rfl hl.1 rfl (Nat.le_of_ble_eq_true rfl) dX3_longestSilence_15 ?_
        clear hw hH
        intro r3 h2 H locs hw hH
        refine lv_if_eq (tgt := 31) B.1 B.2.1 dX3_longestSilence_18 (by decide) (fun c4 => ?_) (fun c4 => ?_)
        · replace hw := hw.1 c4
          obtain ⟨x5, ex5⟩ : ∃ y : Int32, y = b2 + 1 := ⟨_, rfl⟩
          replace hw := hw x5 ex5
          refine lv_iinc (v := x5) (lv' := [(2, .int x5), (0, .ref (zA Z b0)), (1, .int b1)]) B.1 B.2.1 dX3_longestSilence_31 hl (k := 2) rfl (by rw [ex5]; rfl) (by decide) (by first | rfl | simp [va_re_cat, Value.category]) ?_
          clear hl
          intro ls hl
          refine lv_goto (tgt := 4) B.1 B.2.1 dX3_longestSilence_34 (by decide) ?_
          exact ih b1 x5 h2  _ _ _ hw hH (lv_sub hl [1, 2, 0] rfl)
        · replace hw := hw.2 c4
          refine lv_iload_n B.1 B.2.1 dX3_longestSilence_21 rfl (lv_at hl 1 rfl) ?_
          refine lv_aload_n B.1 B.2.1 dX3_longestSilence_22 rfl (lv_at hl 0 rfl) ?_
          refine lv_iload_n B.1 B.2.1 dX3_longestSilence_23 rfl (lv_at hl 2 rfl) ?_
          refine c_V_I (own := RX3) (As := [.int b2]) (rest := [.int b1]) B hH (cy_X3_rowLength B.2.2.2.2.1) (ct_X3_rowLength B.2.2.2.2.2.2.2 l b0 b2 h2 _ _ (kb0) hw) ⟨⟨rfl, rfl⟩, Nat.le_of_ble_eq_true rfl, Nat.le_of_ble_eq_true rfl, Nat.zero_le _, Nat.zero_le _⟩ (rv_3 B hH (kb0)) (tw_665 B.2.2.2.2.1) rfl hl.1 rfl (Nat.le_of_ble_eq_true rfl) dX3_longestSilence_24 ?_
          clear hw hH
          intro r7 h6 H locs hw hH
          refine c_S_I (own := RX3) (As := [.int b1, .int r7]) (rest := []) B hH (cy_J9_max_7cf53 B.2.2.2.2.1) (ct_J9_max_7cf53 B.2.2.2.2.2.2.2 l b1 r7 h6 _ _  hw) ⟨⟨rfl, rfl⟩, Nat.le_of_ble_eq_true rfl, Nat.le_of_ble_eq_true rfl, Nat.zero_le _, Nat.zero_le _⟩ (tw_669 B.2.2.2.2.1) rfl hl.1 rfl (Nat.le_of_ble_eq_true rfl) dX3_longestSilence_27 ?_
          clear hw hH
          intro r9 h8 H locs hw hH
          refine lv_istore_n (lv' := [(1, .int r9), (0, .ref (zA Z b0)), (2, .int b2)]) B.1 B.2.1 dX3_longestSilence_30 rfl hl (by decide) (by first | rfl | simp [va_re_cat, Value.category]) ?_
          clear hl
          intro ls hl
          obtain ⟨x10, ex10⟩ : ∃ y : Int32, y = b2 + 1 := ⟨_, rfl⟩
          replace hw := hw x10 ex10
          refine lv_iinc (v := x10) (lv' := [(2, .int x10), (1, .int r9), (0, .ref (zA Z b0))]) B.1 B.2.1 dX3_longestSilence_31 hl (k := 2) rfl (by rw [ex10]; rfl) (by decide) (by first | rfl | simp [va_re_cat, Value.category]) ?_
          clear hl
          intro ls hl
          refine lv_goto (tgt := 4) B.1 B.2.1 dX3_longestSilence_34 (by decide) ?_
          exact ih r9 x10 h8  _ _ _ hw hH (lv_sub hl [2, 1, 0] rfl)
  refine lv_iconst (v := 0) B.1 B.2.1 dX3_longestSilence_0 (by decide) ?_
  refine lv_istore_n (lv' := [(1, .int 0), (0, .ref (zA Z a0))]) B.1 B.2.1 dX3_longestSilence_1 rfl hl (by decide) (by first | rfl | simp [va_re_cat, Value.category]) ?_
  clear hl
  intro ls hl
  refine lv_iconst (v := 0) B.1 B.2.1 dX3_longestSilence_2 (by decide) ?_
  refine lv_istore_n (lv' := [(2, .int 0), (1, .int 0), (0, .ref (zA Z a0))]) B.1 B.2.1 dX3_longestSilence_3 rfl hl (by decide) (by first | rfl | simp [va_re_cat, Value.category]) ?_
  clear hl
  intro ls hl
  obtain ⟨n11, hw⟩ := hw
  exact L4 a0 (k0) n11 0 0 h  _ _ _ hw hH (lv_sub hl [2, 1, 0] rfl)
theorem cy_X3_sumOfSounds {s : State} {args : Array Value} (hG : GG s) : CYV s args yX3_sumOfSounds cX3_sumOfSounds 3 (some .int) 0 := CYV.of hG (fun _ _ hG => tw_660 hG) (tw_3 hG) (tw_659 hG) (tp_45 hG) (by decide +kernel)
set_option maxRecDepth 100000 in
set_option maxHeartbeats 4000000 in
theorem ct_X3_sumOfSounds {Z : ZT} (hZ : ZO Z) (l : Launch) (a0 : Nat) (h : PH) (sz : Nat) (Q : Int32 → PH → Prop) (k0 : kd a0 = 3) (hw : wp_X3_sumOfSounds a0 h Q) : MI Z l yX3_sumOfSounds cX3_sumOfSounds 3 (some .int) ({ frames := 1, cells := 0, slots := 0, locals := 21 } : Room) h sz [.ref (zA Z a0)] Q := by
  refine open_M hZ (by decide +kernel) (by exact Nat.le_of_ble_eq_true rfl) ?_
  intro p e s m below meth c B hr hsz ls hl hH
  subst hsz
  have hl : lv_has ls 3 [(0, .ref (zA Z a0))] := hl
  unfold wp_X3_sumOfSounds at hw
  have L4 : ∀ (b0 : Nat), kd b0 = 3 → ∀ (n : Nat) (b1 : Int32) (b2 : Int32) (h : PH), ∀ (H : Heap) (locs : List Loc) (ls : Array Slot), wp_X3_sumOfSounds_b4 b0 Q n b1 b2 h → HH Z s h H locs → lv_has ls 3 [(0, .ref (zA Z b0)), (1, .int b1), (2, .int b2)] → W p l e ({ frames := 1, cells := 0, slots := 0, locals := 21 } : Room) s m ([.ref (zA Z a0)]).toArray below meth c H locs 0 0 (MQ below (va_Qi Q (BZ Z) (fr Z s.heap.size)) ([.ref (zA Z a0)]).toArray s 0 0 (fr Z s.heap.size)) (F0 m 4 ls []) := by
    intro b0 kb0 n
    induction n with
    | zero => intro b1 b2 h H locs ls hw hH hl; exact absurd hw id
    | succ n ih =>
      intro b1 b2 h H locs ls hw hH hl
      unfold wp_X3_sumOfSounds_b4 at hw
      refine lv_iload_n B.1 B.2.1 dX3_sumOfSounds_4 rfl (lv_at hl 2 rfl) ?_
      refine lv_aload_n B.1 B.2.1 dX3_sumOfSounds_5 rfl (lv_at hl 0 rfl) ?_
      refine r_get B hH (own := RX3) (kd_n B (kb0) (by decide) (by decide)) (ct_3 (kb0)) rfl (ul_3 B.2.2.2.2.1) 1 (by decide) rfl (tw_47 B.2.2.2.2.1) dX3_sumOfSounds_6 ?_
      refine lv_icmp_ge (tgt := 29) B.1 B.2.1 dX3_sumOfSounds_9 (by decide) (fun c1 => ?_) (fun c1 => ?_)
      · replace hw := hw.1 c1
        refine lv_iload_n B.1 B.2.1 dX3_sumOfSounds_29 rfl (lv_at hl 1 rfl) ?_
        exact e_i B hr hH hw dX3_sumOfSounds_30
      · replace hw := hw.2 c1
        refine lv_iload_n B.1 B.2.1 dX3_sumOfSounds_12 rfl (lv_at hl 1 rfl) ?_
        refine lv_aload_n B.1 B.2.1 dX3_sumOfSounds_13 rfl (lv_at hl 0 rfl) ?_
        refine r_get B hH (own := RX3) (kd_n B (kb0) (by decide) (by decide)) (ct_3 (kb0)) rfl (ul_3 B.2.2.2.2.1) 0 (by decide) rfl (tw_43 B.2.2.2.2.1) dX3_sumOfSounds_14 ?_
        refine lv_iload_n B.1 B.2.1 dX3_sumOfSounds_17 rfl (lv_at hl 2 rfl) ?_
        refine c_SN_I (own := RX3) (As := [.ref (zA Z (b0 + 1)), .int b2]) (rest := [.int b1]) B hH (cy_X7_get B.2.2.2.2.1) (ct_X7_get B.2.2.2.2.2.2.2 l (b0 + 1) b2 h _ _ (kf_3_0 (kb0)) hw) ⟨⟨rfl, rfl⟩, Nat.le_of_ble_eq_true rfl, Nat.le_of_ble_eq_true rfl, Nat.zero_le _, Nat.zero_le _⟩ (tw_517 B.2.2.2.2.1) rfl hl.1 rfl (Nat.le_of_ble_eq_true rfl) dX3_sumOfSounds_18 ?_
        clear hw hH
        intro r3 h2 H locs hw hH
        refine lv_iadd B.1 B.2.1 dX3_sumOfSounds_21 ?_
        refine lv_topi (fun x4 ex4 => ?_)
        replace hw := hw x4 ex4
        refine lv_istore_n (lv' := [(1, .int x4), (0, .ref (zA Z b0)), (2, .int b2)]) B.1 B.2.1 dX3_sumOfSounds_22 rfl hl (by decide) (by first | rfl | simp [va_re_cat, Value.category]) ?_
        clear hl
        intro ls hl
        obtain ⟨x5, ex5⟩ : ∃ y : Int32, y = b2 + 1 := ⟨_, rfl⟩
        replace hw := hw x5 ex5
        refine lv_iinc (v := x5) (lv' := [(2, .int x5), (1, .int x4), (0, .ref (zA Z b0))]) B.1 B.2.1 dX3_sumOfSounds_23 hl (k := 2) rfl (by rw [ex5]; rfl) (by decide) (by first | rfl | simp [va_re_cat, Value.category]) ?_
        clear hl
        intro ls hl
        refine lv_goto (tgt := 4) B.1 B.2.1 dX3_sumOfSounds_26 (by decide) ?_
        exact ih x4 x5 h2  _ _ _ hw hH (lv_sub hl [2, 1, 0] rfl)
  refine lv_iconst (v := 0) B.1 B.2.1 dX3_sumOfSounds_0 (by decide) ?_
  refine lv_istore_n (lv' := [(1, .int 0), (0, .ref (zA Z a0))]) B.1 B.2.1 dX3_sumOfSounds_1 rfl hl (by decide) (by first | rfl | simp [va_re_cat, Value.category]) ?_
  clear hl
  intro ls hl
  refine lv_iconst (v := 0) B.1 B.2.1 dX3_sumOfSounds_2 (by decide) ?_
  refine lv_istore_n (lv' := [(2, .int 0), (1, .int 0), (0, .ref (zA Z a0))]) B.1 B.2.1 dX3_sumOfSounds_3 rfl hl (by decide) (by first | rfl | simp [va_re_cat, Value.category]) ?_
  clear hl
  intro ls hl
  obtain ⟨n6, hw⟩ := hw
  exact L4 a0 (k0) n6 0 0 h  _ _ _ hw hH (lv_sub hl [2, 1, 0] rfl)
theorem cy_X3_lay {s : State} {args : Array Value} (hG : GG s) : CYV s args yX3_lay cX3_lay 6 (some .int) 3 := CYV.of hG (fun _ _ hG => tw_536 hG) (tw_3 hG) (tw_535 hG) (tp_26 hG) (by decide +kernel)
set_option maxRecDepth 100000 in
set_option maxHeartbeats 4000000 in
theorem ct_X3_lay {Z : ZT} (hZ : ZO Z) (l : Launch) (a0 : Nat) (a1 : Int32) (a2 : Int32) (a3 : Int32) (h : PH) (sz : Nat) (Q : Int32 → PH → Prop) (k0 : kd a0 = 3) (hw : wp_X3_lay a0 a1 a2 a3 h Q) : MI Z l yX3_lay cX3_lay 6 (some .int) ({ frames := 1, cells := 0, slots := 0, locals := 22 } : Room) h sz [.ref (zA Z a0), .int a1, .int a2, .int a3] Q := by
  refine open_M hZ (by decide +kernel) (by exact Nat.le_of_ble_eq_true rfl) ?_
  intro p e s m below meth c B hr hsz ls hl hH
  subst hsz
  have hl : lv_has ls 6 [(0, .ref (zA Z a0)), (1, .int a1), (2, .int a2), (3, .int a3)] := hl
  unfold wp_X3_lay at hw
  have L6 : ∀ (b0 : Nat) (b2 : Int32) (b3 : Int32), kd b0 = 3 → ∀ (n : Nat) (b4 : Int32) (b5 : Int32) (h : PH), ∀ (H : Heap) (locs : List Loc) (ls : Array Slot), wp_X3_lay_b6 b0 b2 b3 Q n b4 b5 h → HH Z s h H locs → lv_has ls 6 [(0, .ref (zA Z b0)), (2, .int b2), (3, .int b3), (4, .int b4), (5, .int b5)] → W p l e ({ frames := 1, cells := 0, slots := 0, locals := 22 } : Room) s m ([.ref (zA Z a0), .int a1, .int a2, .int a3]).toArray below meth c H locs 0 0 (MQ below (va_Qi Q (BZ Z) (fr Z s.heap.size)) ([.ref (zA Z a0), .int a1, .int a2, .int a3]).toArray s 0 0 (fr Z s.heap.size)) (F0 m 6 ls []) := by
    intro b0 b2 b3 kb0 n
    induction n with
    | zero => intro b4 b5 h H locs ls hw hH hl; exact absurd hw id
    | succ n ih =>
      intro b4 b5 h H locs ls hw hH hl
      unfold wp_X3_lay_b6 at hw
      refine lv_iload B.1 B.2.1 dX3_lay_6 (lv_at hl 4 rfl) ?_
      refine lv_iload_n B.1 B.2.1 dX3_lay_8 rfl (lv_at hl 1 rfl) ?_
      refine lv_icmp_gt (tgt := 44) B.1 B.2.1 dX3_lay_9 (by decide) (fun c1 => ?_) (fun c1 => ?_)
      · replace hw := hw.1 c1
        refine lv_iload B.1 B.2.1 dX3_lay_44 (lv_at hl 3 rfl) ?_
        exact e_i B hr hH hw dX3_lay_46
      · replace hw := hw.2 c1
        refine lv_aload_n B.1 B.2.1 dX3_lay_12 rfl (lv_at hl 0 rfl) ?_
        refine r_get B hH (own := RX3) (kd_n B (kb0) (by decide) (by decide)) (ct_3 (kb0)) rfl (ul_3 B.2.2.2.2.1) 0 (by decide) rfl (tw_43 B.2.2.2.2.1) dX3_lay_13 ?_
        refine lv_iload B.1 B.2.1 dX3_lay_16 (lv_at hl 4 rfl) ?_
        refine c_SN_I (own := RX3) (As := [.ref (zA Z (b0 + 1)), .int b5]) (rest := []) B hH (cy_X7_get B.2.2.2.2.1) (ct_X7_get B.2.2.2.2.2.2.2 l (b0 + 1) b5 h _ _ (kf_3_0 (kb0)) hw) ⟨⟨rfl, rfl⟩, Nat.le_of_ble_eq_true rfl, Nat.le_of_ble_eq_true rfl, Nat.zero_le _, Nat.zero_le _⟩ (tw_517 B.2.2.2.2.1) rfl hl.1 rfl (Nat.le_of_ble_eq_true rfl) dX3_lay_18 ?_
        clear hw hH
        intro r3 h2 H locs hw hH
        refine lv_iload_n B.1 B.2.1 dX3_lay_21 rfl (lv_at hl 2 rfl) ?_
        refine lv_icmp_eq (tgt := 38) B.1 B.2.1 dX3_lay_22 (by decide) (fun c4 => ?_) (fun c4 => ?_)
        · replace hw := hw.1 c4
          obtain ⟨x5, ex5⟩ : ∃ y : Int32, y = b5 + 1 := ⟨_, rfl⟩
          replace hw := hw x5 ex5
          refine lv_iinc (v := x5) (lv' := [(5, .int x5), (0, .ref (zA Z b0)), (2, .int b2), (3, .int b3), (4, .int b4)]) B.1 B.2.1 dX3_lay_38 hl (k := 4) rfl (by rw [ex5]; rfl) (by decide) (by first | rfl | simp [va_re_cat, Value.category]) ?_
          clear hl
          intro ls hl
          refine lv_goto (tgt := 6) B.1 B.2.1 dX3_lay_41 (by decide) ?_
          exact ih b4 x5 h2  _ _ _ hw hH (lv_sub hl [1, 2, 3, 4, 0] rfl)
        · replace hw := hw.2 c4
          refine lv_aload_n B.1 B.2.1 dX3_lay_25 rfl (lv_at hl 0 rfl) ?_
          refine r_get B hH (own := RX3) (kd_n B (kb0) (by decide) (by decide)) (ct_3 (kb0)) rfl (ul_3 B.2.2.2.2.1) 0 (by decide) rfl (tw_43 B.2.2.2.2.1) dX3_lay_26 ?_
          refine lv_iload B.1 B.2.1 dX3_lay_29 (lv_at hl 4 rfl) ?_
          refine lv_iload_n B.1 B.2.1 dX3_lay_31 rfl (lv_at hl 2 rfl) ?_
          refine c_SN_V (own := RX3) (As := [.ref (zA Z (b0 + 1)), .int b5, .int b3]) (rest := []) B hH (cy_X7_put B.2.2.2.2.1) (ct_X7_put B.2.2.2.2.2.2.2 l (b0 + 1) b5 b3 h2 _ _ (kf_3_0 (kb0)) hw) ⟨⟨rfl, rfl⟩, Nat.le_of_ble_eq_true rfl, Nat.le_of_ble_eq_true rfl, Nat.zero_le _, Nat.zero_le _⟩ (tw_537 B.2.2.2.2.1) rfl hl.1 rfl (Nat.le_of_ble_eq_true rfl) dX3_lay_32 ?_
          clear hw hH
          intro h6 H locs hw hH
          obtain ⟨x7, ex7⟩ : ∃ y : Int32, y = b4 + 1 := ⟨_, rfl⟩
          replace hw := hw x7 ex7
          refine lv_iinc (v := x7) (lv' := [(4, .int x7), (0, .ref (zA Z b0)), (2, .int b2), (3, .int b3), (5, .int b5)]) B.1 B.2.1 dX3_lay_35 hl (k := 3) rfl (by rw [ex7]; rfl) (by decide) (by first | rfl | simp [va_re_cat, Value.category]) ?_
          clear hl
          intro ls hl
          obtain ⟨x8, ex8⟩ : ∃ y : Int32, y = b5 + 1 := ⟨_, rfl⟩
          replace hw := hw x8 ex8
          refine lv_iinc (v := x8) (lv' := [(5, .int x8), (4, .int x7), (0, .ref (zA Z b0)), (2, .int b2), (3, .int b3)]) B.1 B.2.1 dX3_lay_38 hl (k := 4) rfl (by rw [ex8]; rfl) (by decide) (by first | rfl | simp [va_re_cat, Value.category]) ?_
          clear hl
          intro ls hl
          refine lv_goto (tgt := 6) B.1 B.2.1 dX3_lay_41 (by decide) ?_
          exact ih x7 x8 h6  _ _ _ hw hH (lv_sub hl [2, 3, 4, 1, 0] rfl)
  refine lv_iconst (v := 0) B.1 B.2.1 dX3_lay_0 (by decide) ?_
  refine lv_istore (lv' := [(4, .int 0), (0, .ref (zA Z a0)), (1, .int a1), (2, .int a2), (3, .int a3)]) B.1 B.2.1 dX3_lay_1 hl (by decide) (by first | rfl | simp [va_re_cat, Value.category]) ?_
  clear hl
  intro ls hl
  refine lv_iload_n B.1 B.2.1 dX3_lay_3 rfl (lv_at hl 2 rfl) ?_
  refine lv_istore (lv' := [(5, .int a1), (4, .int 0), (0, .ref (zA Z a0)), (1, .int a1), (2, .int a2), (3, .int a3)]) B.1 B.2.1 dX3_lay_4 hl (by decide) (by first | rfl | simp [va_re_cat, Value.category]) ?_
  clear hl
  intro ls hl
  obtain ⟨n9, hw⟩ := hw
  exact L6 a0 a2 a3 (k0) n9 0 a1 h  _ _ _ hw hH (lv_sub hl [2, 4, 5, 1, 0] rfl)
theorem cy_X5_clear {s : State} {args : Array Value} (hG : GG s) : CYV s args yX5_clear cX5_clear 1 none 0 := CYV.of hG (fun _ _ hG => tw_464 hG) (tw_2 hG) (tw_463 hG) (tp_14 hG) (by decide +kernel)
set_option maxRecDepth 100000 in
set_option maxHeartbeats 4000000 in
theorem ct_X5_clear {Z : ZT} (hZ : ZO Z) (l : Launch) (a0 : Nat) (h : PH) (sz : Nat) (Q : PH → Prop) (k0 : kd a0 = 2) (hw : wp_X5_clear a0 h Q) : MV Z l yX5_clear cX5_clear 1 none ({ frames := 0, cells := 0, slots := 0, locals := 0 } : Room) h sz [.ref (zA Z a0)] Q := by
  refine open_M hZ (by decide +kernel) (by exact Nat.le_of_ble_eq_true rfl) ?_
  intro p e s m below meth c B hr hsz ls hl hH
  subst hsz
  have hl : lv_has ls 1 [(0, .ref (zA Z a0))] := hl
  unfold wp_X5_clear at hw
  refine lv_aload_n B.1 B.2.1 dX5_clear_0 rfl (lv_at hl 0 rfl) ?_
  refine lv_iconst (v := 0) B.1 B.2.1 dX5_clear_1 (by decide) ?_
  refine r_put B hH (own := RX5) (kd_n B (k0) (by decide) (by decide)) (ct_2 (k0)) rfl (ul_2 B.2.2.2.2.1) tyX5 tyX5_ok nmX5 2 (by decide) (ty := .int) rfl rfl rfl rfl (Nat.le_of_ble_eq_true rfl) (cs_2_2 (k0)) (tw_101 B.2.2.2.2.1) dX5_clear_2 ?_
  clear hH
  intro H locs hH
  obtain ⟨h1, eh1⟩ : ∃ z : PH, z = up2 h a0 2 0 := ⟨_, rfl⟩
  rw [← eh1] at hH
  replace hw := hw h1 eh1
  refine lv_aload_n B.1 B.2.1 dX5_clear_5 rfl (lv_at hl 0 rfl) ?_
  refine lv_iconst (v := 0) B.1 B.2.1 dX5_clear_6 (by decide) ?_
  refine r_put B hH (own := RX5) (kd_n B (k0) (by decide) (by decide)) (ct_2 (k0)) rfl (ul_2 B.2.2.2.2.1) tyX5 tyX5_ok nmX5 3 (by decide) (ty := .int) rfl rfl rfl rfl (Nat.le_of_ble_eq_true rfl) (cs_2_3 (k0)) (tw_103 B.2.2.2.2.1) dX5_clear_7 ?_
  clear hH
  intro H locs hH
  obtain ⟨h2, eh2⟩ : ∃ z : PH, z = up2 h1 a0 3 0 := ⟨_, rfl⟩
  rw [← eh2] at hH
  replace hw := hw h2 eh2
  refine lv_aload_n B.1 B.2.1 dX5_clear_10 rfl (lv_at hl 0 rfl) ?_
  refine lv_iconst (v := 0) B.1 B.2.1 dX5_clear_11 (by decide) ?_
  refine r_put B hH (own := RX5) (kd_n B (k0) (by decide) (by decide)) (ct_2 (k0)) rfl (ul_2 B.2.2.2.2.1) tyX5 tyX5_ok nmX5 4 (by decide) (ty := .int) rfl rfl rfl rfl (Nat.le_of_ble_eq_true rfl) (cs_2_4 (k0)) (tw_106 B.2.2.2.2.1) dX5_clear_12 ?_
  clear hH
  intro H locs hH
  obtain ⟨h3, eh3⟩ : ∃ z : PH, z = up2 h2 a0 4 0 := ⟨_, rfl⟩
  rw [← eh3] at hH
  replace hw := hw h3 eh3
  refine lv_aload_n B.1 B.2.1 dX5_clear_15 rfl (lv_at hl 0 rfl) ?_
  refine lv_iconst (v := 0) B.1 B.2.1 dX5_clear_16 (by decide) ?_
  refine r_put B hH (own := RX5) (kd_n B (k0) (by decide) (by decide)) (ct_2 (k0)) rfl (ul_2 B.2.2.2.2.1) tyX5 tyX5_ok nmX5 5 (by decide) (ty := .int) rfl rfl rfl rfl (Nat.le_of_ble_eq_true rfl) (cs_2_5 (k0)) (tw_108 B.2.2.2.2.1) dX5_clear_17 ?_
  clear hH
  intro H locs hH
  obtain ⟨h4, eh4⟩ : ∃ z : PH, z = up2 h3 a0 5 0 := ⟨_, rfl⟩
  rw [← eh4] at hH
  replace hw := hw h4 eh4
  exact e_v B hr hH hw dX5_clear_20
theorem cy_X5_soundBehind {s : State} {args : Array Value} (hG : GG s) : CYV s args yX5_soundBehind cX5_soundBehind 5 (some .int) 1 := CYV.of hG (fun _ _ hG => tw_581 hG) (tw_2 hG) (tw_580 hG) (tp_35 hG) (by decide +kernel)
set_option maxRecDepth 100000 in
set_option maxHeartbeats 4000000 in
theorem ct_X5_soundBehind {Z : ZT} (hZ : ZO Z) (l : Launch) (a0 : Nat) (a1 : Int32) (h : PH) (sz : Nat) (Q : Int32 → PH → Prop) (k0 : kd a0 = 2) (hw : wp_X5_soundBehind a0 a1 h Q) : MI Z l yX5_soundBehind cX5_soundBehind 5 (some .int) ({ frames := 2, cells := 0, slots := 0, locals := 43 } : Room) h sz [.ref (zA Z a0), .int a1] Q := by
  refine open_M hZ (by decide +kernel) (by exact Nat.le_of_ble_eq_true rfl) ?_
  intro p e s m below meth c B hr hsz ls hl hH
  subst hsz
  have hl : lv_has ls 5 [(0, .ref (zA Z a0)), (1, .int a1)] := hl
  unfold wp_X5_soundBehind at hw
  have L4 : ∀ (b0 : Nat) (b1 : Int32), kd b0 = 2 → ∀ (n : Nat) (b2 : Int32) (b3 : Int32) (h : PH), ∀ (H : Heap) (locs : List Loc) (ls : Array Slot), wp_X5_soundBehind_b4 b0 b1 Q n b2 b3 h → HH Z s h H locs → lv_has ls 5 [(0, .ref (zA Z b0)), (1, .int b1), (2, .int b2), (3, .int b3)] → W p l e ({ frames := 2, cells := 0, slots := 0, locals := 43 } : Room) s m ([.ref (zA Z a0), .int a1]).toArray below meth c H locs 0 0 (MQ below (va_Qi Q (BZ Z) (fr Z s.heap.size)) ([.ref (zA Z a0), .int a1]).toArray s 0 0 (fr Z s.heap.size)) (F0 m 4 ls []) := by
    intro b0 b1 kb0 n
    induction n with
    | zero => intro b2 b3 h H locs ls hw hH hl; exact absurd hw id
    | succ n ih =>
      intro b2 b3 h H locs ls hw hH hl
      unfold wp_X5_soundBehind_b4 at hw
      refine lv_iload_n B.1 B.2.1 dX5_soundBehind_4 rfl (lv_at hl 3 rfl) ?_
      refine lv_aload_n B.1 B.2.1 dX5_soundBehind_5 rfl (lv_at hl 0 rfl) ?_
      refine r_get B hH (own := RX5) (kd_n B (kb0) (by decide) (by decide)) (ct_2 (kb0)) rfl (ul_2 B.2.2.2.2.1) 3 (by decide) rfl (tw_103 B.2.2.2.2.1) dX5_soundBehind_6 ?_
      refine lv_icmp_ge (tgt := 39) B.1 B.2.1 dX5_soundBehind_9 (by decide) (fun c1 => ?_) (fun c1 => ?_)
      · replace hw := hw.1 c1
        refine lv_iload_n B.1 B.2.1 dX5_soundBehind_39 rfl (lv_at hl 2 rfl) ?_
        exact e_i B hr hH hw dX5_soundBehind_40
      · replace hw := hw.2 c1
        refine lv_aload_n B.1 B.2.1 dX5_soundBehind_12 rfl (lv_at hl 0 rfl) ?_
        refine lv_iload_n B.1 B.2.1 dX5_soundBehind_13 rfl (lv_at hl 3 rfl) ?_
        refine c_V_O (own := RX5) (As := [.int b3]) (rest := []) B hH (cy_X5_loopAt B.2.2.2.2.1) (ct_X5_loopAt B.2.2.2.2.2.2.2 l b0 b3 h _ _ (kb0) hw) ⟨⟨rfl, rfl⟩, Nat.le_of_ble_eq_true rfl, Nat.le_of_ble_eq_true rfl, Nat.zero_le _, Nat.zero_le _⟩ (rv_2 B hH (kb0)) (tw_495 B.2.2.2.2.1) rfl hl.1 rfl (Nat.le_of_ble_eq_true rfl) dX5_soundBehind_14 ?_
        clear hw hH
        intro r3 h2 H locs hw hH
        have kr3 := hw.2
        replace hw := hw.1
        refine x_astore (lv' := [(4, va_re (zA Z) r3), (0, .ref (zA Z b0)), (1, .int b1), (2, .int b2), (3, .int b3)]) B dX5_soundBehind_17 hl (by decide) (by first | rfl | simp [va_re_cat]) ?_
        clear hl
        intro ls hl
        refine x_aload B dX5_soundBehind_19 (lv_at hl 0 rfl) ?_
        refine x_ifnull (tgt := 33) B dX5_soundBehind_21 (by decide) (fun c5 => ?_) (fun j4 c5 => ?_)
        · replace hw := hw.1 c5
          subst c5
          obtain ⟨x6, ex6⟩ : ∃ y : Int32, y = b3 + 1 := ⟨_, rfl⟩
          replace hw := hw x6 ex6
          refine lv_iinc (v := x6) (lv' := [(3, .int x6), (4, va_re (zA Z) none), (0, .ref (zA Z b0)), (1, .int b1), (2, .int b2)]) B.1 B.2.1 dX5_soundBehind_33 hl (k := 4) rfl (by rw [ex6]; rfl) (by decide) (by first | rfl | simp [va_re_cat, Value.category]) ?_
          clear hl
          intro ls hl
          refine lv_goto (tgt := 4) B.1 B.2.1 dX5_soundBehind_36 (by decide) ?_
          exact ih b2 x6 h2  _ _ _ hw hH (lv_sub hl [2, 3, 4, 0] rfl)
        · replace hw := hw.2 j4 c5
          have kj4 := kr3 j4 c5
          subst c5
          refine lv_iload_n B.1 B.2.1 dX5_soundBehind_24 rfl (lv_at hl 3 rfl) ?_
          refine lv_aload B.1 B.2.1 dX5_soundBehind_25 (lv_at hl 0 rfl) ?_
          refine lv_iload_n B.1 B.2.1 dX5_soundBehind_27 rfl (lv_at hl 2 rfl) ?_
          refine c_VN_I (own := RX5) (As := [.int b1]) (rest := [.int b2]) B hH (cy_X0_heardBehind B.2.2.2.2.1) (ct_X0_heardBehind B.2.2.2.2.2.2.2 l j4 b1 h2 _ _ (kj4) hw) ⟨⟨rfl, rfl⟩, Nat.le_of_ble_eq_true rfl, Nat.le_of_ble_eq_true rfl, Nat.zero_le _, Nat.zero_le _⟩ (rv_4 B hH (kj4)) (tw_582 B.2.2.2.2.1) rfl hl.1 rfl (Nat.le_of_ble_eq_true rfl) dX5_soundBehind_28 ?_
          clear hw hH
          intro r8 h7 H locs hw hH
          refine lv_iadd B.1 B.2.1 dX5_soundBehind_31 ?_
          refine lv_topi (fun x9 ex9 => ?_)
          replace hw := hw x9 ex9
          refine lv_istore_n (lv' := [(2, .int x9), (4, .ref (zA Z j4)), (0, .ref (zA Z b0)), (1, .int b1), (3, .int b3)]) B.1 B.2.1 dX5_soundBehind_32 rfl hl (by decide) (by first | rfl | simp [va_re_cat, Value.category]) ?_
          clear hl
          intro ls hl
          obtain ⟨x10, ex10⟩ : ∃ y : Int32, y = b3 + 1 := ⟨_, rfl⟩
          replace hw := hw x10 ex10
          refine lv_iinc (v := x10) (lv' := [(3, .int x10), (2, .int x9), (4, .ref (zA Z j4)), (0, .ref (zA Z b0)), (1, .int b1)]) B.1 B.2.1 dX5_soundBehind_33 hl (k := 4) rfl (by rw [ex10]; rfl) (by decide) (by first | rfl | simp [va_re_cat, Value.category]) ?_
          clear hl
          intro ls hl
          refine lv_goto (tgt := 4) B.1 B.2.1 dX5_soundBehind_36 (by decide) ?_
          exact ih x9 x10 h7  _ _ _ hw hH (lv_sub hl [3, 4, 1, 0] rfl)
  refine lv_iconst (v := 0) B.1 B.2.1 dX5_soundBehind_0 (by decide) ?_
  refine lv_istore_n (lv' := [(2, .int 0), (0, .ref (zA Z a0)), (1, .int a1)]) B.1 B.2.1 dX5_soundBehind_1 rfl hl (by decide) (by first | rfl | simp [va_re_cat, Value.category]) ?_
  clear hl
  intro ls hl
  refine lv_iconst (v := 0) B.1 B.2.1 dX5_soundBehind_2 (by decide) ?_
  refine lv_istore_n (lv' := [(3, .int 0), (2, .int 0), (0, .ref (zA Z a0)), (1, .int a1)]) B.1 B.2.1 dX5_soundBehind_3 rfl hl (by decide) (by first | rfl | simp [va_re_cat, Value.category]) ?_
  clear hl
  intro ls hl
  obtain ⟨n11, hw⟩ := hw
  exact L4 a0 a1 (k0) n11 0 0 h  _ _ _ hw hH (lv_sub hl [2, 3, 1, 0] rfl)
theorem cy_X5_loopsWithTape {s : State} {args : Array Value} (hG : GG s) : CYV s args yX5_loopsWithTape cX5_loopsWithTape 4 (some .int) 0 := CYV.of hG (fun _ _ hG => tw_611 hG) (tw_2 hG) (tw_610 hG) (tp_39 hG) (by decide +kernel)
set_option maxRecDepth 100000 in
set_option maxHeartbeats 4000000 in
theorem ct_X5_loopsWithTape {Z : ZT} (hZ : ZO Z) (l : Launch) (a0 : Nat) (h : PH) (sz : Nat) (Q : Int32 → PH → Prop) (k0 : kd a0 = 2) (hw : wp_X5_loopsWithTape a0 h Q) : MI Z l yX5_loopsWithTape cX5_loopsWithTape 4 (some .int) ({ frames := 2, cells := 0, slots := 0, locals := 43 } : Room) h sz [.ref (zA Z a0)] Q := by
  refine open_M hZ (by decide +kernel) (by exact Nat.le_of_ble_eq_true rfl) ?_
  intro p e s m below meth c B hr hsz ls hl hH
  subst hsz
  have hl : lv_has ls 4 [(0, .ref (zA Z a0))] := hl
  unfold wp_X5_loopsWithTape at hw
  have L4 : ∀ (b0 : Nat), kd b0 = 2 → ∀ (n : Nat) (b1 : Int32) (b2 : Int32) (h : PH), ∀ (H : Heap) (locs : List Loc) (ls : Array Slot), wp_X5_loopsWithTape_b4 b0 Q n b1 b2 h → HH Z s h H locs → lv_has ls 4 [(0, .ref (zA Z b0)), (1, .int b1), (2, .int b2)] → W p l e ({ frames := 2, cells := 0, slots := 0, locals := 43 } : Room) s m ([.ref (zA Z a0)]).toArray below meth c H locs 0 0 (MQ below (va_Qi Q (BZ Z) (fr Z s.heap.size)) ([.ref (zA Z a0)]).toArray s 0 0 (fr Z s.heap.size)) (F0 m 4 ls []) := by
    intro b0 kb0 n
    induction n with
    | zero => intro b1 b2 h H locs ls hw hH hl; exact absurd hw id
    | succ n ih =>
      intro b1 b2 h H locs ls hw hH hl
      unfold wp_X5_loopsWithTape_b4 at hw
      refine lv_iload_n B.1 B.2.1 dX5_loopsWithTape_4 rfl (lv_at hl 2 rfl) ?_
      refine lv_aload_n B.1 B.2.1 dX5_loopsWithTape_5 rfl (lv_at hl 0 rfl) ?_
      refine r_get B hH (own := RX5) (kd_n B (kb0) (by decide) (by decide)) (ct_2 (kb0)) rfl (ul_2 B.2.2.2.2.1) 3 (by decide) rfl (tw_103 B.2.2.2.2.1) dX5_loopsWithTape_6 ?_
      refine lv_icmp_ge (tgt := 38) B.1 B.2.1 dX5_loopsWithTape_9 (by decide) (fun c1 => ?_) (fun c1 => ?_)
      · replace hw := hw.1 c1
        refine lv_iload_n B.1 B.2.1 dX5_loopsWithTape_38 rfl (lv_at hl 1 rfl) ?_
        exact e_i B hr hH hw dX5_loopsWithTape_39
      · replace hw := hw.2 c1
        refine lv_aload_n B.1 B.2.1 dX5_loopsWithTape_12 rfl (lv_at hl 0 rfl) ?_
        refine lv_iload_n B.1 B.2.1 dX5_loopsWithTape_13 rfl (lv_at hl 2 rfl) ?_
        refine c_V_O (own := RX5) (As := [.int b2]) (rest := []) B hH (cy_X5_loopAt B.2.2.2.2.1) (ct_X5_loopAt B.2.2.2.2.2.2.2 l b0 b2 h _ _ (kb0) hw) ⟨⟨rfl, rfl⟩, Nat.le_of_ble_eq_true rfl, Nat.le_of_ble_eq_true rfl, Nat.zero_le _, Nat.zero_le _⟩ (rv_2 B hH (kb0)) (tw_495 B.2.2.2.2.1) rfl hl.1 rfl (Nat.le_of_ble_eq_true rfl) dX5_loopsWithTape_14 ?_
        clear hw hH
        intro r3 h2 H locs hw hH
        have kr3 := hw.2
        replace hw := hw.1
        refine x_astore_n (lv' := [(3, va_re (zA Z) r3), (0, .ref (zA Z b0)), (1, .int b1), (2, .int b2)]) B dX5_loopsWithTape_17 rfl hl (by decide) (by first | rfl | simp [va_re_cat]) ?_
        clear hl
        intro ls hl
        refine x_aload_n B dX5_loopsWithTape_18 rfl (lv_at hl 0 rfl) ?_
        refine x_ifnull (tgt := 32) B dX5_loopsWithTape_19 (by decide) (fun c5 => ?_) (fun j4 c5 => ?_)
        · replace hw := hw.1 c5
          subst c5
          obtain ⟨x6, ex6⟩ : ∃ y : Int32, y = b2 + 1 := ⟨_, rfl⟩
          replace hw := hw x6 ex6
          refine lv_iinc (v := x6) (lv' := [(2, .int x6), (3, va_re (zA Z) none), (0, .ref (zA Z b0)), (1, .int b1)]) B.1 B.2.1 dX5_loopsWithTape_32 hl (k := 3) rfl (by rw [ex6]; rfl) (by decide) (by first | rfl | simp [va_re_cat, Value.category]) ?_
          clear hl
          intro ls hl
          refine lv_goto (tgt := 4) B.1 B.2.1 dX5_loopsWithTape_35 (by decide) ?_
          exact ih b1 x6 h2  _ _ _ hw hH (lv_sub hl [2, 3, 0] rfl)
        · replace hw := hw.2 j4 c5
          have kj4 := kr3 j4 c5
          subst c5
          refine lv_aload_n B.1 B.2.1 dX5_loopsWithTape_22 rfl (lv_at hl 0 rfl) ?_
          refine c_VN_I (own := RX5) (As := []) (rest := []) B hH (cy_X0_isEmpty B.2.2.2.2.1) (ct_X0_isEmpty B.2.2.2.2.2.2.2 l j4 h2 _ _ (kj4) hw) ⟨⟨rfl, rfl⟩, Nat.le_of_ble_eq_true rfl, Nat.le_of_ble_eq_true rfl, Nat.zero_le _, Nat.zero_le _⟩ (rv_4 B hH (kj4)) (tw_506 B.2.2.2.2.1) rfl hl.1 rfl (Nat.le_of_ble_eq_true rfl) dX5_loopsWithTape_23 ?_
          clear hw hH
          intro r8 h7 H locs hw hH
          refine lv_if_ne (tgt := 32) B.1 B.2.1 dX5_loopsWithTape_26 (by decide) (fun c9 => ?_) (fun c9 => ?_)
          · replace hw := hw.1 c9
            obtain ⟨x10, ex10⟩ : ∃ y : Int32, y = b2 + 1 := ⟨_, rfl⟩
            replace hw := hw x10 ex10
            refine lv_iinc (v := x10) (lv' := [(2, .int x10), (3, .ref (zA Z j4)), (0, .ref (zA Z b0)), (1, .int b1)]) B.1 B.2.1 dX5_loopsWithTape_32 hl (k := 3) rfl (by rw [ex10]; rfl) (by decide) (by first | rfl | simp [va_re_cat, Value.category]) ?_
            clear hl
            intro ls hl
            refine lv_goto (tgt := 4) B.1 B.2.1 dX5_loopsWithTape_35 (by decide) ?_
            exact ih b1 x10 h7  _ _ _ hw hH (lv_sub hl [2, 3, 0] rfl)
          · replace hw := hw.2 c9
            obtain ⟨x11, ex11⟩ : ∃ y : Int32, y = b1 + 1 := ⟨_, rfl⟩
            replace hw := hw x11 ex11
            refine lv_iinc (v := x11) (lv' := [(1, .int x11), (3, .ref (zA Z j4)), (0, .ref (zA Z b0)), (2, .int b2)]) B.1 B.2.1 dX5_loopsWithTape_29 hl (k := 2) rfl (by rw [ex11]; rfl) (by decide) (by first | rfl | simp [va_re_cat, Value.category]) ?_
            clear hl
            intro ls hl
            obtain ⟨x12, ex12⟩ : ∃ y : Int32, y = b2 + 1 := ⟨_, rfl⟩
            replace hw := hw x12 ex12
            refine lv_iinc (v := x12) (lv' := [(2, .int x12), (1, .int x11), (3, .ref (zA Z j4)), (0, .ref (zA Z b0))]) B.1 B.2.1 dX5_loopsWithTape_32 hl (k := 3) rfl (by rw [ex12]; rfl) (by decide) (by first | rfl | simp [va_re_cat, Value.category]) ?_
            clear hl
            intro ls hl
            refine lv_goto (tgt := 4) B.1 B.2.1 dX5_loopsWithTape_35 (by decide) ?_
            exact ih x11 x12 h7  _ _ _ hw hH (lv_sub hl [3, 1, 0] rfl)
  refine lv_iconst (v := 0) B.1 B.2.1 dX5_loopsWithTape_0 (by decide) ?_
  refine lv_istore_n (lv' := [(1, .int 0), (0, .ref (zA Z a0))]) B.1 B.2.1 dX5_loopsWithTape_1 rfl hl (by decide) (by first | rfl | simp [va_re_cat, Value.category]) ?_
  clear hl
  intro ls hl
  refine lv_iconst (v := 0) B.1 B.2.1 dX5_loopsWithTape_2 (by decide) ?_
  refine lv_istore_n (lv' := [(2, .int 0), (1, .int 0), (0, .ref (zA Z a0))]) B.1 B.2.1 dX5_loopsWithTape_3 rfl hl (by decide) (by first | rfl | simp [va_re_cat, Value.category]) ?_
  clear hl
  intro ls hl
  obtain ⟨n13, hw⟩ := hw
  exact L4 a0 (k0) n13 0 0 h  _ _ _ hw hH (lv_sub hl [2, 1, 0] rfl)
theorem cy_X5_mutedLoops {s : State} {args : Array Value} (hG : GG s) : CYV s args yX5_mutedLoops cX5_mutedLoops 4 (some .int) 0 := CYV.of hG (fun _ _ hG => tw_615 hG) (tw_2 hG) (tw_614 hG) (tp_40 hG) (by decide +kernel)
set_option maxRecDepth 100000 in
set_option maxHeartbeats 4000000 in
theorem ct_X5_mutedLoops {Z : ZT} (hZ : ZO Z) (l : Launch) (a0 : Nat) (h : PH) (sz : Nat) (Q : Int32 → PH → Prop) (k0 : kd a0 = 2) (hw : wp_X5_mutedLoops a0 h Q) : MI Z l yX5_mutedLoops cX5_mutedLoops 4 (some .int) ({ frames := 2, cells := 0, slots := 0, locals := 43 } : Room) h sz [.ref (zA Z a0)] Q := by
  refine open_M hZ (by decide +kernel) (by exact Nat.le_of_ble_eq_true rfl) ?_
  intro p e s m below meth c B hr hsz ls hl hH
  subst hsz
  have hl : lv_has ls 4 [(0, .ref (zA Z a0))] := hl
  unfold wp_X5_mutedLoops at hw
  have L4 : ∀ (b0 : Nat), kd b0 = 2 → ∀ (n : Nat) (b1 : Int32) (b2 : Int32) (h : PH), ∀ (H : Heap) (locs : List Loc) (ls : Array Slot), wp_X5_mutedLoops_b4 b0 Q n b1 b2 h → HH Z s h H locs → lv_has ls 4 [(0, .ref (zA Z b0)), (1, .int b1), (2, .int b2)] → W p l e ({ frames := 2, cells := 0, slots := 0, locals := 43 } : Room) s m ([.ref (zA Z a0)]).toArray below meth c H locs 0 0 (MQ below (va_Qi Q (BZ Z) (fr Z s.heap.size)) ([.ref (zA Z a0)]).toArray s 0 0 (fr Z s.heap.size)) (F0 m 4 ls []) := by
    intro b0 kb0 n
    induction n with
    | zero => intro b1 b2 h H locs ls hw hH hl; exact absurd hw id
    | succ n ih =>
      intro b1 b2 h H locs ls hw hH hl
      unfold wp_X5_mutedLoops_b4 at hw
      refine lv_iload_n B.1 B.2.1 dX5_mutedLoops_4 rfl (lv_at hl 2 rfl) ?_
      refine lv_aload_n B.1 B.2.1 dX5_mutedLoops_5 rfl (lv_at hl 0 rfl) ?_
      refine r_get B hH (own := RX5) (kd_n B (kb0) (by decide) (by decide)) (ct_2 (kb0)) rfl (ul_2 B.2.2.2.2.1) 3 (by decide) rfl (tw_103 B.2.2.2.2.1) dX5_mutedLoops_6 ?_
      refine lv_icmp_ge (tgt := 41) B.1 B.2.1 dX5_mutedLoops_9 (by decide) (fun c1 => ?_) (fun c1 => ?_)
      · replace hw := hw.1 c1
        refine lv_iload_n B.1 B.2.1 dX5_mutedLoops_41 rfl (lv_at hl 1 rfl) ?_
        exact e_i B hr hH hw dX5_mutedLoops_42
      · replace hw := hw.2 c1
        refine lv_aload_n B.1 B.2.1 dX5_mutedLoops_12 rfl (lv_at hl 0 rfl) ?_
        refine lv_iload_n B.1 B.2.1 dX5_mutedLoops_13 rfl (lv_at hl 2 rfl) ?_
        refine c_V_O (own := RX5) (As := [.int b2]) (rest := []) B hH (cy_X5_loopAt B.2.2.2.2.1) (ct_X5_loopAt B.2.2.2.2.2.2.2 l b0 b2 h _ _ (kb0) hw) ⟨⟨rfl, rfl⟩, Nat.le_of_ble_eq_true rfl, Nat.le_of_ble_eq_true rfl, Nat.zero_le _, Nat.zero_le _⟩ (rv_2 B hH (kb0)) (tw_495 B.2.2.2.2.1) rfl hl.1 rfl (Nat.le_of_ble_eq_true rfl) dX5_mutedLoops_14 ?_
        clear hw hH
        intro r3 h2 H locs hw hH
        have kr3 := hw.2
        replace hw := hw.1
        refine x_astore_n (lv' := [(3, va_re (zA Z) r3), (0, .ref (zA Z b0)), (1, .int b1), (2, .int b2)]) B dX5_mutedLoops_17 rfl hl (by decide) (by first | rfl | simp [va_re_cat]) ?_
        clear hl
        intro ls hl
        refine x_aload_n B dX5_mutedLoops_18 rfl (lv_at hl 0 rfl) ?_
        refine x_ifnull (tgt := 35) B dX5_mutedLoops_19 (by decide) (fun c5 => ?_) (fun j4 c5 => ?_)
        · replace hw := hw.1 c5
          subst c5
          obtain ⟨x6, ex6⟩ : ∃ y : Int32, y = b2 + 1 := ⟨_, rfl⟩
          replace hw := hw x6 ex6
          refine lv_iinc (v := x6) (lv' := [(2, .int x6), (3, va_re (zA Z) none), (0, .ref (zA Z b0)), (1, .int b1)]) B.1 B.2.1 dX5_mutedLoops_35 hl (k := 3) rfl (by rw [ex6]; rfl) (by decide) (by first | rfl | simp [va_re_cat, Value.category]) ?_
          clear hl
          intro ls hl
          refine lv_goto (tgt := 4) B.1 B.2.1 dX5_mutedLoops_38 (by decide) ?_
          exact ih b1 x6 h2  _ _ _ hw hH (lv_sub hl [2, 3, 0] rfl)
        · replace hw := hw.2 j4 c5
          have kj4 := kr3 j4 c5
          subst c5
          refine lv_aload_n B.1 B.2.1 dX5_mutedLoops_22 rfl (lv_at hl 0 rfl) ?_
          refine r_getN B hH (own := RX5) (kd_n B (kj4) (by decide) (by decide)) (ct_4 (kj4)) rfl (ul_4 B.2.2.2.2.1) 7 (by decide) rfl (tw_80 B.2.2.2.2.1) dX5_mutedLoops_23 ?_
          refine lv_if_eq (tgt := 35) B.1 B.2.1 dX5_mutedLoops_26 (by decide) (fun c7 => ?_) (fun c7 => ?_)
          · replace hw := hw.1 c7
            obtain ⟨x8, ex8⟩ : ∃ y : Int32, y = b2 + 1 := ⟨_, rfl⟩
            replace hw := hw x8 ex8
            refine lv_iinc (v := x8) (lv' := [(2, .int x8), (3, .ref (zA Z j4)), (0, .ref (zA Z b0)), (1, .int b1)]) B.1 B.2.1 dX5_mutedLoops_35 hl (k := 3) rfl (by rw [ex8]; rfl) (by decide) (by first | rfl | simp [va_re_cat, Value.category]) ?_
            clear hl
            intro ls hl
            refine lv_goto (tgt := 4) B.1 B.2.1 dX5_mutedLoops_38 (by decide) ?_
            exact ih b1 x8 h2  _ _ _ hw hH (lv_sub hl [2, 3, 0] rfl)
          · replace hw := hw.2 c7
            refine lv_iload_n B.1 B.2.1 dX5_mutedLoops_29 rfl (lv_at hl 2 rfl) ?_
            refine lv_iconst (v := 1) B.1 B.2.1 dX5_mutedLoops_30 (by decide) ?_
            refine lv_iload_n B.1 B.2.1 dX5_mutedLoops_31 rfl (lv_at hl 3 rfl) ?_
            refine lv_ishl B.1 B.2.1 dX5_mutedLoops_32 ?_
            refine lv_ior B.1 B.2.1 dX5_mutedLoops_33 ?_
            refine lv_topi (fun x9 ex9 => ?_)
            replace hw := hw x9 ex9
            refine lv_istore_n (lv' := [(1, .int x9), (3, .ref (zA Z j4)), (0, .ref (zA Z b0)), (2, .int b2)]) B.1 B.2.1 dX5_mutedLoops_34 rfl hl (by decide) (by first | rfl | simp [va_re_cat, Value.category]) ?_
            clear hl
            intro ls hl
            obtain ⟨x10, ex10⟩ : ∃ y : Int32, y = b2 + 1 := ⟨_, rfl⟩
            replace hw := hw x10 ex10
            refine lv_iinc (v := x10) (lv' := [(2, .int x10), (1, .int x9), (3, .ref (zA Z j4)), (0, .ref (zA Z b0))]) B.1 B.2.1 dX5_mutedLoops_35 hl (k := 3) rfl (by rw [ex10]; rfl) (by decide) (by first | rfl | simp [va_re_cat, Value.category]) ?_
            clear hl
            intro ls hl
            refine lv_goto (tgt := 4) B.1 B.2.1 dX5_mutedLoops_38 (by decide) ?_
            exact ih x9 x10 h2  _ _ _ hw hH (lv_sub hl [3, 1, 0] rfl)
  refine lv_iconst (v := 0) B.1 B.2.1 dX5_mutedLoops_0 (by decide) ?_
  refine lv_istore_n (lv' := [(1, .int 0), (0, .ref (zA Z a0))]) B.1 B.2.1 dX5_mutedLoops_1 rfl hl (by decide) (by first | rfl | simp [va_re_cat, Value.category]) ?_
  clear hl
  intro ls hl
  refine lv_iconst (v := 0) B.1 B.2.1 dX5_mutedLoops_2 (by decide) ?_
  refine lv_istore_n (lv' := [(2, .int 0), (1, .int 0), (0, .ref (zA Z a0))]) B.1 B.2.1 dX5_mutedLoops_3 rfl hl (by decide) (by first | rfl | simp [va_re_cat, Value.category]) ?_
  clear hl
  intro ls hl
  obtain ⟨n11, hw⟩ := hw
  exact L4 a0 (k0) n11 0 0 h  _ _ _ hw hH (lv_sub hl [2, 1, 0] rfl)
theorem cy_X5_loopCells {s : State} {args : Array Value} (hG : GG s) : CYV s args yX5_loopCells cX5_loopCells 4 (some .int) 0 := CYV.of hG (fun _ _ hG => tw_619 hG) (tw_2 hG) (tw_618 hG) (tp_41 hG) (by decide +kernel)
set_option maxRecDepth 100000 in
set_option maxHeartbeats 4000000 in
theorem ct_X5_loopCells {Z : ZT} (hZ : ZO Z) (l : Launch) (a0 : Nat) (h : PH) (sz : Nat) (Q : Int32 → PH → Prop) (k0 : kd a0 = 2) (hw : wp_X5_loopCells a0 h Q) : MI Z l yX5_loopCells cX5_loopCells 4 (some .int) ({ frames := 2, cells := 0, slots := 0, locals := 43 } : Room) h sz [.ref (zA Z a0)] Q := by
  refine open_M hZ (by decide +kernel) (by exact Nat.le_of_ble_eq_true rfl) ?_
  intro p e s m below meth c B hr hsz ls hl hH
  subst hsz
  have hl : lv_has ls 4 [(0, .ref (zA Z a0))] := hl
  unfold wp_X5_loopCells at hw
  have L4 : ∀ (b0 : Nat), kd b0 = 2 → ∀ (n : Nat) (b1 : Int32) (b2 : Int32) (h : PH), ∀ (H : Heap) (locs : List Loc) (ls : Array Slot), wp_X5_loopCells_b4 b0 Q n b1 b2 h → HH Z s h H locs → lv_has ls 4 [(0, .ref (zA Z b0)), (1, .int b1), (2, .int b2)] → W p l e ({ frames := 2, cells := 0, slots := 0, locals := 43 } : Room) s m ([.ref (zA Z a0)]).toArray below meth c H locs 0 0 (MQ below (va_Qi Q (BZ Z) (fr Z s.heap.size)) ([.ref (zA Z a0)]).toArray s 0 0 (fr Z s.heap.size)) (F0 m 4 ls []) := by
    intro b0 kb0 n
    induction n with
    | zero => intro b1 b2 h H locs ls hw hH hl; exact absurd hw id
    | succ n ih =>
      intro b1 b2 h H locs ls hw hH hl
      unfold wp_X5_loopCells_b4 at hw
      refine lv_iload_n B.1 B.2.1 dX5_loopCells_4 rfl (lv_at hl 2 rfl) ?_
      refine lv_aload_n B.1 B.2.1 dX5_loopCells_5 rfl (lv_at hl 0 rfl) ?_
      refine r_get B hH (own := RX5) (kd_n B (kb0) (by decide) (by decide)) (ct_2 (kb0)) rfl (ul_2 B.2.2.2.2.1) 3 (by decide) rfl (tw_103 B.2.2.2.2.1) dX5_loopCells_6 ?_
      refine lv_icmp_ge (tgt := 35) B.1 B.2.1 dX5_loopCells_9 (by decide) (fun c1 => ?_) (fun c1 => ?_)
      · replace hw := hw.1 c1
        refine lv_iload_n B.1 B.2.1 dX5_loopCells_35 rfl (lv_at hl 1 rfl) ?_
        exact e_i B hr hH hw dX5_loopCells_36
      · replace hw := hw.2 c1
        refine lv_aload_n B.1 B.2.1 dX5_loopCells_12 rfl (lv_at hl 0 rfl) ?_
        refine lv_iload_n B.1 B.2.1 dX5_loopCells_13 rfl (lv_at hl 2 rfl) ?_
        refine c_V_O (own := RX5) (As := [.int b2]) (rest := []) B hH (cy_X5_loopAt B.2.2.2.2.1) (ct_X5_loopAt B.2.2.2.2.2.2.2 l b0 b2 h _ _ (kb0) hw) ⟨⟨rfl, rfl⟩, Nat.le_of_ble_eq_true rfl, Nat.le_of_ble_eq_true rfl, Nat.zero_le _, Nat.zero_le _⟩ (rv_2 B hH (kb0)) (tw_495 B.2.2.2.2.1) rfl hl.1 rfl (Nat.le_of_ble_eq_true rfl) dX5_loopCells_14 ?_
        clear hw hH
        intro r3 h2 H locs hw hH
        have kr3 := hw.2
        replace hw := hw.1
        refine x_astore_n (lv' := [(3, va_re (zA Z) r3), (0, .ref (zA Z b0)), (1, .int b1), (2, .int b2)]) B dX5_loopCells_17 rfl hl (by decide) (by first | rfl | simp [va_re_cat]) ?_
        clear hl
        intro ls hl
        refine x_aload_n B dX5_loopCells_18 rfl (lv_at hl 0 rfl) ?_
        refine x_ifnull (tgt := 29) B dX5_loopCells_19 (by decide) (fun c5 => ?_) (fun j4 c5 => ?_)
        · replace hw := hw.1 c5
          subst c5
          obtain ⟨x6, ex6⟩ : ∃ y : Int32, y = b2 + 1 := ⟨_, rfl⟩
          replace hw := hw x6 ex6
          refine lv_iinc (v := x6) (lv' := [(2, .int x6), (3, va_re (zA Z) none), (0, .ref (zA Z b0)), (1, .int b1)]) B.1 B.2.1 dX5_loopCells_29 hl (k := 3) rfl (by rw [ex6]; rfl) (by decide) (by first | rfl | simp [va_re_cat, Value.category]) ?_
          clear hl
          intro ls hl
          refine lv_goto (tgt := 4) B.1 B.2.1 dX5_loopCells_32 (by decide) ?_
          exact ih b1 x6 h2  _ _ _ hw hH (lv_sub hl [2, 3, 0] rfl)
        · replace hw := hw.2 j4 c5
          have kj4 := kr3 j4 c5
          subst c5
          refine lv_iload_n B.1 B.2.1 dX5_loopCells_22 rfl (lv_at hl 2 rfl) ?_
          refine lv_aload_n B.1 B.2.1 dX5_loopCells_23 rfl (lv_at hl 0 rfl) ?_
          refine r_getN B hH (own := RX5) (kd_n B (kj4) (by decide) (by decide)) (ct_4 (kj4)) rfl (ul_4 B.2.2.2.2.1) 2 (by decide) rfl (tw_67 B.2.2.2.2.1) dX5_loopCells_24 ?_
          refine lv_iadd B.1 B.2.1 dX5_loopCells_27 ?_
          refine lv_topi (fun x7 ex7 => ?_)
          replace hw := hw x7 ex7
          refine lv_istore_n (lv' := [(1, .int x7), (3, .ref (zA Z j4)), (0, .ref (zA Z b0)), (2, .int b2)]) B.1 B.2.1 dX5_loopCells_28 rfl hl (by decide) (by first | rfl | simp [va_re_cat, Value.category]) ?_
          clear hl
          intro ls hl
          obtain ⟨x8, ex8⟩ : ∃ y : Int32, y = b2 + 1 := ⟨_, rfl⟩
          replace hw := hw x8 ex8
          refine lv_iinc (v := x8) (lv' := [(2, .int x8), (1, .int x7), (3, .ref (zA Z j4)), (0, .ref (zA Z b0))]) B.1 B.2.1 dX5_loopCells_29 hl (k := 3) rfl (by rw [ex8]; rfl) (by decide) (by first | rfl | simp [va_re_cat, Value.category]) ?_
          clear hl
          intro ls hl
          refine lv_goto (tgt := 4) B.1 B.2.1 dX5_loopCells_32 (by decide) ?_
          exact ih x7 x8 h2  _ _ _ hw hH (lv_sub hl [3, 1, 0] rfl)
  refine lv_iconst (v := 0) B.1 B.2.1 dX5_loopCells_0 (by decide) ?_
  refine lv_istore_n (lv' := [(1, .int 0), (0, .ref (zA Z a0))]) B.1 B.2.1 dX5_loopCells_1 rfl hl (by decide) (by first | rfl | simp [va_re_cat, Value.category]) ?_
  clear hl
  intro ls hl
  refine lv_iconst (v := 0) B.1 B.2.1 dX5_loopCells_2 (by decide) ?_
  refine lv_istore_n (lv' := [(2, .int 0), (1, .int 0), (0, .ref (zA Z a0))]) B.1 B.2.1 dX5_loopCells_3 rfl hl (by decide) (by first | rfl | simp [va_re_cat, Value.category]) ?_
  clear hl
  intro ls hl
  obtain ⟨n9, hw⟩ := hw
  exact L4 a0 (k0) n9 0 0 h  _ _ _ hw hH (lv_sub hl [2, 1, 0] rfl)
theorem cy_X5_whyNotPaint {s : State} {args : Array Value} (hG : GG s) : CYS s args yX5_whyNotPaint cX5_whyNotPaint 4 (some .int) 4 := CYS.of hG (fun _ _ hG => tw_489 hG) (tw_2 hG) (tw_488 hG) (by decide +kernel)
set_option maxRecDepth 100000 in
set_option maxHeartbeats 4000000 in
theorem ct_X5_whyNotPaint {Z : ZT} (hZ : ZO Z) (l : Launch) (a0 : Option Nat) (a1 : Int32) (a2 : Int32) (a3 : Int32) (h : PH) (sz : Nat) (Q : Int32 → PH → Prop) (k0 : ∀ j, a0 = some j → kd j = 3) (hw : wp_X5_whyNotPaint a0 a1 a2 a3 h Q) : MI Z l yX5_whyNotPaint cX5_whyNotPaint 4 (some .int) ({ frames := 2, cells := 0, slots := 0, locals := 43 } : Room) h sz [va_re (zA Z) a0, .int a1, .int a2, .int a3] Q := by
  refine open_M hZ (by decide +kernel) (by rcases a0 with _ | _ <;> exact Nat.le_of_ble_eq_true rfl) ?_
  intro p e s m below meth c B hr hsz ls hl hH
  subst hsz
  have hl : lv_has ls 4 [(0, va_re (zA Z) a0), (1, .int a1), (2, .int a2), (3, .int a3)] := by
    have e9 : lv_args 0 [va_re (zA Z) a0, .int a1, .int a2, .int a3] = [(0, va_re (zA Z) a0), (1, .int a1), (2, .int a2), (3, .int a3)] := by rcases a0 with _ | _ <;> rfl
    rw [e9] at hl
    exact hl
  unfold wp_X5_whyNotPaint at hw
  refine x_aload_n B dX5_whyNotPaint_0 rfl (lv_at hl 0 rfl) ?_
  refine x_ifnull (tgt := 20) B dX5_whyNotPaint_1 (by decide) (fun c2 => ?_) (fun j1 c2 => ?_)
  · replace hw := hw.1 c2
    subst c2
    refine lv_iconst (v := 1) B.1 B.2.1 dX5_whyNotPaint_20 (by decide) ?_
    exact e_i B hr hH hw dX5_whyNotPaint_21
  · replace hw := hw.2 j1 c2
    have kj1 := k0 j1 c2
    subst c2
    refine lv_aload_n B.1 B.2.1 dX5_whyNotPaint_4 rfl (lv_at hl 0 rfl) ?_
    refine lv_iload_n B.1 B.2.1 dX5_whyNotPaint_5 rfl (lv_at hl 1 rfl) ?_
    refine c_VN_I (own := RX5) (As := [.int a1]) (rest := []) B hH (cy_X3_hasCell B.2.2.2.2.1) (ct_X3_hasCell B.2.2.2.2.2.2.2 l j1 a1 h _ _ (kj1) hw) ⟨⟨rfl, rfl⟩, Nat.le_of_ble_eq_true rfl, Nat.le_of_ble_eq_true rfl, Nat.zero_le _, Nat.zero_le _⟩ (rv_3 B hH (kj1)) (tw_490 B.2.2.2.2.1) rfl hl.1 rfl (Nat.le_of_ble_eq_true rfl) dX5_whyNotPaint_6 ?_
    clear hw hH
    intro r4 h3 H locs hw hH
    refine lv_if_eq (tgt := 20) B.1 B.2.1 dX5_whyNotPaint_9 (by decide) (fun c5 => ?_) (fun c5 => ?_)
    · replace hw := hw.1 c5
      refine lv_iconst (v := 1) B.1 B.2.1 dX5_whyNotPaint_20 (by decide) ?_
      exact e_i B hr hH hw dX5_whyNotPaint_21
    · replace hw := hw.2 c5
      refine lv_aload_n B.1 B.2.1 dX5_whyNotPaint_12 rfl (lv_at hl 0 rfl) ?_
      refine lv_iload_n B.1 B.2.1 dX5_whyNotPaint_13 rfl (lv_at hl 2 rfl) ?_
      refine c_VN_I (own := RX5) (As := [.int a2]) (rest := []) B hH (cy_X3_hasCell B.2.2.2.2.1) (ct_X3_hasCell B.2.2.2.2.2.2.2 l j1 a2 h3 _ _ (kj1) hw) ⟨⟨rfl, rfl⟩, Nat.le_of_ble_eq_true rfl, Nat.le_of_ble_eq_true rfl, Nat.zero_le _, Nat.zero_le _⟩ (rv_3 B hH (kj1)) (tw_490 B.2.2.2.2.1) rfl hl.1 rfl (Nat.le_of_ble_eq_true rfl) dX5_whyNotPaint_14 ?_
      clear hw hH
      intro r7 h6 H locs hw hH
      refine lv_if_ne (tgt := 22) B.1 B.2.1 dX5_whyNotPaint_17 (by decide) (fun c8 => ?_) (fun c8 => ?_)
      · replace hw := hw.1 c8
        refine lv_iload_n B.1 B.2.1 dX5_whyNotPaint_22 rfl (lv_at hl 2 rfl) ?_
        refine lv_iload_n B.1 B.2.1 dX5_whyNotPaint_23 rfl (lv_at hl 1 rfl) ?_
        refine lv_icmp_lt (tgt := 37) B.1 B.2.1 dX5_whyNotPaint_24 (by decide) (fun c9 => ?_) (fun c9 => ?_)
        · replace hw := hw.1 c9
          refine lv_iconst (v := 2) B.1 B.2.1 dX5_whyNotPaint_37 (by decide) ?_
          refine lv_goto (tgt := 42) B.1 B.2.1 dX5_whyNotPaint_38 (by decide) ?_
          exact e_i B hr hH hw dX5_whyNotPaint_42
        · replace hw := hw.2 c9
          refine lv_iload_n B.1 B.2.1 dX5_whyNotPaint_27 rfl (lv_at hl 3 rfl) ?_
          refine lv_iconst (v := 0) B.1 B.2.1 dX5_whyNotPaint_28 (by decide) ?_
          refine lv_bipush (v := 9) B.1 B.2.1 dX5_whyNotPaint_29 (by decide) ?_
          refine c_SN_I (own := RX5) (As := [.int a3, .int 0, .int 9]) (rest := []) B hH (cy_X7_outside B.2.2.2.2.1) (ct_X7_outside B.2.2.2.2.2.2.2 l a3 0 9 h6 _ _  hw) ⟨⟨rfl, rfl⟩, Nat.le_of_ble_eq_true rfl, Nat.le_of_ble_eq_true rfl, Nat.zero_le _, Nat.zero_le _⟩ (tw_322 B.2.2.2.2.1) rfl hl.1 rfl (Nat.le_of_ble_eq_true rfl) dX5_whyNotPaint_31 ?_
          clear hw hH
          intro r11 h10 H locs hw hH
          refine lv_if_eq (tgt := 41) B.1 B.2.1 dX5_whyNotPaint_34 (by decide) (fun c12 => ?_) (fun c12 => ?_)
          · replace hw := hw.1 c12
            refine lv_iconst (v := 0) B.1 B.2.1 dX5_whyNotPaint_41 (by decide) ?_
            exact e_i B hr hH hw dX5_whyNotPaint_42
          · replace hw := hw.2 c12
            refine lv_iconst (v := 2) B.1 B.2.1 dX5_whyNotPaint_37 (by decide) ?_
            refine lv_goto (tgt := 42) B.1 B.2.1 dX5_whyNotPaint_38 (by decide) ?_
            exact e_i B hr hH hw dX5_whyNotPaint_42
      · replace hw := hw.2 c8
        refine lv_iconst (v := 1) B.1 B.2.1 dX5_whyNotPaint_20 (by decide) ?_
        exact e_i B hr hH hw dX5_whyNotPaint_21
theorem cy_X5_whyNotRecord {s : State} {args : Array Value} (hG : GG s) : CYS s args yX5_whyNotRecord cX5_whyNotRecord 2 (some .int) 2 := CYS.of hG (fun _ _ hG => tw_509 hG) (tw_2 hG) (tw_508 hG) (by decide +kernel)
set_option maxRecDepth 100000 in
set_option maxHeartbeats 4000000 in
theorem ct_X5_whyNotRecord {Z : ZT} (hZ : ZO Z) (l : Launch) (a0 : Option Nat) (a1 : Int32) (h : PH) (sz : Nat) (Q : Int32 → PH → Prop) (k0 : ∀ j, a0 = some j → kd j = 3) (hw : wp_X5_whyNotRecord a0 a1 h Q) : MI Z l yX5_whyNotRecord cX5_whyNotRecord 2 (some .int) ({ frames := 1, cells := 0, slots := 0, locals := 22 } : Room) h sz [va_re (zA Z) a0, .int a1] Q := by
  refine open_M hZ (by decide +kernel) (by rcases a0 with _ | _ <;> exact Nat.le_of_ble_eq_true rfl) ?_
  intro p e s m below meth c B hr hsz ls hl hH
  subst hsz
  have hl : lv_has ls 2 [(0, va_re (zA Z) a0), (1, .int a1)] := by
    have e9 : lv_args 0 [va_re (zA Z) a0, .int a1] = [(0, va_re (zA Z) a0), (1, .int a1)] := by rcases a0 with _ | _ <;> rfl
    rw [e9] at hl
    exact hl
  unfold wp_X5_whyNotRecord at hw
  refine x_aload_n B dX5_whyNotRecord_0 rfl (lv_at hl 0 rfl) ?_
  refine x_ifnonnull (tgt := 8) B dX5_whyNotRecord_1 (by decide) (fun j1 c2 => ?_) (fun c2 => ?_)
  · replace hw := hw.2 j1 c2
    have kj1 := k0 j1 c2
    subst c2
    refine lv_iload_n B.1 B.2.1 dX5_whyNotRecord_8 rfl (lv_at hl 1 rfl) ?_
    refine lv_iconst (v := 1) B.1 B.2.1 dX5_whyNotRecord_9 (by decide) ?_
    refine lv_aload_n B.1 B.2.1 dX5_whyNotRecord_10 rfl (lv_at hl 0 rfl) ?_
    refine r_getN B hH (own := RX5) (kd_n B (kj1) (by decide) (by decide)) (ct_3 (kj1)) rfl (ul_3 B.2.2.2.2.1) 1 (by decide) rfl (tw_49 B.2.2.2.2.1) dX5_whyNotRecord_11 ?_
    refine c_SN_I (own := RX5) (As := [.int a1, .int 1, .int (h j1 1)]) (rest := []) B hH (cy_X7_outside B.2.2.2.2.1) (ct_X7_outside B.2.2.2.2.2.2.2 l a1 1 (h j1 1) h _ _  hw) ⟨⟨rfl, rfl⟩, Nat.le_of_ble_eq_true rfl, Nat.le_of_ble_eq_true rfl, Nat.zero_le _, Nat.zero_le _⟩ (tw_322 B.2.2.2.2.1) rfl hl.1 rfl (Nat.le_of_ble_eq_true rfl) dX5_whyNotRecord_14 ?_
    clear hw hH
    intro r4 h3 H locs hw hH
    refine lv_if_eq (tgt := 24) B.1 B.2.1 dX5_whyNotRecord_17 (by decide) (fun c5 => ?_) (fun c5 => ?_)
    · replace hw := hw.1 c5
      refine lv_iconst (v := 0) B.1 B.2.1 dX5_whyNotRecord_24 (by decide) ?_
      exact e_i B hr hH hw dX5_whyNotRecord_25
    · replace hw := hw.2 c5
      refine lv_iconst (v := 2) B.1 B.2.1 dX5_whyNotRecord_20 (by decide) ?_
      refine lv_goto (tgt := 25) B.1 B.2.1 dX5_whyNotRecord_21 (by decide) ?_
      exact e_i B hr hH hw dX5_whyNotRecord_25
  · replace hw := hw.1 c2
    subst c2
    refine lv_iconst (v := 1) B.1 B.2.1 dX5_whyNotRecord_4 (by decide) ?_
    refine lv_goto (tgt := 25) B.1 B.2.1 dX5_whyNotRecord_5 (by decide) ?_
    exact e_i B hr hH hw dX5_whyNotRecord_25
theorem cy_X5_whyNotSplice {s : State} {args : Array Value} (hG : GG s) : CYS s args yX5_whyNotSplice cX5_whyNotSplice 4 (some .int) 4 := CYS.of hG (fun _ _ hG => tw_498 hG) (tw_2 hG) (tw_497 hG) (by decide +kernel)
set_option maxRecDepth 100000 in
set_option maxHeartbeats 4000000 in
theorem ct_X5_whyNotSplice {Z : ZT} (hZ : ZO Z) (l : Launch) (a0 : Option Nat) (a1 : Option Nat) (a2 : Int32) (a3 : Int32) (h : PH) (sz : Nat) (Q : Int32 → PH → Prop) (k0 : ∀ j, a0 = some j → kd j = 4) (k1 : ∀ j, a1 = some j → kd j = 3) (hw : wp_X5_whyNotSplice a0 a1 a2 a3 h Q) : MI Z l yX5_whyNotSplice cX5_whyNotSplice 4 (some .int) ({ frames := 2, cells := 0, slots := 0, locals := 43 } : Room) h sz [va_re (zA Z) a0, va_re (zA Z) a1, .int a2, .int a3] Q := by
  refine open_M hZ (by decide +kernel) (by rcases a0 with _ | _ <;> rcases a1 with _ | _ <;> exact Nat.le_of_ble_eq_true rfl) ?_
  intro p e s m below meth c B hr hsz ls hl hH
  subst hsz
  have hl : lv_has ls 4 [(0, va_re (zA Z) a0), (1, va_re (zA Z) a1), (2, .int a2), (3, .int a3)] := by
    have e9 : lv_args 0 [va_re (zA Z) a0, va_re (zA Z) a1, .int a2, .int a3] = [(0, va_re (zA Z) a0), (1, va_re (zA Z) a1), (2, .int a2), (3, .int a3)] := by rcases a0 with _ | _ <;> rcases a1 with _ | _ <;> rfl
    rw [e9] at hl
    exact hl
  unfold wp_X5_whyNotSplice at hw
  refine x_aload_n B dX5_whyNotSplice_0 rfl (lv_at hl 0 rfl) ?_
  refine x_ifnull (tgt := 24) B dX5_whyNotSplice_1 (by decide) (fun c2 => ?_) (fun j1 c2 => ?_)
  · replace hw := hw.1 c2
    subst c2
    refine lv_iconst (v := 1) B.1 B.2.1 dX5_whyNotSplice_24 (by decide) ?_
    refine lv_goto (tgt := 29) B.1 B.2.1 dX5_whyNotSplice_25 (by decide) ?_
    exact e_i B hr hH hw dX5_whyNotSplice_29
  · replace hw := hw.2 j1 c2
    have kj1 := k0 j1 c2
    subst c2
    refine x_aload_n B dX5_whyNotSplice_4 rfl (lv_at hl 1 rfl) ?_
    refine x_ifnull (tgt := 24) B dX5_whyNotSplice_5 (by decide) (fun c4 => ?_) (fun j3 c4 => ?_)
    · replace hw := hw.1 c4
      subst c4
      refine lv_iconst (v := 1) B.1 B.2.1 dX5_whyNotSplice_24 (by decide) ?_
      refine lv_goto (tgt := 29) B.1 B.2.1 dX5_whyNotSplice_25 (by decide) ?_
      exact e_i B hr hH hw dX5_whyNotSplice_29
    · replace hw := hw.2 j3 c4
      have kj3 := k1 j3 c4
      subst c4
      refine lv_aload_n B.1 B.2.1 dX5_whyNotSplice_8 rfl (lv_at hl 1 rfl) ?_
      refine lv_iload_n B.1 B.2.1 dX5_whyNotSplice_9 rfl (lv_at hl 2 rfl) ?_
      refine c_VN_I (own := RX5) (As := [.int a2]) (rest := []) B hH (cy_X3_hasPlace B.2.2.2.2.1) (ct_X3_hasPlace B.2.2.2.2.2.2.2 l j3 a2 h _ _ (kj3) hw) ⟨⟨rfl, rfl⟩, Nat.le_of_ble_eq_true rfl, Nat.le_of_ble_eq_true rfl, Nat.zero_le _, Nat.zero_le _⟩ (rv_3 B hH (kj3)) (tw_499 B.2.2.2.2.1) rfl hl.1 rfl (Nat.le_of_ble_eq_true rfl) dX5_whyNotSplice_10 ?_
      clear hw hH
      intro r6 h5 H locs hw hH
      refine lv_if_eq (tgt := 24) B.1 B.2.1 dX5_whyNotSplice_13 (by decide) (fun c7 => ?_) (fun c7 => ?_)
      · replace hw := hw.1 c7
        refine lv_iconst (v := 1) B.1 B.2.1 dX5_whyNotSplice_24 (by decide) ?_
        refine lv_goto (tgt := 29) B.1 B.2.1 dX5_whyNotSplice_25 (by decide) ?_
        exact e_i B hr hH hw dX5_whyNotSplice_29
      · replace hw := hw.2 c7
        refine lv_aload_n B.1 B.2.1 dX5_whyNotSplice_16 rfl (lv_at hl 1 rfl) ?_
        refine lv_iload_n B.1 B.2.1 dX5_whyNotSplice_17 rfl (lv_at hl 3 rfl) ?_
        refine c_VN_I (own := RX5) (As := [.int a3]) (rest := []) B hH (cy_X3_hasPlace B.2.2.2.2.1) (ct_X3_hasPlace B.2.2.2.2.2.2.2 l j3 a3 h5 _ _ (kj3) hw) ⟨⟨rfl, rfl⟩, Nat.le_of_ble_eq_true rfl, Nat.le_of_ble_eq_true rfl, Nat.zero_le _, Nat.zero_le _⟩ (rv_3 B hH (kj3)) (tw_499 B.2.2.2.2.1) rfl hl.1 rfl (Nat.le_of_ble_eq_true rfl) dX5_whyNotSplice_18 ?_
        clear hw hH
        intro r9 h8 H locs hw hH
        refine lv_if_ne (tgt := 28) B.1 B.2.1 dX5_whyNotSplice_21 (by decide) (fun c10 => ?_) (fun c10 => ?_)
        · replace hw := hw.1 c10
          refine lv_iconst (v := 0) B.1 B.2.1 dX5_whyNotSplice_28 (by decide) ?_
          exact e_i B hr hH hw dX5_whyNotSplice_29
        · replace hw := hw.2 c10
          refine lv_iconst (v := 1) B.1 B.2.1 dX5_whyNotSplice_24 (by decide) ?_
          refine lv_goto (tgt := 29) B.1 B.2.1 dX5_whyNotSplice_25 (by decide) ?_
          exact e_i B hr hH hw dX5_whyNotSplice_29
theorem cy_X5_whyNotUnsplice {s : State} {args : Array Value} (hG : GG s) : CYS s args yX5_whyNotUnsplice cX5_whyNotUnsplice 1 (some .int) 1 := CYS.of hG (fun _ _ hG => tw_505 hG) (tw_2 hG) (tw_504 hG) (by decide +kernel)
set_option maxRecDepth 100000 in
set_option maxHeartbeats 4000000 in
theorem ct_X5_whyNotUnsplice {Z : ZT} (hZ : ZO Z) (l : Launch) (a0 : Option Nat) (h : PH) (sz : Nat) (Q : Int32 → PH → Prop) (k0 : ∀ j, a0 = some j → kd j = 4) (hw : wp_X5_whyNotUnsplice a0 h Q) : MI Z l yX5_whyNotUnsplice cX5_whyNotUnsplice 1 (some .int) ({ frames := 1, cells := 0, slots := 0, locals := 20 } : Room) h sz [va_re (zA Z) a0] Q := by
  refine open_M hZ (by decide +kernel) (by rcases a0 with _ | _ <;> exact Nat.le_of_ble_eq_true rfl) ?_
  intro p e s m below meth c B hr hsz ls hl hH
  subst hsz
  have hl : lv_has ls 1 [(0, va_re (zA Z) a0)] := by
    have e9 : lv_args 0 [va_re (zA Z) a0] = [(0, va_re (zA Z) a0)] := by rcases a0 with _ | _ <;> rfl
    rw [e9] at hl
    exact hl
  unfold wp_X5_whyNotUnsplice at hw
  refine x_aload_n B dX5_whyNotUnsplice_0 rfl (lv_at hl 0 rfl) ?_
  refine x_ifnonnull (tgt := 8) B dX5_whyNotUnsplice_1 (by decide) (fun j1 c2 => ?_) (fun c2 => ?_)
  · replace hw := hw.2 j1 c2
    have kj1 := k0 j1 c2
    subst c2
    refine lv_aload_n B.1 B.2.1 dX5_whyNotUnsplice_8 rfl (lv_at hl 0 rfl) ?_
    refine c_VN_I (own := RX5) (As := []) (rest := []) B hH (cy_X0_isEmpty B.2.2.2.2.1) (ct_X0_isEmpty B.2.2.2.2.2.2.2 l j1 h _ _ (kj1) hw) ⟨⟨rfl, rfl⟩, Nat.le_of_ble_eq_true rfl, Nat.le_of_ble_eq_true rfl, Nat.zero_le _, Nat.zero_le _⟩ (rv_4 B hH (kj1)) (tw_506 B.2.2.2.2.1) rfl hl.1 rfl (Nat.le_of_ble_eq_true rfl) dX5_whyNotUnsplice_9 ?_
    clear hw hH
    intro r4 h3 H locs hw hH
    refine lv_if_eq (tgt := 19) B.1 B.2.1 dX5_whyNotUnsplice_12 (by decide) (fun c5 => ?_) (fun c5 => ?_)
    · replace hw := hw.1 c5
      refine lv_iconst (v := 0) B.1 B.2.1 dX5_whyNotUnsplice_19 (by decide) ?_
      exact e_i B hr hH hw dX5_whyNotUnsplice_20
    · replace hw := hw.2 c5
      refine lv_iconst (v := 3) B.1 B.2.1 dX5_whyNotUnsplice_15 (by decide) ?_
      refine lv_goto (tgt := 20) B.1 B.2.1 dX5_whyNotUnsplice_16 (by decide) ?_
      exact e_i B hr hH hw dX5_whyNotUnsplice_20
  · replace hw := hw.1 c2
    subst c2
    refine lv_iconst (v := 1) B.1 B.2.1 dX5_whyNotUnsplice_4 (by decide) ?_
    refine lv_goto (tgt := 20) B.1 B.2.1 dX5_whyNotUnsplice_5 (by decide) ?_
    exact e_i B hr hH hw dX5_whyNotUnsplice_20
theorem cy_X5_whyNot {s : State} {args : Array Value} (hG : GG s) : CYV s args yX5_whyNot cX5_whyNot 6 (some .int) 5 := CYV.of hG (fun _ _ hG => tw_482 hG) (tw_2 hG) (tw_481 hG) (tp_18 hG) (by decide +kernel)
set_option maxRecDepth 100000 in
set_option maxHeartbeats 4000000 in
theorem ct_X5_whyNot {Z : ZT} (hZ : ZO Z) (l : Launch) (a0 : Nat) (a1 : Int32) (a2 : Int32) (a3 : Int32) (a4 : Int32) (a5 : Int32) (h : PH) (sz : Nat) (Q : Int32 → PH → Prop) (k0 : kd a0 = 2) (hw : wp_X5_whyNot a0 a1 a2 a3 a4 a5 h Q) : MI Z l yX5_whyNot cX5_whyNot 6 (some .int) ({ frames := 3, cells := 0, slots := 0, locals := 66 } : Room) h sz [.ref (zA Z a0), .int a1, .int a2, .int a3, .int a4, .int a5] Q := by
  refine open_M hZ (by decide +kernel) (by exact Nat.le_of_ble_eq_true rfl) ?_
  intro p e s m below meth c B hr hsz ls hl hH
  subst hsz
  have hl : lv_has ls 6 [(0, .ref (zA Z a0)), (1, .int a1), (2, .int a2), (3, .int a3), (4, .int a4), (5, .int a5)] := hl
  unfold wp_X5_whyNot at hw
  refine lv_iload_n B.1 B.2.1 dX5_whyNot_0 rfl (lv_at hl 1 rfl) ?_
  by_cases c1 : (a1 = 99)
  · replace hw := hw.1 c1
    refine lv_tableIn (off := 155) (tgt := 156) B.1 B.2.1 dX5_whyNot_1 (by rw [c1]; decide) (by rw [c1]; decide) (by rw [c1]; rfl) (by decide) ?_
    refine lv_aload_n B.1 B.2.1 dX5_whyNot_156 rfl (lv_at hl 0 rfl) ?_
    refine lv_iload_n B.1 B.2.1 dX5_whyNot_157 rfl (lv_at hl 2 rfl) ?_
    refine c_V_O (own := RX5) (As := [.int a2]) (rest := []) B hH (cy_X5_loopAt B.2.2.2.2.1) (ct_X5_loopAt B.2.2.2.2.2.2.2 l a0 a2 h _ _ (k0) hw) ⟨⟨rfl, rfl⟩, Nat.le_of_ble_eq_true rfl, Nat.le_of_ble_eq_true rfl, Nat.zero_le _, Nat.zero_le _⟩ (rv_2 B hH (k0)) (tw_495 B.2.2.2.2.1) rfl hl.1 rfl (Nat.le_of_ble_eq_true rfl) dX5_whyNot_158 ?_
    clear hw hH
    intro r3 h2 H locs hw hH
    have kr3 := hw.2
    replace hw := hw.1
    refine lv_aload_n B.1 B.2.1 dX5_whyNot_161 rfl (lv_at hl 0 rfl) ?_
    refine lv_iload_n B.1 B.2.1 dX5_whyNot_162 rfl (lv_at hl 3 rfl) ?_
    refine c_V_O (own := RX5) (As := [.int a3]) (rest := [va_re (zA Z) r3]) B hH (cy_X5_reelAt B.2.2.2.2.1) (ct_X5_reelAt B.2.2.2.2.2.2.2 l a0 a3 h2 _ _ (k0) hw) ⟨⟨rfl, rfl⟩, Nat.le_of_ble_eq_true rfl, Nat.le_of_ble_eq_true rfl, Nat.zero_le _, Nat.zero_le _⟩ (rv_2 B hH (k0)) (tw_483 B.2.2.2.2.1) rfl hl.1 rfl (by rcases r3 with _ | _ <;> exact Nat.le_of_ble_eq_true rfl) dX5_whyNot_163 ?_
    clear hw hH
    intro r5 h4 H locs hw hH
    have kr5 := hw.2
    replace hw := hw.1
    refine lv_iload B.1 B.2.1 dX5_whyNot_166 (lv_at hl 4 rfl) ?_
    refine lv_iload B.1 B.2.1 dX5_whyNot_168 (lv_at hl 5 rfl) ?_
    refine c_S_I (own := RX5) (As := [va_re (zA Z) r3, va_re (zA Z) r5, .int a4, .int a5]) (rest := []) B hH (cy_X5_whyNotSplice B.2.2.2.2.1) (ct_X5_whyNotSplice B.2.2.2.2.2.2.2 l r3 r5 a4 a5 h4 _ _ (kr3) (kr5) hw) ⟨⟨rfl, rfl⟩, Nat.le_of_ble_eq_true rfl, Nat.le_of_ble_eq_true rfl, Nat.zero_le _, Nat.zero_le _⟩ (tw_496 B.2.2.2.2.1) rfl hl.1 rfl (Nat.le_of_ble_eq_true rfl) dX5_whyNot_170 ?_
    clear hw hH
    intro r7 h6 H locs hw hH
    exact e_i B hr hH hw dX5_whyNot_173
  · by_cases c8 : (a1 = 100 ∨ a1 = 101 ∨ a1 = 102 ∨ a1 = 103 ∨ a1 = 104 ∨ a1 = 105 ∨ a1 = 106 ∨ a1 = 107 ∨ a1 = 110 ∨ a1 = 111 ∨ a1 = 113 ∨ a1 = 115)
    · replace hw := hw.2.1 c8
      refine lv_tableIn (off := 262) (tgt := 263) B.1 B.2.1 dX5_whyNot_1 (by rcases c8 with e9 | e9 | e9 | e9 | e9 | e9 | e9 | e9 | e9 | e9 | e9 | e9 <;> rw [e9] <;> decide) (by rcases c8 with e9 | e9 | e9 | e9 | e9 | e9 | e9 | e9 | e9 | e9 | e9 | e9 <;> rw [e9] <;> decide) (by rcases c8 with e9 | e9 | e9 | e9 | e9 | e9 | e9 | e9 | e9 | e9 | e9 | e9 <;> rw [e9] <;> rfl) (by decide) ?_
      refine lv_iconst (v := 3) B.1 B.2.1 dX5_whyNot_263 (by decide) ?_
      exact e_i B hr hH hw dX5_whyNot_264
    · by_cases c9 : (a1 = 108)
      · replace hw := hw.2.2.1 c9
        refine lv_tableIn (off := 141) (tgt := 142) B.1 B.2.1 dX5_whyNot_1 (by rw [c9]; decide) (by rw [c9]; decide) (by rw [c9]; rfl) (by decide) ?_
        refine lv_aload_n B.1 B.2.1 dX5_whyNot_142 rfl (lv_at hl 0 rfl) ?_
        refine r_get B hH (own := RX5) (kd_n B (k0) (by decide) (by decide)) (ct_2 (k0)) rfl (ul_2 B.2.2.2.2.1) 3 (by decide) rfl (tw_103 B.2.2.2.2.1) dX5_whyNot_143 ?_
        refine lv_iconst (v := 4) B.1 B.2.1 dX5_whyNot_146 (by decide) ?_
        refine lv_icmp_ge (tgt := 154) B.1 B.2.1 dX5_whyNot_147 (by decide) (fun c10 => ?_) (fun c10 => ?_)
        · replace hw := hw.1 c10
          refine lv_iconst (v := 3) B.1 B.2.1 dX5_whyNot_154 (by decide) ?_
          exact e_i B hr hH hw dX5_whyNot_155
        · replace hw := hw.2 c10
          refine lv_iconst (v := 0) B.1 B.2.1 dX5_whyNot_150 (by decide) ?_
          refine lv_goto (tgt := 155) B.1 B.2.1 dX5_whyNot_151 (by decide) ?_
          exact e_i B hr hH hw dX5_whyNot_155
      · by_cases c11 : (a1 = 109)
        · replace hw := hw.2.2.2.1 c11
          refine lv_tableIn (off := 221) (tgt := 222) B.1 B.2.1 dX5_whyNot_1 (by rw [c11]; decide) (by rw [c11]; decide) (by rw [c11]; rfl) (by decide) ?_
          refine lv_aload_n B.1 B.2.1 dX5_whyNot_222 rfl (lv_at hl 0 rfl) ?_
          refine lv_iload_n B.1 B.2.1 dX5_whyNot_223 rfl (lv_at hl 2 rfl) ?_
          refine c_V_O (own := RX5) (As := [.int a2]) (rest := []) B hH (cy_X5_loopAt B.2.2.2.2.1) (ct_X5_loopAt B.2.2.2.2.2.2.2 l a0 a2 h _ _ (k0) hw) ⟨⟨rfl, rfl⟩, Nat.le_of_ble_eq_true rfl, Nat.le_of_ble_eq_true rfl, Nat.zero_le _, Nat.zero_le _⟩ (rv_2 B hH (k0)) (tw_495 B.2.2.2.2.1) rfl hl.1 rfl (Nat.le_of_ble_eq_true rfl) dX5_whyNot_224 ?_
          clear hw hH
          intro r13 h12 H locs hw hH
          have kr13 := hw.2
          replace hw := hw.1
          refine x_ifnonnull (tgt := 234) B dX5_whyNot_227 (by decide) (fun j14 c15 => ?_) (fun c15 => ?_)
          · replace hw := hw.2 j14 c15
            have kj14 := kr13 j14 c15
            subst c15
            refine lv_iconst (v := 0) B.1 B.2.1 dX5_whyNot_234 (by decide) ?_
            exact e_i B hr hH hw dX5_whyNot_235
          · replace hw := hw.1 c15
            subst c15
            refine lv_iconst (v := 1) B.1 B.2.1 dX5_whyNot_230 (by decide) ?_
            refine lv_goto (tgt := 235) B.1 B.2.1 dX5_whyNot_231 (by decide) ?_
            exact e_i B hr hH hw dX5_whyNot_235
        · by_cases c16 : (a1 = 112)
          · replace hw := hw.2.2.2.2.1 c16
            refine lv_tableIn (off := 127) (tgt := 128) B.1 B.2.1 dX5_whyNot_1 (by rw [c16]; decide) (by rw [c16]; decide) (by rw [c16]; rfl) (by decide) ?_
            refine lv_aload_n B.1 B.2.1 dX5_whyNot_128 rfl (lv_at hl 0 rfl) ?_
            refine lv_iload_n B.1 B.2.1 dX5_whyNot_129 rfl (lv_at hl 2 rfl) ?_
            refine c_V_O (own := RX5) (As := [.int a2]) (rest := []) B hH (cy_X5_reelAt B.2.2.2.2.1) (ct_X5_reelAt B.2.2.2.2.2.2.2 l a0 a2 h _ _ (k0) hw) ⟨⟨rfl, rfl⟩, Nat.le_of_ble_eq_true rfl, Nat.le_of_ble_eq_true rfl, Nat.zero_le _, Nat.zero_le _⟩ (rv_2 B hH (k0)) (tw_483 B.2.2.2.2.1) rfl hl.1 rfl (Nat.le_of_ble_eq_true rfl) dX5_whyNot_130 ?_
            clear hw hH
            intro r18 h17 H locs hw hH
            have kr18 := hw.2
            replace hw := hw.1
            refine lv_iload_n B.1 B.2.1 dX5_whyNot_133 rfl (lv_at hl 3 rfl) ?_
            refine lv_iload B.1 B.2.1 dX5_whyNot_134 (lv_at hl 4 rfl) ?_
            refine lv_iload B.1 B.2.1 dX5_whyNot_136 (lv_at hl 5 rfl) ?_
            refine c_S_I (own := RX5) (As := [va_re (zA Z) r18, .int a3, .int a4, .int a5]) (rest := []) B hH (cy_X5_whyNotPaint B.2.2.2.2.1) (ct_X5_whyNotPaint B.2.2.2.2.2.2.2 l r18 a3 a4 a5 h17 _ _ (kr18) hw) ⟨⟨rfl, rfl⟩, Nat.le_of_ble_eq_true rfl, Nat.le_of_ble_eq_true rfl, Nat.zero_le _, Nat.zero_le _⟩ (tw_487 B.2.2.2.2.1) rfl hl.1 rfl (Nat.le_of_ble_eq_true rfl) dX5_whyNot_138 ?_
            clear hw hH
            intro r20 h19 H locs hw hH
            exact e_i B hr hH hw dX5_whyNot_141
          · by_cases c21 : (a1 = 114)
            · replace hw := hw.2.2.2.2.2.1 c21
              refine lv_tableIn (off := 99) (tgt := 100) B.1 B.2.1 dX5_whyNot_1 (by rw [c21]; decide) (by rw [c21]; decide) (by rw [c21]; rfl) (by decide) ?_
              refine lv_iload_n B.1 B.2.1 dX5_whyNot_100 rfl (lv_at hl 2 rfl) ?_
              refine lv_iconst (v := 2) B.1 B.2.1 dX5_whyNot_101 (by decide) ?_
              refine lv_bipush (v := 60) B.1 B.2.1 dX5_whyNot_102 (by decide) ?_
              refine c_SN_I (own := RX5) (As := [.int a2, .int 2, .int 60]) (rest := []) B hH (cy_X7_outside B.2.2.2.2.1) (ct_X7_outside B.2.2.2.2.2.2.2 l a2 2 60 h _ _  hw) ⟨⟨rfl, rfl⟩, Nat.le_of_ble_eq_true rfl, Nat.le_of_ble_eq_true rfl, Nat.zero_le _, Nat.zero_le _⟩ (tw_322 B.2.2.2.2.1) rfl hl.1 rfl (Nat.le_of_ble_eq_true rfl) dX5_whyNot_104 ?_
              clear hw hH
              intro r23 h22 H locs hw hH
              refine lv_if_eq (tgt := 114) B.1 B.2.1 dX5_whyNot_107 (by decide) (fun c24 => ?_) (fun c24 => ?_)
              · replace hw := hw.1 c24
                refine lv_aload_n B.1 B.2.1 dX5_whyNot_114 rfl (lv_at hl 0 rfl) ?_
                refine r_get B hH (own := RX5) (kd_n B (k0) (by decide) (by decide)) (ct_2 (k0)) rfl (ul_2 B.2.2.2.2.1) 2 (by decide) rfl (tw_101 B.2.2.2.2.1) dX5_whyNot_115 ?_
                refine lv_iconst (v := 3) B.1 B.2.1 dX5_whyNot_118 (by decide) ?_
                refine lv_icmp_ge (tgt := 126) B.1 B.2.1 dX5_whyNot_119 (by decide) (fun c25 => ?_) (fun c25 => ?_)
                · replace hw := hw.1 c25
                  refine lv_iconst (v := 3) B.1 B.2.1 dX5_whyNot_126 (by decide) ?_
                  exact e_i B hr hH hw dX5_whyNot_127
                · replace hw := hw.2 c25
                  refine lv_iconst (v := 0) B.1 B.2.1 dX5_whyNot_122 (by decide) ?_
                  refine lv_goto (tgt := 127) B.1 B.2.1 dX5_whyNot_123 (by decide) ?_
                  exact e_i B hr hH hw dX5_whyNot_127
              · replace hw := hw.2 c24
                refine lv_iconst (v := 2) B.1 B.2.1 dX5_whyNot_110 (by decide) ?_
                refine lv_goto (tgt := 127) B.1 B.2.1 dX5_whyNot_111 (by decide) ?_
                exact e_i B hr hH hw dX5_whyNot_127
            · by_cases c26 : (a1 = 116)
              · replace hw := hw.2.2.2.2.2.2.1 c26
                refine lv_tableIn (off := 235) (tgt := 236) B.1 B.2.1 dX5_whyNot_1 (by rw [c26]; decide) (by rw [c26]; decide) (by rw [c26]; rfl) (by decide) ?_
                refine lv_iload_n B.1 B.2.1 dX5_whyNot_236 rfl (lv_at hl 2 rfl) ?_
                refine lv_iconst (v := 1) B.1 B.2.1 dX5_whyNot_237 (by decide) ?_
                refine lv_sipush (v := 999) B.1 B.2.1 dX5_whyNot_238 (by decide) ?_
                refine c_SN_I (own := RX5) (As := [.int a2, .int 1, .int 999]) (rest := []) B hH (cy_X7_outside B.2.2.2.2.1) (ct_X7_outside B.2.2.2.2.2.2.2 l a2 1 999 h _ _  hw) ⟨⟨rfl, rfl⟩, Nat.le_of_ble_eq_true rfl, Nat.le_of_ble_eq_true rfl, Nat.zero_le _, Nat.zero_le _⟩ (tw_322 B.2.2.2.2.1) rfl hl.1 rfl (Nat.le_of_ble_eq_true rfl) dX5_whyNot_241 ?_
                clear hw hH
                intro r28 h27 H locs hw hH
                refine lv_if_eq (tgt := 251) B.1 B.2.1 dX5_whyNot_244 (by decide) (fun c29 => ?_) (fun c29 => ?_)
                · replace hw := hw.1 c29
                  refine lv_iconst (v := 0) B.1 B.2.1 dX5_whyNot_251 (by decide) ?_
                  exact e_i B hr hH hw dX5_whyNot_252
                · replace hw := hw.2 c29
                  refine lv_iconst (v := 2) B.1 B.2.1 dX5_whyNot_247 (by decide) ?_
                  refine lv_goto (tgt := 252) B.1 B.2.1 dX5_whyNot_248 (by decide) ?_
                  exact e_i B hr hH hw dX5_whyNot_252
              · by_cases c30 : (a1 = 117)
                · replace hw := hw.2.2.2.2.2.2.2.1 c30
                  refine lv_tableIn (off := 173) (tgt := 174) B.1 B.2.1 dX5_whyNot_1 (by rw [c30]; decide) (by rw [c30]; decide) (by rw [c30]; rfl) (by decide) ?_
                  refine lv_aload_n B.1 B.2.1 dX5_whyNot_174 rfl (lv_at hl 0 rfl) ?_
                  refine lv_iload_n B.1 B.2.1 dX5_whyNot_175 rfl (lv_at hl 2 rfl) ?_
                  refine c_V_O (own := RX5) (As := [.int a2]) (rest := []) B hH (cy_X5_loopAt B.2.2.2.2.1) (ct_X5_loopAt B.2.2.2.2.2.2.2 l a0 a2 h _ _ (k0) hw) ⟨⟨rfl, rfl⟩, Nat.le_of_ble_eq_true rfl, Nat.le_of_ble_eq_true rfl, Nat.zero_le _, Nat.zero_le _⟩ (rv_2 B hH (k0)) (tw_495 B.2.2.2.2.1) rfl hl.1 rfl (Nat.le_of_ble_eq_true rfl) dX5_whyNot_176 ?_
                  clear hw hH
                  intro r32 h31 H locs hw hH
                  have kr32 := hw.2
                  replace hw := hw.1
                  refine c_S_I (own := RX5) (As := [va_re (zA Z) r32]) (rest := []) B hH (cy_X5_whyNotUnsplice B.2.2.2.2.1) (ct_X5_whyNotUnsplice B.2.2.2.2.2.2.2 l r32 h31 _ _ (kr32) hw) ⟨⟨rfl, rfl⟩, Nat.le_of_ble_eq_true rfl, Nat.le_of_ble_eq_true rfl, Nat.zero_le _, Nat.zero_le _⟩ (tw_503 B.2.2.2.2.1) rfl hl.1 rfl (Nat.le_of_ble_eq_true rfl) dX5_whyNot_179 ?_
                  clear hw hH
                  intro r34 h33 H locs hw hH
                  exact e_i B hr hH hw dX5_whyNot_182
                · by_cases c35 : (a1 = 118)
                  · replace hw := hw.2.2.2.2.2.2.2.2.1 c35
                    refine lv_tableIn (off := 182) (tgt := 183) B.1 B.2.1 dX5_whyNot_1 (by rw [c35]; decide) (by rw [c35]; decide) (by rw [c35]; rfl) (by decide) ?_
                    refine lv_aload_n B.1 B.2.1 dX5_whyNot_183 rfl (lv_at hl 0 rfl) ?_
                    refine lv_iload_n B.1 B.2.1 dX5_whyNot_184 rfl (lv_at hl 2 rfl) ?_
                    refine c_V_O (own := RX5) (As := [.int a2]) (rest := []) B hH (cy_X5_loopAt B.2.2.2.2.1) (ct_X5_loopAt B.2.2.2.2.2.2.2 l a0 a2 h _ _ (k0) hw) ⟨⟨rfl, rfl⟩, Nat.le_of_ble_eq_true rfl, Nat.le_of_ble_eq_true rfl, Nat.zero_le _, Nat.zero_le _⟩ (rv_2 B hH (k0)) (tw_495 B.2.2.2.2.1) rfl hl.1 rfl (Nat.le_of_ble_eq_true rfl) dX5_whyNot_185 ?_
                    clear hw hH
                    intro r37 h36 H locs hw hH
                    have kr37 := hw.2
                    replace hw := hw.1
                    refine x_ifnonnull (tgt := 195) B dX5_whyNot_188 (by decide) (fun j38 c39 => ?_) (fun c39 => ?_)
                    · replace hw := hw.2 j38 c39
                      have kj38 := kr37 j38 c39
                      subst c39
                      refine lv_iload_n B.1 B.2.1 dX5_whyNot_195 rfl (lv_at hl 3 rfl) ?_
                      refine lv_iconst (v := 1) B.1 B.2.1 dX5_whyNot_196 (by decide) ?_
                      refine lv_bipush (v := 9) B.1 B.2.1 dX5_whyNot_197 (by decide) ?_
                      refine c_SN_I (own := RX5) (As := [.int a3, .int 1, .int 9]) (rest := []) B hH (cy_X7_outside B.2.2.2.2.1) (ct_X7_outside B.2.2.2.2.2.2.2 l a3 1 9 h36 _ _  hw) ⟨⟨rfl, rfl⟩, Nat.le_of_ble_eq_true rfl, Nat.le_of_ble_eq_true rfl, Nat.zero_le _, Nat.zero_le _⟩ (tw_322 B.2.2.2.2.1) rfl hl.1 rfl (Nat.le_of_ble_eq_true rfl) dX5_whyNot_199 ?_
                      clear hw hH
                      intro r41 h40 H locs hw hH
                      refine lv_if_ne (tgt := 216) B.1 B.2.1 dX5_whyNot_202 (by decide) (fun c42 => ?_) (fun c42 => ?_)
                      · replace hw := hw.1 c42
                        refine lv_iconst (v := 2) B.1 B.2.1 dX5_whyNot_216 (by decide) ?_
                        refine lv_goto (tgt := 221) B.1 B.2.1 dX5_whyNot_217 (by decide) ?_
                        exact e_i B hr hH hw dX5_whyNot_221
                      · replace hw := hw.2 c42
                        refine lv_iload B.1 B.2.1 dX5_whyNot_205 (lv_at hl 4 rfl) ?_
                        refine lv_iconst (v := 1) B.1 B.2.1 dX5_whyNot_207 (by decide) ?_
                        refine lv_bipush (v := 9) B.1 B.2.1 dX5_whyNot_208 (by decide) ?_
                        refine c_SN_I (own := RX5) (As := [.int a4, .int 1, .int 9]) (rest := []) B hH (cy_X7_outside B.2.2.2.2.1) (ct_X7_outside B.2.2.2.2.2.2.2 l a4 1 9 h40 _ _  hw) ⟨⟨rfl, rfl⟩, Nat.le_of_ble_eq_true rfl, Nat.le_of_ble_eq_true rfl, Nat.zero_le _, Nat.zero_le _⟩ (tw_322 B.2.2.2.2.1) rfl hl.1 rfl (Nat.le_of_ble_eq_true rfl) dX5_whyNot_210 ?_
                        clear hw hH
                        intro r44 h43 H locs hw hH
                        refine lv_if_eq (tgt := 220) B.1 B.2.1 dX5_whyNot_213 (by decide) (fun c45 => ?_) (fun c45 => ?_)
                        · replace hw := hw.1 c45
                          refine lv_iconst (v := 0) B.1 B.2.1 dX5_whyNot_220 (by decide) ?_
                          exact e_i B hr hH hw dX5_whyNot_221
                        · replace hw := hw.2 c45
                          refine lv_iconst (v := 2) B.1 B.2.1 dX5_whyNot_216 (by decide) ?_
                          refine lv_goto (tgt := 221) B.1 B.2.1 dX5_whyNot_217 (by decide) ?_
                          exact e_i B hr hH hw dX5_whyNot_221
                    · replace hw := hw.1 c39
                      subst c39
                      refine lv_iconst (v := 1) B.1 B.2.1 dX5_whyNot_191 (by decide) ?_
                      refine lv_goto (tgt := 221) B.1 B.2.1 dX5_whyNot_192 (by decide) ?_
                      exact e_i B hr hH hw dX5_whyNot_221
                  · by_cases c46 : (a1 = 119)
                    · replace hw := hw.2.2.2.2.2.2.2.2.2.1 c46
                      refine lv_tableIn (off := 252) (tgt := 253) B.1 B.2.1 dX5_whyNot_1 (by rw [c46]; decide) (by rw [c46]; decide) (by rw [c46]; rfl) (by decide) ?_
                      refine lv_aload_n B.1 B.2.1 dX5_whyNot_253 rfl (lv_at hl 0 rfl) ?_
                      refine lv_iload_n B.1 B.2.1 dX5_whyNot_254 rfl (lv_at hl 2 rfl) ?_
                      refine c_V_O (own := RX5) (As := [.int a2]) (rest := []) B hH (cy_X5_reelAt B.2.2.2.2.1) (ct_X5_reelAt B.2.2.2.2.2.2.2 l a0 a2 h _ _ (k0) hw) ⟨⟨rfl, rfl⟩, Nat.le_of_ble_eq_true rfl, Nat.le_of_ble_eq_true rfl, Nat.zero_le _, Nat.zero_le _⟩ (rv_2 B hH (k0)) (tw_483 B.2.2.2.2.1) rfl hl.1 rfl (Nat.le_of_ble_eq_true rfl) dX5_whyNot_255 ?_
                      clear hw hH
                      intro r48 h47 H locs hw hH
                      have kr48 := hw.2
                      replace hw := hw.1
                      refine lv_iload_n B.1 B.2.1 dX5_whyNot_258 rfl (lv_at hl 3 rfl) ?_
                      refine c_S_I (own := RX5) (As := [va_re (zA Z) r48, .int a3]) (rest := []) B hH (cy_X5_whyNotRecord B.2.2.2.2.1) (ct_X5_whyNotRecord B.2.2.2.2.2.2.2 l r48 a3 h47 _ _ (kr48) hw) ⟨⟨rfl, rfl⟩, Nat.le_of_ble_eq_true rfl, Nat.le_of_ble_eq_true rfl, Nat.zero_le _, Nat.zero_le _⟩ (tw_507 B.2.2.2.2.1) rfl hl.1 rfl (Nat.le_of_ble_eq_true rfl) dX5_whyNot_259 ?_
                      clear hw hH
                      intro r50 h49 H locs hw hH
                      exact e_i B hr hH hw dX5_whyNot_262
                    · replace hw := hw.2.2.2.2.2.2.2.2.2.2 c1 (fun z => c8 (Or.inl z)) (fun z => c8 (Or.inr (Or.inl z))) (fun z => c8 (Or.inr (Or.inr (Or.inl z)))) (fun z => c8 (Or.inr (Or.inr (Or.inr (Or.inl z))))) (fun z => c8 (Or.inr (Or.inr (Or.inr (Or.inr (Or.inl z)))))) (fun z => c8 (Or.inr (Or.inr (Or.inr (Or.inr (Or.inr (Or.inl z))))))) (fun z => c8 (Or.inr (Or.inr (Or.inr (Or.inr (Or.inr (Or.inr (Or.inl z)))))))) (fun z => c8 (Or.inr (Or.inr (Or.inr (Or.inr (Or.inr (Or.inr (Or.inr (Or.inl z))))))))) c9 c11 (fun z => c8 (Or.inr (Or.inr (Or.inr (Or.inr (Or.inr (Or.inr (Or.inr (Or.inr (Or.inl z)))))))))) (fun z => c8 (Or.inr (Or.inr (Or.inr (Or.inr (Or.inr (Or.inr (Or.inr (Or.inr (Or.inr (Or.inl z))))))))))) c16 (fun z => c8 (Or.inr (Or.inr (Or.inr (Or.inr (Or.inr (Or.inr (Or.inr (Or.inr (Or.inr (Or.inr (Or.inl z)))))))))))) c21 (fun z => c8 (Or.inr (Or.inr (Or.inr (Or.inr (Or.inr (Or.inr (Or.inr (Or.inr (Or.inr (Or.inr (Or.inr z)))))))))))) c26 c30 c35 c46
                      have t99 := lv_neT (x := a1) (k := 99) (a := 99) c1 (by decide)
                      have t100 := lv_neT (x := a1) (k := 100) (a := 100) (fun z => c8 (Or.inl z)) (by decide)
                      have t101 := lv_neT (x := a1) (k := 101) (a := 101) (fun z => c8 (Or.inr (Or.inl z))) (by decide)
                      have t102 := lv_neT (x := a1) (k := 102) (a := 102) (fun z => c8 (Or.inr (Or.inr (Or.inl z)))) (by decide)
                      have t103 := lv_neT (x := a1) (k := 103) (a := 103) (fun z => c8 (Or.inr (Or.inr (Or.inr (Or.inl z))))) (by decide)
                      have t104 := lv_neT (x := a1) (k := 104) (a := 104) (fun z => c8 (Or.inr (Or.inr (Or.inr (Or.inr (Or.inl z)))))) (by decide)
                      have t105 := lv_neT (x := a1) (k := 105) (a := 105) (fun z => c8 (Or.inr (Or.inr (Or.inr (Or.inr (Or.inr (Or.inl z))))))) (by decide)
                      have t106 := lv_neT (x := a1) (k := 106) (a := 106) (fun z => c8 (Or.inr (Or.inr (Or.inr (Or.inr (Or.inr (Or.inr (Or.inl z)))))))) (by decide)
                      have t107 := lv_neT (x := a1) (k := 107) (a := 107) (fun z => c8 (Or.inr (Or.inr (Or.inr (Or.inr (Or.inr (Or.inr (Or.inr (Or.inl z))))))))) (by decide)
                      have t108 := lv_neT (x := a1) (k := 108) (a := 108) c9 (by decide)
                      have t109 := lv_neT (x := a1) (k := 109) (a := 109) c11 (by decide)
                      have t110 := lv_neT (x := a1) (k := 110) (a := 110) (fun z => c8 (Or.inr (Or.inr (Or.inr (Or.inr (Or.inr (Or.inr (Or.inr (Or.inr (Or.inl z)))))))))) (by decide)
                      have t111 := lv_neT (x := a1) (k := 111) (a := 111) (fun z => c8 (Or.inr (Or.inr (Or.inr (Or.inr (Or.inr (Or.inr (Or.inr (Or.inr (Or.inr (Or.inl z))))))))))) (by decide)
                      have t112 := lv_neT (x := a1) (k := 112) (a := 112) c16 (by decide)
                      have t113 := lv_neT (x := a1) (k := 113) (a := 113) (fun z => c8 (Or.inr (Or.inr (Or.inr (Or.inr (Or.inr (Or.inr (Or.inr (Or.inr (Or.inr (Or.inr (Or.inl z)))))))))))) (by decide)
                      have t114 := lv_neT (x := a1) (k := 114) (a := 114) c21 (by decide)
                      have t115 := lv_neT (x := a1) (k := 115) (a := 115) (fun z => c8 (Or.inr (Or.inr (Or.inr (Or.inr (Or.inr (Or.inr (Or.inr (Or.inr (Or.inr (Or.inr (Or.inr z)))))))))))) (by decide)
                      have t116 := lv_neT (x := a1) (k := 116) (a := 116) c26 (by decide)
                      have t117 := lv_neT (x := a1) (k := 117) (a := 117) c30 (by decide)
                      have t118 := lv_neT (x := a1) (k := 118) (a := 118) c35 (by decide)
                      have t119 := lv_neT (x := a1) (k := 119) (a := 119) c46 (by decide)
                      refine lv_tableOut (tgt := 263) B.1 B.2.1 dX5_whyNot_1 (by omega) (by decide) ?_
                      refine lv_iconst (v := 3) B.1 B.2.1 dX5_whyNot_263 (by decide) ?_
                      exact e_i B hr hH hw dX5_whyNot_264
theorem cy_X5_addLoop {s : State} {args : Array Value} (hG : GG s) : CYV s args yX5_addLoop cX5_addLoop 2 (some .int) 0 := CYV.of hG (fun _ _ hG => tw_541 hG) (tw_2 hG) (tw_540 hG) (tp_27 hG) (by decide +kernel)
set_option maxRecDepth 100000 in
set_option maxHeartbeats 4000000 in
theorem ct_X5_addLoop {Z : ZT} (hZ : ZO Z) (l : Launch) (a0 : Nat) (h : PH) (sz : Nat) (Q : Int32 → PH → Prop) (k0 : kd a0 = 2) (hw : wp_X5_addLoop a0 h Q) : MI Z l yX5_addLoop cX5_addLoop 2 (some .int) ({ frames := 2, cells := 0, slots := 0, locals := 43 } : Room) h sz [.ref (zA Z a0)] Q := by
  refine open_M hZ (by decide +kernel) (by exact Nat.le_of_ble_eq_true rfl) ?_
  intro p e s m below meth c B hr hsz ls hl hH
  subst hsz
  have hl : lv_has ls 2 [(0, .ref (zA Z a0))] := hl
  unfold wp_X5_addLoop at hw
  refine lv_aload_n B.1 B.2.1 dX5_addLoop_0 rfl (lv_at hl 0 rfl) ?_
  refine lv_dup B.1 B.2.1 dX5_addLoop_1 rfl ?_
  refine r_get B hH (own := RX5) (kd_n B (k0) (by decide) (by decide)) (ct_2 (k0)) rfl (ul_2 B.2.2.2.2.1) 3 (by decide) rfl (tw_103 B.2.2.2.2.1) dX5_addLoop_2 ?_
  refine lv_iconst (v := 1) B.1 B.2.1 dX5_addLoop_5 (by decide) ?_
  refine lv_iadd B.1 B.2.1 dX5_addLoop_6 ?_
  refine r_put B hH (own := RX5) (kd_n B (k0) (by decide) (by decide)) (ct_2 (k0)) rfl (ul_2 B.2.2.2.2.1) tyX5 tyX5_ok nmX5 3 (by decide) (ty := .int) rfl rfl rfl rfl (Nat.le_of_ble_eq_true rfl) (cs_2_3 (k0)) (tw_103 B.2.2.2.2.1) dX5_addLoop_7 ?_
  clear hH
  intro H locs hH
  obtain ⟨h1, eh1⟩ : ∃ z : PH, z = up2 h a0 3 ((h a0 3) + 1) := ⟨_, rfl⟩
  rw [← eh1] at hH
  replace hw := hw h1 eh1
  refine lv_aload_n B.1 B.2.1 dX5_addLoop_10 rfl (lv_at hl 0 rfl) ?_
  refine lv_aload_n B.1 B.2.1 dX5_addLoop_11 rfl (lv_at hl 0 rfl) ?_
  refine r_get B hH (own := RX5) (kd_n B (k0) (by decide) (by decide)) (ct_2 (k0)) rfl (ul_2 B.2.2.2.2.1) 3 (by decide) rfl (tw_103 B.2.2.2.2.1) dX5_addLoop_12 ?_
  refine lv_iconst (v := 1) B.1 B.2.1 dX5_addLoop_15 (by decide) ?_
  refine lv_isub B.1 B.2.1 dX5_addLoop_16 ?_
  refine c_V_O (own := RX5) (As := [.int ((h1 a0 3) - 1)]) (rest := []) B hH (cy_X5_loopAt B.2.2.2.2.1) (ct_X5_loopAt B.2.2.2.2.2.2.2 l a0 ((h1 a0 3) - 1) h1 _ _ (k0) hw) ⟨⟨rfl, rfl⟩, Nat.le_of_ble_eq_true rfl, Nat.le_of_ble_eq_true rfl, Nat.zero_le _, Nat.zero_le _⟩ (rv_2 B hH (k0)) (tw_495 B.2.2.2.2.1) rfl hl.1 rfl (Nat.le_of_ble_eq_true rfl) dX5_addLoop_17 ?_
  clear hw hH
  intro r3 h2 H locs hw hH
  have kr3 := hw.2
  replace hw := hw.1
  refine x_astore_n (lv' := [(1, va_re (zA Z) r3), (0, .ref (zA Z a0))]) B dX5_addLoop_20 rfl hl (by decide) (by first | rfl | simp [va_re_cat]) ?_
  clear hl
  intro ls hl
  refine x_aload_n B dX5_addLoop_21 rfl (lv_at hl 0 rfl) ?_
  refine x_ifnull (tgt := 29) B dX5_addLoop_22 (by decide) (fun c5 => ?_) (fun j4 c5 => ?_)
  · replace hw := hw.1 c5
    subst c5
    refine lv_aload_n B.1 B.2.1 dX5_addLoop_29 rfl (lv_at hl 1 rfl) ?_
    refine r_get B hH (own := RX5) (kd_n B (k0) (by decide) (by decide)) (ct_2 (k0)) rfl (ul_2 B.2.2.2.2.1) 3 (by decide) rfl (tw_103 B.2.2.2.2.1) dX5_addLoop_30 ?_
    refine lv_iconst (v := 1) B.1 B.2.1 dX5_addLoop_33 (by decide) ?_
    refine lv_isub B.1 B.2.1 dX5_addLoop_34 ?_
    exact e_i B hr hH hw dX5_addLoop_35
  · replace hw := hw.2 j4 c5
    have kj4 := kr3 j4 c5
    subst c5
    refine lv_aload_n B.1 B.2.1 dX5_addLoop_25 rfl (lv_at hl 0 rfl) ?_
    refine c_VN_V (own := RX5) (As := []) (rest := []) B hH (cy_X0_begin B.2.2.2.2.1) (ct_X0_begin B.2.2.2.2.2.2.2 l j4 h2 _ _ (kj4) hw) ⟨⟨rfl, rfl⟩, Nat.le_of_ble_eq_true rfl, Nat.le_of_ble_eq_true rfl, Nat.zero_le _, Nat.zero_le _⟩ (rv_4 B hH (kj4)) (tw_542 B.2.2.2.2.1) rfl hl.1 rfl (Nat.le_of_ble_eq_true rfl) dX5_addLoop_26 ?_
    clear hw hH
    intro h6 H locs hw hH
    refine lv_aload_n B.1 B.2.1 dX5_addLoop_29 rfl (lv_at hl 1 rfl) ?_
    refine r_get B hH (own := RX5) (kd_n B (k0) (by decide) (by decide)) (ct_2 (k0)) rfl (ul_2 B.2.2.2.2.1) 3 (by decide) rfl (tw_103 B.2.2.2.2.1) dX5_addLoop_30 ?_
    refine lv_iconst (v := 1) B.1 B.2.1 dX5_addLoop_33 (by decide) ?_
    refine lv_isub B.1 B.2.1 dX5_addLoop_34 ?_
    exact e_i B hr hH hw dX5_addLoop_35
theorem cy_X5_addReel {s : State} {args : Array Value} (hG : GG s) : CYV s args yX5_addReel cX5_addReel 3 (some .int) 1 := CYV.of hG (fun _ _ hG => tw_525 hG) (tw_2 hG) (tw_524 hG) (tp_24 hG) (by decide +kernel)
set_option maxRecDepth 100000 in
set_option maxHeartbeats 4000000 in
theorem ct_X5_addReel {Z : ZT} (hZ : ZO Z) (l : Launch) (a0 : Nat) (a1 : Int32) (h : PH) (sz : Nat) (Q : Int32 → PH → Prop) (k0 : kd a0 = 2) (hw : wp_X5_addReel a0 a1 h Q) : MI Z l yX5_addReel cX5_addReel 3 (some .int) ({ frames := 2, cells := 0, slots := 0, locals := 43 } : Room) h sz [.ref (zA Z a0), .int a1] Q := by
  refine open_M hZ (by decide +kernel) (by exact Nat.le_of_ble_eq_true rfl) ?_
  intro p e s m below meth c B hr hsz ls hl hH
  subst hsz
  have hl : lv_has ls 3 [(0, .ref (zA Z a0)), (1, .int a1)] := hl
  unfold wp_X5_addReel at hw
  refine lv_aload_n B.1 B.2.1 dX5_addReel_0 rfl (lv_at hl 0 rfl) ?_
  refine lv_dup B.1 B.2.1 dX5_addReel_1 rfl ?_
  refine r_get B hH (own := RX5) (kd_n B (k0) (by decide) (by decide)) (ct_2 (k0)) rfl (ul_2 B.2.2.2.2.1) 2 (by decide) rfl (tw_101 B.2.2.2.2.1) dX5_addReel_2 ?_
  refine lv_iconst (v := 1) B.1 B.2.1 dX5_addReel_5 (by decide) ?_
  refine lv_iadd B.1 B.2.1 dX5_addReel_6 ?_
  refine r_put B hH (own := RX5) (kd_n B (k0) (by decide) (by decide)) (ct_2 (k0)) rfl (ul_2 B.2.2.2.2.1) tyX5 tyX5_ok nmX5 2 (by decide) (ty := .int) rfl rfl rfl rfl (Nat.le_of_ble_eq_true rfl) (cs_2_2 (k0)) (tw_101 B.2.2.2.2.1) dX5_addReel_7 ?_
  clear hH
  intro H locs hH
  obtain ⟨h1, eh1⟩ : ∃ z : PH, z = up2 h a0 2 ((h a0 2) + 1) := ⟨_, rfl⟩
  rw [← eh1] at hH
  replace hw := hw h1 eh1
  refine lv_aload_n B.1 B.2.1 dX5_addReel_10 rfl (lv_at hl 0 rfl) ?_
  refine lv_aload_n B.1 B.2.1 dX5_addReel_11 rfl (lv_at hl 0 rfl) ?_
  refine r_get B hH (own := RX5) (kd_n B (k0) (by decide) (by decide)) (ct_2 (k0)) rfl (ul_2 B.2.2.2.2.1) 2 (by decide) rfl (tw_101 B.2.2.2.2.1) dX5_addReel_12 ?_
  refine lv_iconst (v := 1) B.1 B.2.1 dX5_addReel_15 (by decide) ?_
  refine lv_isub B.1 B.2.1 dX5_addReel_16 ?_
  refine c_V_O (own := RX5) (As := [.int ((h1 a0 2) - 1)]) (rest := []) B hH (cy_X5_reelAt B.2.2.2.2.1) (ct_X5_reelAt B.2.2.2.2.2.2.2 l a0 ((h1 a0 2) - 1) h1 _ _ (k0) hw) ⟨⟨rfl, rfl⟩, Nat.le_of_ble_eq_true rfl, Nat.le_of_ble_eq_true rfl, Nat.zero_le _, Nat.zero_le _⟩ (rv_2 B hH (k0)) (tw_483 B.2.2.2.2.1) rfl hl.1 rfl (Nat.le_of_ble_eq_true rfl) dX5_addReel_17 ?_
  clear hw hH
  intro r3 h2 H locs hw hH
  have kr3 := hw.2
  replace hw := hw.1
  refine x_astore_n (lv' := [(2, va_re (zA Z) r3), (0, .ref (zA Z a0)), (1, .int a1)]) B dX5_addReel_20 rfl hl (by decide) (by first | rfl | simp [va_re_cat]) ?_
  clear hl
  intro ls hl
  refine x_aload_n B dX5_addReel_21 rfl (lv_at hl 0 rfl) ?_
  refine x_ifnull (tgt := 30) B dX5_addReel_22 (by decide) (fun c5 => ?_) (fun j4 c5 => ?_)
  · replace hw := hw.1 c5
    subst c5
    refine lv_aload_n B.1 B.2.1 dX5_addReel_30 rfl (lv_at hl 1 rfl) ?_
    refine r_get B hH (own := RX5) (kd_n B (k0) (by decide) (by decide)) (ct_2 (k0)) rfl (ul_2 B.2.2.2.2.1) 2 (by decide) rfl (tw_101 B.2.2.2.2.1) dX5_addReel_31 ?_
    refine lv_iconst (v := 1) B.1 B.2.1 dX5_addReel_34 (by decide) ?_
    refine lv_isub B.1 B.2.1 dX5_addReel_35 ?_
    exact e_i B hr hH hw dX5_addReel_36
  · replace hw := hw.2 j4 c5
    have kj4 := kr3 j4 c5
    subst c5
    refine lv_aload_n B.1 B.2.1 dX5_addReel_25 rfl (lv_at hl 0 rfl) ?_
    refine lv_iload_n B.1 B.2.1 dX5_addReel_26 rfl (lv_at hl 2 rfl) ?_
    refine c_VN_V (own := RX5) (As := [.int a1]) (rest := []) B hH (cy_X3_begin B.2.2.2.2.1) (ct_X3_begin B.2.2.2.2.2.2.2 l j4 a1 h2 _ _ (kj4) hw) ⟨⟨rfl, rfl⟩, Nat.le_of_ble_eq_true rfl, Nat.le_of_ble_eq_true rfl, Nat.zero_le _, Nat.zero_le _⟩ (rv_3 B hH (kj4)) (tw_526 B.2.2.2.2.1) rfl hl.1 rfl (Nat.le_of_ble_eq_true rfl) dX5_addReel_27 ?_
    clear hw hH
    intro h6 H locs hw hH
    refine lv_aload_n B.1 B.2.1 dX5_addReel_30 rfl (lv_at hl 1 rfl) ?_
    refine r_get B hH (own := RX5) (kd_n B (k0) (by decide) (by decide)) (ct_2 (k0)) rfl (ul_2 B.2.2.2.2.1) 2 (by decide) rfl (tw_101 B.2.2.2.2.1) dX5_addReel_31 ?_
    refine lv_iconst (v := 1) B.1 B.2.1 dX5_addReel_34 (by decide) ?_
    refine lv_isub B.1 B.2.1 dX5_addReel_35 ?_
    exact e_i B hr hH hw dX5_addReel_36
theorem cy_X5_changeMuted {s : State} {args : Array Value} (hG : GG s) : CYV s args yX5_changeMuted cX5_changeMuted 3 (some .int) 2 := CYV.of hG (fun _ _ hG => tw_577 hG) (tw_2 hG) (tw_576 hG) (tp_34 hG) (by decide +kernel)
set_option maxRecDepth 100000 in
set_option maxHeartbeats 4000000 in
theorem ct_X5_changeMuted {Z : ZT} (hZ : ZO Z) (l : Launch) (a0 : Nat) (a1 : Option Nat) (a2 : Int32) (h : PH) (sz : Nat) (Q : Int32 → PH → Prop) (k0 : kd a0 = 2) (k1 : ∀ j, a1 = some j → kd j = 4) (hw : wp_X5_changeMuted a0 a1 a2 h Q) : MI Z l yX5_changeMuted cX5_changeMuted 3 (some .int) ({ frames := 3, cells := 0, slots := 0, locals := 67 } : Room) h sz [.ref (zA Z a0), va_re (zA Z) a1, .int a2] Q := by
  refine open_M hZ (by decide +kernel) (by rcases a1 with _ | _ <;> exact Nat.le_of_ble_eq_true rfl) ?_
  intro p e s m below meth c B hr hsz ls hl hH
  subst hsz
  have hl : lv_has ls 3 [(0, .ref (zA Z a0)), (1, va_re (zA Z) a1), (2, .int a2)] := by
    have e9 : lv_args 0 [.ref (zA Z a0), va_re (zA Z) a1, .int a2] = [(0, .ref (zA Z a0)), (1, va_re (zA Z) a1), (2, .int a2)] := by rcases a1 with _ | _ <;> rfl
    rw [e9] at hl
    exact hl
  unfold wp_X5_changeMuted at hw
  refine x_aload_n B dX5_changeMuted_0 rfl (lv_at hl 1 rfl) ?_
  refine x_ifnull (tgt := 9) B dX5_changeMuted_1 (by decide) (fun c2 => ?_) (fun j1 c2 => ?_)
  · replace hw := hw.1 c2
    subst c2
    refine lv_aload_n B.1 B.2.1 dX5_changeMuted_9 rfl (lv_at hl 0 rfl) ?_
    refine lv_iconst (v := 0) B.1 B.2.1 dX5_changeMuted_10 (by decide) ?_
    refine c_V_I (own := RX5) (As := [.int 0]) (rest := []) B hH (cy_X5_soundBehind B.2.2.2.2.1) (ct_X5_soundBehind B.2.2.2.2.2.2.2 l a0 0 h _ _ (k0) hw) ⟨⟨rfl, rfl⟩, Nat.le_of_ble_eq_true rfl, Nat.le_of_ble_eq_true rfl, Nat.zero_le _, Nat.zero_le _⟩ (rv_2 B hH (k0)) (tw_578 B.2.2.2.2.1) rfl hl.1 rfl (Nat.le_of_ble_eq_true rfl) dX5_changeMuted_11 ?_
    clear hw hH
    intro r4 h3 H locs hw hH
    exact e_i B hr hH hw dX5_changeMuted_14
  · replace hw := hw.2 j1 c2
    have kj1 := k1 j1 c2
    subst c2
    refine lv_aload_n B.1 B.2.1 dX5_changeMuted_4 rfl (lv_at hl 1 rfl) ?_
    refine lv_iload_n B.1 B.2.1 dX5_changeMuted_5 rfl (lv_at hl 2 rfl) ?_
    have q5 := hw.1
    replace hw := hw.2
    refine r_putN B hH (own := RX5) (kd_n B (kj1) (by decide) (by decide)) (ct_4 (kj1)) rfl (ul_4 B.2.2.2.2.1) tyX0 tyX0_ok nmX0 7 (by decide) (ty := .boolean) rfl (nz_b q5) (fz_b q5) rfl (Nat.le_of_ble_eq_true rfl) (cs_4_7 (kj1)) (tw_80 B.2.2.2.2.1) dX5_changeMuted_6 ?_
    clear hH
    intro H locs hH
    obtain ⟨h6, eh6⟩ : ∃ z : PH, z = up2 h j1 7 a2 := ⟨_, rfl⟩
    rw [← eh6] at hH
    replace hw := hw h6 eh6
    refine lv_aload_n B.1 B.2.1 dX5_changeMuted_9 rfl (lv_at hl 0 rfl) ?_
    refine lv_iconst (v := 0) B.1 B.2.1 dX5_changeMuted_10 (by decide) ?_
    refine c_V_I (own := RX5) (As := [.int 0]) (rest := []) B hH (cy_X5_soundBehind B.2.2.2.2.1) (ct_X5_soundBehind B.2.2.2.2.2.2.2 l a0 0 h6 _ _ (k0) hw) ⟨⟨rfl, rfl⟩, Nat.le_of_ble_eq_true rfl, Nat.le_of_ble_eq_true rfl, Nat.zero_le _, Nat.zero_le _⟩ (rv_2 B hH (k0)) (tw_578 B.2.2.2.2.1) rfl hl.1 rfl (Nat.le_of_ble_eq_true rfl) dX5_changeMuted_11 ?_
    clear hw hH
    intro r8 h7 H locs hw hH
    exact e_i B hr hH hw dX5_changeMuted_14
