theorem cy_X8_isQuiet {s : State} {args : Array Value} (hG : GG s) : CYS s args yX8_isQuiet cX8_isQuiet 3 (some .boolean) 3 := CYS.of hG (fun _ _ hG => tw_1094 hG) (tw_8 hG) (tw_1093 hG) (by decide +kernel)
set_option maxRecDepth 100000 in
set_option maxHeartbeats 4000000 in
theorem ct_X8_isQuiet {Z : ZT} (hZ : ZO Z) (l : Launch) (a0 : Nat) (a1 : Int32) (a2 : Int32) (h : PH) (sz : Nat) (Q : Int32 → PH → Prop) (k0 : kd a0 = 10) (hw : wp_X8_isQuiet a0 a1 a2 h Q) : MI Z l yX8_isQuiet cX8_isQuiet 3 (some .boolean) ({ frames := 1, cells := 0, slots := 0, locals := 22 } : Room) h sz [.ref (zA Z a0), .int a1, .int a2] Q := by
  refine open_M hZ (by decide +kernel) (by exact Nat.le_of_ble_eq_true rfl) ?_
  intro p e s m below meth c B hr hsz ls hl hH
  subst hsz
  have hl : lv_has ls 3 [(0, .ref (zA Z a0)), (1, .int a1), (2, .int a2)] := hl
  unfold wp_X8_isQuiet at hw
  refine lv_iload_n B.1 B.2.1 dX8_isQuiet_0 rfl (lv_at hl 2 rfl) ?_
  refine lv_if_eq (tgt := 33) B.1 B.2.1 dX8_isQuiet_1 (by decide) (fun c1 => ?_) (fun c1 => ?_)
  · replace hw := hw.1 c1
    refine lv_iconst (v := 1) B.1 B.2.1 dX8_isQuiet_33 (by decide) ?_
    refine lv_goto (tgt := 38) B.1 B.2.1 dX8_isQuiet_34 (by decide) ?_
    exact e_z B hr (by decide) hH hw dX8_isQuiet_38
  · replace hw := hw.2 c1
    refine lv_iload_n B.1 B.2.1 dX8_isQuiet_4 rfl (lv_at hl 2 rfl) ?_
    refine lv_aload_n B.1 B.2.1 dX8_isQuiet_5 rfl (lv_at hl 0 rfl) ?_
    refine lv_iload_n B.1 B.2.1 dX8_isQuiet_6 rfl (lv_at hl 1 rfl) ?_
    refine c_S_I (own := RX8) (As := [.ref (zA Z a0), .int a1]) (rest := [.int a2]) B hH (cy_X8_cells B.2.2.2.2.1) (ct_X8_cells B.2.2.2.2.2.2.2 l a0 a1 h _ _ (k0) hw) ⟨⟨rfl, rfl⟩, Nat.le_of_ble_eq_true rfl, Nat.le_of_ble_eq_true rfl, Nat.zero_le _, Nat.zero_le _⟩ (tw_1063 B.2.2.2.2.1) rfl hl.1 rfl (Nat.le_of_ble_eq_true rfl) dX8_isQuiet_7 ?_
    clear hw hH
    intro r3 h2 H locs hw hH
    refine lv_icmp_eq (tgt := 33) B.1 B.2.1 dX8_isQuiet_10 (by decide) (fun c4 => ?_) (fun c4 => ?_)
    · replace hw := hw.1 c4
      refine lv_iconst (v := 1) B.1 B.2.1 dX8_isQuiet_33 (by decide) ?_
      refine lv_goto (tgt := 38) B.1 B.2.1 dX8_isQuiet_34 (by decide) ?_
      exact e_z B hr (by decide) hH hw dX8_isQuiet_38
    · replace hw := hw.2 c4
      refine lv_aload_n B.1 B.2.1 dX8_isQuiet_13 rfl (lv_at hl 0 rfl) ?_
      refine lv_iload_n B.1 B.2.1 dX8_isQuiet_14 rfl (lv_at hl 1 rfl) ?_
      refine lv_iload_n B.1 B.2.1 dX8_isQuiet_15 rfl (lv_at hl 2 rfl) ?_
      refine lv_iconst (v := 1) B.1 B.2.1 dX8_isQuiet_16 (by decide) ?_
      refine lv_isub B.1 B.2.1 dX8_isQuiet_17 ?_
      refine c_S_I (own := RX8) (As := [.ref (zA Z a0), .int a1, .int (a2 - 1)]) (rest := []) B hH (cy_X8_soundAt B.2.2.2.2.1) (ct_X8_soundAt B.2.2.2.2.2.2.2 l a0 a1 (a2 - 1) h2 _ _ (k0) hw) ⟨⟨rfl, rfl⟩, Nat.le_of_ble_eq_true rfl, Nat.le_of_ble_eq_true rfl, Nat.zero_le _, Nat.zero_le _⟩ (tw_1095 B.2.2.2.2.1) rfl hl.1 rfl (Nat.le_of_ble_eq_true rfl) dX8_isQuiet_18 ?_
      clear hw hH
      intro r6 h5 H locs hw hH
      refine lv_if_ne (tgt := 37) B.1 B.2.1 dX8_isQuiet_21 (by decide) (fun c7 => ?_) (fun c7 => ?_)
      · replace hw := hw.1 c7
        refine lv_iconst (v := 0) B.1 B.2.1 dX8_isQuiet_37 (by decide) ?_
        exact e_z B hr (by decide) hH hw dX8_isQuiet_38
      · replace hw := hw.2 c7
        refine lv_aload_n B.1 B.2.1 dX8_isQuiet_24 rfl (lv_at hl 0 rfl) ?_
        refine lv_iload_n B.1 B.2.1 dX8_isQuiet_25 rfl (lv_at hl 1 rfl) ?_
        refine lv_iload_n B.1 B.2.1 dX8_isQuiet_26 rfl (lv_at hl 2 rfl) ?_
        refine c_S_I (own := RX8) (As := [.ref (zA Z a0), .int a1, .int a2]) (rest := []) B hH (cy_X8_soundAt B.2.2.2.2.1) (ct_X8_soundAt B.2.2.2.2.2.2.2 l a0 a1 a2 h5 _ _ (k0) hw) ⟨⟨rfl, rfl⟩, Nat.le_of_ble_eq_true rfl, Nat.le_of_ble_eq_true rfl, Nat.zero_le _, Nat.zero_le _⟩ (tw_1095 B.2.2.2.2.1) rfl hl.1 rfl (Nat.le_of_ble_eq_true rfl) dX8_isQuiet_27 ?_
        clear hw hH
        intro r9 h8 H locs hw hH
        refine lv_if_ne (tgt := 37) B.1 B.2.1 dX8_isQuiet_30 (by decide) (fun c10 => ?_) (fun c10 => ?_)
        · replace hw := hw.1 c10
          refine lv_iconst (v := 0) B.1 B.2.1 dX8_isQuiet_37 (by decide) ?_
          exact e_z B hr (by decide) hH hw dX8_isQuiet_38
        · replace hw := hw.2 c10
          refine lv_iconst (v := 1) B.1 B.2.1 dX8_isQuiet_33 (by decide) ?_
          refine lv_goto (tgt := 38) B.1 B.2.1 dX8_isQuiet_34 (by decide) ?_
          exact e_z B hr (by decide) hH hw dX8_isQuiet_38
theorem cy_X8_begins {s : State} {args : Array Value} (hG : GG s) : CYS s args yX8_begins cX8_begins 4 (some .boolean) 4 := CYS.of hG (fun _ _ hG => tw_1154 hG) (tw_8 hG) (tw_1153 hG) (by decide +kernel)
set_option maxRecDepth 100000 in
set_option maxHeartbeats 4000000 in
theorem ct_X8_begins {Z : ZT} (hZ : ZO Z) (l : Launch) (a0 : Nat) (a1 : Int32) (a2 : Int32) (a3 : Int32) (h : PH) (sz : Nat) (Q : Int32 → PH → Prop) (k0 : kd a0 = 10) (hw : wp_X8_begins a0 a1 a2 a3 h Q) : MI Z l yX8_begins cX8_begins 4 (some .boolean) ({ frames := 1, cells := 0, slots := 0, locals := 22 } : Room) h sz [.ref (zA Z a0), .int a1, .int a2, .int a3] Q := by
  refine open_M hZ (by decide +kernel) (by exact Nat.le_of_ble_eq_true rfl) ?_
  intro p e s m below meth c B hr hsz ls hl hH
  subst hsz
  have hl : lv_has ls 4 [(0, .ref (zA Z a0)), (1, .int a1), (2, .int a2), (3, .int a3)] := hl
  unfold wp_X8_begins at hw
  refine lv_aload_n B.1 B.2.1 dX8_begins_0 rfl (lv_at hl 0 rfl) ?_
  refine lv_iload_n B.1 B.2.1 dX8_begins_1 rfl (lv_at hl 1 rfl) ?_
  refine lv_iload_n B.1 B.2.1 dX8_begins_2 rfl (lv_at hl 2 rfl) ?_
  refine c_S_I (own := RX8) (As := [.ref (zA Z a0), .int a1, .int a2]) (rest := []) B hH (cy_X8_soundAt B.2.2.2.2.1) (ct_X8_soundAt B.2.2.2.2.2.2.2 l a0 a1 a2 h _ _ (k0) hw) ⟨⟨rfl, rfl⟩, Nat.le_of_ble_eq_true rfl, Nat.le_of_ble_eq_true rfl, Nat.zero_le _, Nat.zero_le _⟩ (tw_1095 B.2.2.2.2.1) rfl hl.1 rfl (Nat.le_of_ble_eq_true rfl) dX8_begins_3 ?_
  clear hw hH
  intro r2 h1 H locs hw hH
  refine lv_if_ne (tgt := 13) B.1 B.2.1 dX8_begins_6 (by decide) (fun c3 => ?_) (fun c3 => ?_)
  · replace hw := hw.1 c3
    refine lv_iconst (v := 0) B.1 B.2.1 dX8_begins_13 (by decide) ?_
    refine lv_iload_n B.1 B.2.1 dX8_begins_14 rfl (lv_at hl 3 rfl) ?_
    refine lv_icmp_ne (tgt := 46) B.1 B.2.1 dX8_begins_15 (by decide) (fun c4 => ?_) (fun c4 => ?_)
    · replace hw := hw.1 c4
      refine lv_iconst (v := 0) B.1 B.2.1 dX8_begins_46 (by decide) ?_
      exact e_z B hr (by decide) hH hw dX8_begins_47
    · replace hw := hw.2 c4
      refine lv_iload_n B.1 B.2.1 dX8_begins_18 rfl (lv_at hl 2 rfl) ?_
      refine lv_if_eq (tgt := 42) B.1 B.2.1 dX8_begins_19 (by decide) (fun c5 => ?_) (fun c5 => ?_)
      · replace hw := hw.1 c5
        refine lv_iconst (v := 1) B.1 B.2.1 dX8_begins_42 (by decide) ?_
        refine lv_goto (tgt := 47) B.1 B.2.1 dX8_begins_43 (by decide) ?_
        exact e_z B hr (by decide) hH hw dX8_begins_47
      · replace hw := hw.2 c5
        refine lv_aload_n B.1 B.2.1 dX8_begins_22 rfl (lv_at hl 0 rfl) ?_
        refine lv_iload_n B.1 B.2.1 dX8_begins_23 rfl (lv_at hl 1 rfl) ?_
        refine lv_iload_n B.1 B.2.1 dX8_begins_24 rfl (lv_at hl 2 rfl) ?_
        refine lv_iconst (v := 1) B.1 B.2.1 dX8_begins_25 (by decide) ?_
        refine lv_isub B.1 B.2.1 dX8_begins_26 ?_
        refine c_S_I (own := RX8) (As := [.ref (zA Z a0), .int a1, .int (a2 - 1)]) (rest := []) B hH (cy_X8_soundAt B.2.2.2.2.1) (ct_X8_soundAt B.2.2.2.2.2.2.2 l a0 a1 (a2 - 1) h1 _ _ (k0) hw) ⟨⟨rfl, rfl⟩, Nat.le_of_ble_eq_true rfl, Nat.le_of_ble_eq_true rfl, Nat.zero_le _, Nat.zero_le _⟩ (tw_1095 B.2.2.2.2.1) rfl hl.1 rfl (Nat.le_of_ble_eq_true rfl) dX8_begins_27 ?_
        clear hw hH
        intro r7 h6 H locs hw hH
        refine lv_if_ne (tgt := 37) B.1 B.2.1 dX8_begins_30 (by decide) (fun c8 => ?_) (fun c8 => ?_)
        · replace hw := hw.1 c8
          refine lv_iconst (v := 0) B.1 B.2.1 dX8_begins_37 (by decide) ?_
          refine lv_iload_n B.1 B.2.1 dX8_begins_38 rfl (lv_at hl 3 rfl) ?_
          refine lv_icmp_eq (tgt := 46) B.1 B.2.1 dX8_begins_39 (by decide) (fun c9 => ?_) (fun c9 => ?_)
          · replace hw := hw.1 c9
            refine lv_iconst (v := 0) B.1 B.2.1 dX8_begins_46 (by decide) ?_
            exact e_z B hr (by decide) hH hw dX8_begins_47
          · replace hw := hw.2 c9
            refine lv_iconst (v := 1) B.1 B.2.1 dX8_begins_42 (by decide) ?_
            refine lv_goto (tgt := 47) B.1 B.2.1 dX8_begins_43 (by decide) ?_
            exact e_z B hr (by decide) hH hw dX8_begins_47
        · replace hw := hw.2 c8
          refine lv_iconst (v := 1) B.1 B.2.1 dX8_begins_33 (by decide) ?_
          refine lv_goto (tgt := 38) B.1 B.2.1 dX8_begins_34 (by decide) ?_
          refine lv_iload_n B.1 B.2.1 dX8_begins_38 rfl (lv_at hl 3 rfl) ?_
          refine lv_icmp_eq (tgt := 46) B.1 B.2.1 dX8_begins_39 (by decide) (fun c10 => ?_) (fun c10 => ?_)
          · replace hw := hw.1 c10
            refine lv_iconst (v := 0) B.1 B.2.1 dX8_begins_46 (by decide) ?_
            exact e_z B hr (by decide) hH hw dX8_begins_47
          · replace hw := hw.2 c10
            refine lv_iconst (v := 1) B.1 B.2.1 dX8_begins_42 (by decide) ?_
            refine lv_goto (tgt := 47) B.1 B.2.1 dX8_begins_43 (by decide) ?_
            exact e_z B hr (by decide) hH hw dX8_begins_47
  · replace hw := hw.2 c3
    refine lv_iconst (v := 1) B.1 B.2.1 dX8_begins_9 (by decide) ?_
    refine lv_goto (tgt := 14) B.1 B.2.1 dX8_begins_10 (by decide) ?_
    refine lv_iload_n B.1 B.2.1 dX8_begins_14 rfl (lv_at hl 3 rfl) ?_
    refine lv_icmp_ne (tgt := 46) B.1 B.2.1 dX8_begins_15 (by decide) (fun c11 => ?_) (fun c11 => ?_)
    · replace hw := hw.1 c11
      refine lv_iconst (v := 0) B.1 B.2.1 dX8_begins_46 (by decide) ?_
      exact e_z B hr (by decide) hH hw dX8_begins_47
    · replace hw := hw.2 c11
      refine lv_iload_n B.1 B.2.1 dX8_begins_18 rfl (lv_at hl 2 rfl) ?_
      refine lv_if_eq (tgt := 42) B.1 B.2.1 dX8_begins_19 (by decide) (fun c12 => ?_) (fun c12 => ?_)
      · replace hw := hw.1 c12
        refine lv_iconst (v := 1) B.1 B.2.1 dX8_begins_42 (by decide) ?_
        refine lv_goto (tgt := 47) B.1 B.2.1 dX8_begins_43 (by decide) ?_
        exact e_z B hr (by decide) hH hw dX8_begins_47
      · replace hw := hw.2 c12
        refine lv_aload_n B.1 B.2.1 dX8_begins_22 rfl (lv_at hl 0 rfl) ?_
        refine lv_iload_n B.1 B.2.1 dX8_begins_23 rfl (lv_at hl 1 rfl) ?_
        refine lv_iload_n B.1 B.2.1 dX8_begins_24 rfl (lv_at hl 2 rfl) ?_
        refine lv_iconst (v := 1) B.1 B.2.1 dX8_begins_25 (by decide) ?_
        refine lv_isub B.1 B.2.1 dX8_begins_26 ?_
        refine c_S_I (own := RX8) (As := [.ref (zA Z a0), .int a1, .int (a2 - 1)]) (rest := []) B hH (cy_X8_soundAt B.2.2.2.2.1) (ct_X8_soundAt B.2.2.2.2.2.2.2 l a0 a1 (a2 - 1) h1 _ _ (k0) hw) ⟨⟨rfl, rfl⟩, Nat.le_of_ble_eq_true rfl, Nat.le_of_ble_eq_true rfl, Nat.zero_le _, Nat.zero_le _⟩ (tw_1095 B.2.2.2.2.1) rfl hl.1 rfl (Nat.le_of_ble_eq_true rfl) dX8_begins_27 ?_
        clear hw hH
        intro r14 h13 H locs hw hH
        refine lv_if_ne (tgt := 37) B.1 B.2.1 dX8_begins_30 (by decide) (fun c15 => ?_) (fun c15 => ?_)
        · replace hw := hw.1 c15
          refine lv_iconst (v := 0) B.1 B.2.1 dX8_begins_37 (by decide) ?_
          refine lv_iload_n B.1 B.2.1 dX8_begins_38 rfl (lv_at hl 3 rfl) ?_
          refine lv_icmp_eq (tgt := 46) B.1 B.2.1 dX8_begins_39 (by decide) (fun c16 => ?_) (fun c16 => ?_)
          · replace hw := hw.1 c16
            refine lv_iconst (v := 0) B.1 B.2.1 dX8_begins_46 (by decide) ?_
            exact e_z B hr (by decide) hH hw dX8_begins_47
          · replace hw := hw.2 c16
            refine lv_iconst (v := 1) B.1 B.2.1 dX8_begins_42 (by decide) ?_
            refine lv_goto (tgt := 47) B.1 B.2.1 dX8_begins_43 (by decide) ?_
            exact e_z B hr (by decide) hH hw dX8_begins_47
        · replace hw := hw.2 c15
          refine lv_iconst (v := 1) B.1 B.2.1 dX8_begins_33 (by decide) ?_
          refine lv_goto (tgt := 38) B.1 B.2.1 dX8_begins_34 (by decide) ?_
          refine lv_iload_n B.1 B.2.1 dX8_begins_38 rfl (lv_at hl 3 rfl) ?_
          refine lv_icmp_eq (tgt := 46) B.1 B.2.1 dX8_begins_39 (by decide) (fun c17 => ?_) (fun c17 => ?_)
          · replace hw := hw.1 c17
            refine lv_iconst (v := 0) B.1 B.2.1 dX8_begins_46 (by decide) ?_
            exact e_z B hr (by decide) hH hw dX8_begins_47
          · replace hw := hw.2 c17
            refine lv_iconst (v := 1) B.1 B.2.1 dX8_begins_42 (by decide) ?_
            refine lv_goto (tgt := 47) B.1 B.2.1 dX8_begins_43 (by decide) ?_
            exact e_z B hr (by decide) hH hw dX8_begins_47
theorem cy_X8_rows {s : State} {args : Array Value} (hG : GG s) : CYS s args yX8_rows cX8_rows 5 (some .int) 3 := CYS.of hG (fun _ _ hG => tw_1160 hG) (tw_8 hG) (tw_1159 hG) (by decide +kernel)
set_option maxRecDepth 100000 in
set_option maxHeartbeats 4000000 in
theorem ct_X8_rows {Z : ZT} (hZ : ZO Z) (l : Launch) (a0 : Nat) (a1 : Int32) (a2 : Int32) (h : PH) (sz : Nat) (Q : Int32 → PH → Prop) (k0 : kd a0 = 10) (hw : wp_X8_rows a0 a1 a2 h Q) : MI Z l yX8_rows cX8_rows 5 (some .int) ({ frames := 2, cells := 0, slots := 0, locals := 45 } : Room) h sz [.ref (zA Z a0), .int a1, .int a2] Q := by
  refine open_M hZ (by decide +kernel) (by exact Nat.le_of_ble_eq_true rfl) ?_
  intro p e s m below meth c B hr hsz ls hl hH
  subst hsz
  have hl : lv_has ls 5 [(0, .ref (zA Z a0)), (1, .int a1), (2, .int a2)] := hl
  unfold wp_X8_rows at hw
  have L5 : ∀ (b0 : Nat) (b1 : Int32) (b2 : Int32), kd b0 = 10 → ∀ (n : Nat) (b3 : Int32) (b4 : Int32) (h : PH), ∀ (H : Heap) (locs : List Loc) (ls : Array Slot), wp_X8_rows_b5 b0 b1 b2 Q n b3 b4 h → HH Z s h H locs → lv_has ls 5 [(0, .ref (zA Z b0)), (1, .int b1), (2, .int b2), (3, .int b3), (4, .int b4)] → W p l e ({ frames := 2, cells := 0, slots := 0, locals := 45 } : Room) s m ([.ref (zA Z a0), .int a1, .int a2]).toArray below meth c H locs 0 0 (MQ below (va_Qi Q (BZ Z) (fr Z s.heap.size)) ([.ref (zA Z a0), .int a1, .int a2]).toArray s 0 0 (fr Z s.heap.size)) (F0 m 5 ls []) := by
    intro b0 b1 b2 kb0 n
    induction n with
    | zero => intro b3 b4 h H locs ls hw hH hl; exact absurd hw id
    | succ n ih =>
      intro b3 b4 h H locs ls hw hH hl
      unfold wp_X8_rows_b5 at hw
      refine lv_iload B.1 B.2.1 dX8_rows_5 (lv_at hl 4 rfl) ?_
      refine lv_aload_n B.1 B.2.1 dX8_rows_7 rfl (lv_at hl 0 rfl) ?_
      refine lv_iload_n B.1 B.2.1 dX8_rows_8 rfl (lv_at hl 1 rfl) ?_
      refine c_S_I (own := RX8) (As := [.ref (zA Z b0), .int b1]) (rest := [.int b4]) B hH (cy_X8_cells B.2.2.2.2.1) (ct_X8_cells B.2.2.2.2.2.2.2 l b0 b1 h _ _ (kb0) hw) ⟨⟨rfl, rfl⟩, Nat.le_of_ble_eq_true rfl, Nat.le_of_ble_eq_true rfl, Nat.zero_le _, Nat.zero_le _⟩ (tw_1063 B.2.2.2.2.1) rfl hl.1 rfl (Nat.le_of_ble_eq_true rfl) dX8_rows_9 ?_
      clear hw hH
      intro r2 h1 H locs hw hH
      refine lv_icmp_ge (tgt := 40) B.1 B.2.1 dX8_rows_12 (by decide) (fun c3 => ?_) (fun c3 => ?_)
      · replace hw := hw.1 c3
        refine lv_iload_n B.1 B.2.1 dX8_rows_40 rfl (lv_at hl 3 rfl) ?_
        exact e_i B hr hH hw dX8_rows_41
      · replace hw := hw.2 c3
        refine lv_iload_n B.1 B.2.1 dX8_rows_15 rfl (lv_at hl 3 rfl) ?_
        refine lv_aload_n B.1 B.2.1 dX8_rows_16 rfl (lv_at hl 0 rfl) ?_
        refine lv_iload_n B.1 B.2.1 dX8_rows_17 rfl (lv_at hl 1 rfl) ?_
        refine lv_iload B.1 B.2.1 dX8_rows_18 (lv_at hl 4 rfl) ?_
        refine lv_iload_n B.1 B.2.1 dX8_rows_20 rfl (lv_at hl 2 rfl) ?_
        refine c_S_I (own := RX8) (As := [.ref (zA Z b0), .int b1, .int b4, .int b2]) (rest := [.int b3]) B hH (cy_X8_begins B.2.2.2.2.1) (ct_X8_begins B.2.2.2.2.2.2.2 l b0 b1 b4 b2 h1 _ _ (kb0) hw) ⟨⟨rfl, rfl⟩, Nat.le_of_ble_eq_true rfl, Nat.le_of_ble_eq_true rfl, Nat.zero_le _, Nat.zero_le _⟩ (tw_1152 B.2.2.2.2.1) rfl hl.1 rfl (Nat.le_of_ble_eq_true rfl) dX8_rows_21 ?_
        clear hw hH
        intro r5 h4 H locs hw hH
        refine lv_if_eq (tgt := 31) B.1 B.2.1 dX8_rows_24 (by decide) (fun c6 => ?_) (fun c6 => ?_)
        · replace hw := hw.1 c6
          refine lv_iconst (v := 0) B.1 B.2.1 dX8_rows_31 (by decide) ?_
          refine lv_iadd B.1 B.2.1 dX8_rows_32 ?_
          refine lv_topi (fun x7 ex7 => ?_)
          replace hw := hw x7 ex7
          refine lv_istore_n (lv' := [(3, .int x7), (0, .ref (zA Z b0)), (1, .int b1), (2, .int b2), (4, .int b4)]) B.1 B.2.1 dX8_rows_33 rfl hl (by decide) (by first | rfl | simp [va_re_cat, Value.category]) ?_
          clear hl
          intro ls hl
          obtain ⟨x8, ex8⟩ : ∃ y : Int32, y = b4 + 1 := ⟨_, rfl⟩
          replace hw := hw x8 ex8
          refine lv_iinc (v := x8) (lv' := [(4, .int x8), (3, .int x7), (0, .ref (zA Z b0)), (1, .int b1), (2, .int b2)]) B.1 B.2.1 dX8_rows_34 hl (k := 4) rfl (by rw [ex8]; rfl) (by decide) (by first | rfl | simp [va_re_cat, Value.category]) ?_
          clear hl
          intro ls hl
          refine lv_goto (tgt := 5) B.1 B.2.1 dX8_rows_37 (by decide) ?_
          exact ih x7 x8 h4  _ _ _ hw hH (lv_sub hl [2, 3, 4, 1, 0] rfl)
        · replace hw := hw.2 c6
          refine lv_iconst (v := 1) B.1 B.2.1 dX8_rows_27 (by decide) ?_
          refine lv_goto (tgt := 32) B.1 B.2.1 dX8_rows_28 (by decide) ?_
          refine lv_iadd B.1 B.2.1 dX8_rows_32 ?_
          refine lv_topi (fun x9 ex9 => ?_)
          replace hw := hw x9 ex9
          refine lv_istore_n (lv' := [(3, .int x9), (0, .ref (zA Z b0)), (1, .int b1), (2, .int b2), (4, .int b4)]) B.1 B.2.1 dX8_rows_33 rfl hl (by decide) (by first | rfl | simp [va_re_cat, Value.category]) ?_
          clear hl
          intro ls hl
          obtain ⟨x10, ex10⟩ : ∃ y : Int32, y = b4 + 1 := ⟨_, rfl⟩
          replace hw := hw x10 ex10
          refine lv_iinc (v := x10) (lv' := [(4, .int x10), (3, .int x9), (0, .ref (zA Z b0)), (1, .int b1), (2, .int b2)]) B.1 B.2.1 dX8_rows_34 hl (k := 4) rfl (by rw [ex10]; rfl) (by decide) (by first | rfl | simp [va_re_cat, Value.category]) ?_
          clear hl
          intro ls hl
          refine lv_goto (tgt := 5) B.1 B.2.1 dX8_rows_37 (by decide) ?_
          exact ih x9 x10 h4  _ _ _ hw hH (lv_sub hl [2, 3, 4, 1, 0] rfl)
  refine lv_iconst (v := 0) B.1 B.2.1 dX8_rows_0 (by decide) ?_
  refine lv_istore_n (lv' := [(3, .int 0), (0, .ref (zA Z a0)), (1, .int a1), (2, .int a2)]) B.1 B.2.1 dX8_rows_1 rfl hl (by decide) (by first | rfl | simp [va_re_cat, Value.category]) ?_
  clear hl
  intro ls hl
  refine lv_iconst (v := 0) B.1 B.2.1 dX8_rows_2 (by decide) ?_
  refine lv_istore (lv' := [(4, .int 0), (3, .int 0), (0, .ref (zA Z a0)), (1, .int a1), (2, .int a2)]) B.1 B.2.1 dX8_rows_3 hl (by decide) (by first | rfl | simp [va_re_cat, Value.category]) ?_
  clear hl
  intro ls hl
  obtain ⟨n11, hw⟩ := hw
  exact L5 a0 a1 a2 (k0) n11 0 0 h  _ _ _ hw hH (lv_sub hl [2, 3, 4, 1, 0] rfl)
theorem cy_X8_rowFirst {s : State} {args : Array Value} (hG : GG s) : CYS s args yX8_rowFirst cX8_rowFirst 6 (some .int) 4 := CYS.of hG (fun _ _ hG => tw_1172 hG) (tw_8 hG) (tw_1171 hG) (by decide +kernel)
set_option maxRecDepth 100000 in
set_option maxHeartbeats 4000000 in
theorem ct_X8_rowFirst {Z : ZT} (hZ : ZO Z) (l : Launch) (a0 : Nat) (a1 : Int32) (a2 : Int32) (a3 : Int32) (h : PH) (sz : Nat) (Q : Int32 → PH → Prop) (k0 : kd a0 = 10) (hw : wp_X8_rowFirst a0 a1 a2 a3 h Q) : MI Z l yX8_rowFirst cX8_rowFirst 6 (some .int) ({ frames := 2, cells := 0, slots := 0, locals := 45 } : Room) h sz [.ref (zA Z a0), .int a1, .int a2, .int a3] Q := by
  refine open_M hZ (by decide +kernel) (by exact Nat.le_of_ble_eq_true rfl) ?_
  intro p e s m below meth c B hr hsz ls hl hH
  subst hsz
  have hl : lv_has ls 6 [(0, .ref (zA Z a0)), (1, .int a1), (2, .int a2), (3, .int a3)] := hl
  unfold wp_X8_rowFirst at hw
  have L6 : ∀ (b0 : Nat) (b1 : Int32) (b3 : Int32), kd b0 = 10 → ∀ (n : Nat) (b4 : Int32) (b5 : Int32) (h : PH), ∀ (H : Heap) (locs : List Loc) (ls : Array Slot), wp_X8_rowFirst_b6 b0 b1 b3 Q n b4 b5 h → HH Z s h H locs → lv_has ls 6 [(0, .ref (zA Z b0)), (1, .int b1), (3, .int b3), (4, .int b4), (5, .int b5)] → W p l e ({ frames := 2, cells := 0, slots := 0, locals := 45 } : Room) s m ([.ref (zA Z a0), .int a1, .int a2, .int a3]).toArray below meth c H locs 0 0 (MQ below (va_Qi Q (BZ Z) (fr Z s.heap.size)) ([.ref (zA Z a0), .int a1, .int a2, .int a3]).toArray s 0 0 (fr Z s.heap.size)) (F0 m 6 ls []) := by
    intro b0 b1 b3 kb0 n
    induction n with
    | zero => intro b4 b5 h H locs ls hw hH hl; exact absurd hw id
    | succ n ih =>
      intro b4 b5 h H locs ls hw hH hl
      unfold wp_X8_rowFirst_b6 at hw
      refine lv_iload B.1 B.2.1 dX8_rowFirst_6 (lv_at hl 4 rfl) ?_
      refine lv_aload_n B.1 B.2.1 dX8_rowFirst_8 rfl (lv_at hl 0 rfl) ?_
      refine lv_iload_n B.1 B.2.1 dX8_rowFirst_9 rfl (lv_at hl 1 rfl) ?_
      refine c_S_I (own := RX8) (As := [.ref (zA Z b0), .int b1]) (rest := [.int b5]) B hH (cy_X8_cells B.2.2.2.2.1) (ct_X8_cells B.2.2.2.2.2.2.2 l b0 b1 h _ _ (kb0) hw) ⟨⟨rfl, rfl⟩, Nat.le_of_ble_eq_true rfl, Nat.le_of_ble_eq_true rfl, Nat.zero_le _, Nat.zero_le _⟩ (tw_1063 B.2.2.2.2.1) rfl hl.1 rfl (Nat.le_of_ble_eq_true rfl) dX8_rowFirst_10 ?_
      clear hw hH
      intro r2 h1 H locs hw hH
      refine lv_icmp_ge (tgt := 44) B.1 B.2.1 dX8_rowFirst_13 (by decide) (fun c3 => ?_) (fun c3 => ?_)
      · replace hw := hw.1 c3
        refine lv_iconst (v := (-1)) B.1 B.2.1 dX8_rowFirst_44 (by decide) ?_
        exact e_i B hr hH hw dX8_rowFirst_45
      · replace hw := hw.2 c3
        refine lv_aload_n B.1 B.2.1 dX8_rowFirst_16 rfl (lv_at hl 0 rfl) ?_
        refine lv_iload_n B.1 B.2.1 dX8_rowFirst_17 rfl (lv_at hl 1 rfl) ?_
        refine lv_iload B.1 B.2.1 dX8_rowFirst_18 (lv_at hl 4 rfl) ?_
        refine lv_iload_n B.1 B.2.1 dX8_rowFirst_20 rfl (lv_at hl 2 rfl) ?_
        refine c_S_I (own := RX8) (As := [.ref (zA Z b0), .int b1, .int b5, .int b3]) (rest := []) B hH (cy_X8_begins B.2.2.2.2.1) (ct_X8_begins B.2.2.2.2.2.2.2 l b0 b1 b5 b3 h1 _ _ (kb0) hw) ⟨⟨rfl, rfl⟩, Nat.le_of_ble_eq_true rfl, Nat.le_of_ble_eq_true rfl, Nat.zero_le _, Nat.zero_le _⟩ (tw_1152 B.2.2.2.2.1) rfl hl.1 rfl (Nat.le_of_ble_eq_true rfl) dX8_rowFirst_21 ?_
        clear hw hH
        intro r5 h4 H locs hw hH
        refine lv_if_eq (tgt := 38) B.1 B.2.1 dX8_rowFirst_24 (by decide) (fun c6 => ?_) (fun c6 => ?_)
        · replace hw := hw.1 c6
          obtain ⟨x7, ex7⟩ : ∃ y : Int32, y = b5 + 1 := ⟨_, rfl⟩
          replace hw := hw x7 ex7
          refine lv_iinc (v := x7) (lv' := [(5, .int x7), (0, .ref (zA Z b0)), (1, .int b1), (3, .int b3), (4, .int b4)]) B.1 B.2.1 dX8_rowFirst_38 hl (k := 4) rfl (by rw [ex7]; rfl) (by decide) (by first | rfl | simp [va_re_cat, Value.category]) ?_
          clear hl
          intro ls hl
          refine lv_goto (tgt := 6) B.1 B.2.1 dX8_rowFirst_41 (by decide) ?_
          exact ih b4 x7 h4  _ _ _ hw hH (lv_sub hl [1, 2, 3, 4, 0] rfl)
        · replace hw := hw.2 c6
          refine lv_iload B.1 B.2.1 dX8_rowFirst_27 (lv_at hl 3 rfl) ?_
          refine lv_if_ne (tgt := 35) B.1 B.2.1 dX8_rowFirst_29 (by decide) (fun c8 => ?_) (fun c8 => ?_)
          · replace hw := hw.1 c8
            obtain ⟨x9, ex9⟩ : ∃ y : Int32, y = b4 + (-1) := ⟨_, rfl⟩
            replace hw := hw x9 ex9
            refine lv_iinc (v := x9) (lv' := [(4, .int x9), (0, .ref (zA Z b0)), (1, .int b1), (3, .int b3), (5, .int b5)]) B.1 B.2.1 dX8_rowFirst_35 hl (k := 3) rfl (by rw [ex9]; rfl) (by decide) (by first | rfl | simp [va_re_cat, Value.category]) ?_
            clear hl
            intro ls hl
            obtain ⟨x10, ex10⟩ : ∃ y : Int32, y = b5 + 1 := ⟨_, rfl⟩
            replace hw := hw x10 ex10
            refine lv_iinc (v := x10) (lv' := [(5, .int x10), (4, .int x9), (0, .ref (zA Z b0)), (1, .int b1), (3, .int b3)]) B.1 B.2.1 dX8_rowFirst_38 hl (k := 4) rfl (by rw [ex10]; rfl) (by decide) (by first | rfl | simp [va_re_cat, Value.category]) ?_
            clear hl
            intro ls hl
            refine lv_goto (tgt := 6) B.1 B.2.1 dX8_rowFirst_41 (by decide) ?_
            exact ih x9 x10 h4  _ _ _ hw hH (lv_sub hl [2, 3, 4, 1, 0] rfl)
          · replace hw := hw.2 c8
            refine lv_iload B.1 B.2.1 dX8_rowFirst_32 (lv_at hl 4 rfl) ?_
            exact e_i B hr hH hw dX8_rowFirst_34
  refine lv_iload_n B.1 B.2.1 dX8_rowFirst_0 rfl (lv_at hl 2 rfl) ?_
  refine lv_istore (lv' := [(4, .int a2), (0, .ref (zA Z a0)), (1, .int a1), (2, .int a2), (3, .int a3)]) B.1 B.2.1 dX8_rowFirst_1 hl (by decide) (by first | rfl | simp [va_re_cat, Value.category]) ?_
  clear hl
  intro ls hl
  refine lv_iconst (v := 0) B.1 B.2.1 dX8_rowFirst_3 (by decide) ?_
  refine lv_istore (lv' := [(5, .int 0), (4, .int a2), (0, .ref (zA Z a0)), (1, .int a1), (2, .int a2), (3, .int a3)]) B.1 B.2.1 dX8_rowFirst_4 hl (by decide) (by first | rfl | simp [va_re_cat, Value.category]) ?_
  clear hl
  intro ls hl
  obtain ⟨n11, hw⟩ := hw
  exact L6 a0 a1 a3 (k0) n11 a2 0 h  _ _ _ hw hH (lv_sub hl [2, 3, 5, 1, 0] rfl)
theorem cy_X8_rowMany {s : State} {args : Array Value} (hG : GG s) : CYS s args yX8_rowMany cX8_rowMany 4 (some .int) 3 := CYS.of hG (fun _ _ hG => tw_1157 hG) (tw_8 hG) (tw_1156 hG) (by decide +kernel)
set_option maxRecDepth 100000 in
set_option maxHeartbeats 4000000 in
theorem ct_X8_rowMany {Z : ZT} (hZ : ZO Z) (l : Launch) (a0 : Nat) (a1 : Int32) (a2 : Int32) (h : PH) (sz : Nat) (Q : Int32 → PH → Prop) (k0 : kd a0 = 10) (hw : wp_X8_rowMany a0 a1 a2 h Q) : MI Z l yX8_rowMany cX8_rowMany 4 (some .int) ({ frames := 1, cells := 0, slots := 0, locals := 22 } : Room) h sz [.ref (zA Z a0), .int a1, .int a2] Q := by
  refine open_M hZ (by decide +kernel) (by exact Nat.le_of_ble_eq_true rfl) ?_
  intro p e s m below meth c B hr hsz ls hl hH
  subst hsz
  have hl : lv_has ls 4 [(0, .ref (zA Z a0)), (1, .int a1), (2, .int a2)] := hl
  unfold wp_X8_rowMany at hw
  have L2 : ∀ (b0 : Nat) (b1 : Int32) (b2 : Int32), kd b0 = 10 → ∀ (n : Nat) (b3 : Int32) (h : PH), ∀ (H : Heap) (locs : List Loc) (ls : Array Slot), wp_X8_rowMany_b2 b0 b1 b2 Q n b3 h → HH Z s h H locs → lv_has ls 4 [(0, .ref (zA Z b0)), (1, .int b1), (2, .int b2), (3, .int b3)] → W p l e ({ frames := 1, cells := 0, slots := 0, locals := 22 } : Room) s m ([.ref (zA Z a0), .int a1, .int a2]).toArray below meth c H locs 0 0 (MQ below (va_Qi Q (BZ Z) (fr Z s.heap.size)) ([.ref (zA Z a0), .int a1, .int a2]).toArray s 0 0 (fr Z s.heap.size)) (F0 m 2 ls []) := by
    intro b0 b1 b2 kb0 n
    induction n with
    | zero => intro b3 h H locs ls hw hH hl; exact absurd hw id
    | succ n ih =>
      intro b3 h H locs ls hw hH hl
      unfold wp_X8_rowMany_b2 at hw
      refine lv_iload_n B.1 B.2.1 dX8_rowMany_2 rfl (lv_at hl 3 rfl) ?_
      refine lv_aload_n B.1 B.2.1 dX8_rowMany_3 rfl (lv_at hl 0 rfl) ?_
      refine lv_iload_n B.1 B.2.1 dX8_rowMany_4 rfl (lv_at hl 1 rfl) ?_
      refine c_S_I (own := RX8) (As := [.ref (zA Z b0), .int b1]) (rest := [.int b3]) B hH (cy_X8_cells B.2.2.2.2.1) (ct_X8_cells B.2.2.2.2.2.2.2 l b0 b1 h _ _ (kb0) hw) ⟨⟨rfl, rfl⟩, Nat.le_of_ble_eq_true rfl, Nat.le_of_ble_eq_true rfl, Nat.zero_le _, Nat.zero_le _⟩ (tw_1063 B.2.2.2.2.1) rfl hl.1 rfl (Nat.le_of_ble_eq_true rfl) dX8_rowMany_5 ?_
      clear hw hH
      intro r2 h1 H locs hw hH
      refine lv_icmp_ge (tgt := 48) B.1 B.2.1 dX8_rowMany_8 (by decide) (fun c3 => ?_) (fun c3 => ?_)
      · replace hw := hw.1 c3
        refine lv_iload_n B.1 B.2.1 dX8_rowMany_48 rfl (lv_at hl 3 rfl) ?_
        refine lv_iload_n B.1 B.2.1 dX8_rowMany_49 rfl (lv_at hl 2 rfl) ?_
        refine lv_isub B.1 B.2.1 dX8_rowMany_50 ?_
        exact e_i B hr hH hw dX8_rowMany_51
      · replace hw := hw.2 c3
        refine lv_aload_n B.1 B.2.1 dX8_rowMany_11 rfl (lv_at hl 0 rfl) ?_
        refine lv_iload_n B.1 B.2.1 dX8_rowMany_12 rfl (lv_at hl 1 rfl) ?_
        refine lv_iload_n B.1 B.2.1 dX8_rowMany_13 rfl (lv_at hl 3 rfl) ?_
        refine c_S_I (own := RX8) (As := [.ref (zA Z b0), .int b1, .int b3]) (rest := []) B hH (cy_X8_soundAt B.2.2.2.2.1) (ct_X8_soundAt B.2.2.2.2.2.2.2 l b0 b1 b3 h1 _ _ (kb0) hw) ⟨⟨rfl, rfl⟩, Nat.le_of_ble_eq_true rfl, Nat.le_of_ble_eq_true rfl, Nat.zero_le _, Nat.zero_le _⟩ (tw_1095 B.2.2.2.2.1) rfl hl.1 rfl (Nat.le_of_ble_eq_true rfl) dX8_rowMany_14 ?_
        clear hw hH
        intro r5 h4 H locs hw hH
        refine lv_if_ne (tgt := 24) B.1 B.2.1 dX8_rowMany_17 (by decide) (fun c6 => ?_) (fun c6 => ?_)
        · replace hw := hw.1 c6
          refine lv_iconst (v := 0) B.1 B.2.1 dX8_rowMany_24 (by decide) ?_
          refine lv_aload_n B.1 B.2.1 dX8_rowMany_25 rfl (lv_at hl 0 rfl) ?_
          refine lv_iload_n B.1 B.2.1 dX8_rowMany_26 rfl (lv_at hl 1 rfl) ?_
          refine lv_iload_n B.1 B.2.1 dX8_rowMany_27 rfl (lv_at hl 2 rfl) ?_
          refine c_S_I (own := RX8) (As := [.ref (zA Z b0), .int b1, .int b2]) (rest := [.int 0]) B hH (cy_X8_soundAt B.2.2.2.2.1) (ct_X8_soundAt B.2.2.2.2.2.2.2 l b0 b1 b2 h4 _ _ (kb0) hw) ⟨⟨rfl, rfl⟩, Nat.le_of_ble_eq_true rfl, Nat.le_of_ble_eq_true rfl, Nat.zero_le _, Nat.zero_le _⟩ (tw_1095 B.2.2.2.2.1) rfl hl.1 rfl (Nat.le_of_ble_eq_true rfl) dX8_rowMany_28 ?_
          clear hw hH
          intro r8 h7 H locs hw hH
          refine lv_if_ne (tgt := 38) B.1 B.2.1 dX8_rowMany_31 (by decide) (fun c9 => ?_) (fun c9 => ?_)
          · replace hw := hw.1 c9
            refine lv_iconst (v := 0) B.1 B.2.1 dX8_rowMany_38 (by decide) ?_
            refine lv_icmp_ne (tgt := 48) B.1 B.2.1 dX8_rowMany_39 (by decide) (fun z => absurd z (by decide)) (fun _ => ?_)
            obtain ⟨x10, ex10⟩ : ∃ y : Int32, y = b3 + 1 := ⟨_, rfl⟩
            replace hw := hw x10 ex10
            refine lv_iinc (v := x10) (lv' := [(3, .int x10), (0, .ref (zA Z b0)), (1, .int b1), (2, .int b2)]) B.1 B.2.1 dX8_rowMany_42 hl (k := 3) rfl (by rw [ex10]; rfl) (by decide) (by first | rfl | simp [va_re_cat, Value.category]) ?_
            clear hl
            intro ls hl
            refine lv_goto (tgt := 2) B.1 B.2.1 dX8_rowMany_45 (by decide) ?_
            exact ih x10 h7  _ _ _ hw hH (lv_sub hl [1, 2, 3, 0] rfl)
          · replace hw := hw.2 c9
            refine lv_iconst (v := 1) B.1 B.2.1 dX8_rowMany_34 (by decide) ?_
            refine lv_goto (tgt := 39) B.1 B.2.1 dX8_rowMany_35 (by decide) ?_
            refine lv_icmp_ne (tgt := 48) B.1 B.2.1 dX8_rowMany_39 (by decide) (fun _ => ?_) (fun z => absurd z (by decide))
            refine lv_iload_n B.1 B.2.1 dX8_rowMany_48 rfl (lv_at hl 3 rfl) ?_
            refine lv_iload_n B.1 B.2.1 dX8_rowMany_49 rfl (lv_at hl 2 rfl) ?_
            refine lv_isub B.1 B.2.1 dX8_rowMany_50 ?_
            exact e_i B hr hH hw dX8_rowMany_51
        · replace hw := hw.2 c6
          refine lv_iconst (v := 1) B.1 B.2.1 dX8_rowMany_20 (by decide) ?_
          refine lv_goto (tgt := 25) B.1 B.2.1 dX8_rowMany_21 (by decide) ?_
          refine lv_aload_n B.1 B.2.1 dX8_rowMany_25 rfl (lv_at hl 0 rfl) ?_
          refine lv_iload_n B.1 B.2.1 dX8_rowMany_26 rfl (lv_at hl 1 rfl) ?_
          refine lv_iload_n B.1 B.2.1 dX8_rowMany_27 rfl (lv_at hl 2 rfl) ?_
          refine c_S_I (own := RX8) (As := [.ref (zA Z b0), .int b1, .int b2]) (rest := [.int 1]) B hH (cy_X8_soundAt B.2.2.2.2.1) (ct_X8_soundAt B.2.2.2.2.2.2.2 l b0 b1 b2 h4 _ _ (kb0) hw) ⟨⟨rfl, rfl⟩, Nat.le_of_ble_eq_true rfl, Nat.le_of_ble_eq_true rfl, Nat.zero_le _, Nat.zero_le _⟩ (tw_1095 B.2.2.2.2.1) rfl hl.1 rfl (Nat.le_of_ble_eq_true rfl) dX8_rowMany_28 ?_
          clear hw hH
          intro r12 h11 H locs hw hH
          refine lv_if_ne (tgt := 38) B.1 B.2.1 dX8_rowMany_31 (by decide) (fun c13 => ?_) (fun c13 => ?_)
          · replace hw := hw.1 c13
            refine lv_iconst (v := 0) B.1 B.2.1 dX8_rowMany_38 (by decide) ?_
            refine lv_icmp_ne (tgt := 48) B.1 B.2.1 dX8_rowMany_39 (by decide) (fun _ => ?_) (fun z => absurd z (by decide))
            refine lv_iload_n B.1 B.2.1 dX8_rowMany_48 rfl (lv_at hl 3 rfl) ?_
            refine lv_iload_n B.1 B.2.1 dX8_rowMany_49 rfl (lv_at hl 2 rfl) ?_
            refine lv_isub B.1 B.2.1 dX8_rowMany_50 ?_
            exact e_i B hr hH hw dX8_rowMany_51
          · replace hw := hw.2 c13
            refine lv_iconst (v := 1) B.1 B.2.1 dX8_rowMany_34 (by decide) ?_
            refine lv_goto (tgt := 39) B.1 B.2.1 dX8_rowMany_35 (by decide) ?_
            refine lv_icmp_ne (tgt := 48) B.1 B.2.1 dX8_rowMany_39 (by decide) (fun z => absurd z (by decide)) (fun _ => ?_)
            obtain ⟨x14, ex14⟩ : ∃ y : Int32, y = b3 + 1 := ⟨_, rfl⟩
            replace hw := hw x14 ex14
            refine lv_iinc (v := x14) (lv' := [(3, .int x14), (0, .ref (zA Z b0)), (1, .int b1), (2, .int b2)]) B.1 B.2.1 dX8_rowMany_42 hl (k := 3) rfl (by rw [ex14]; rfl) (by decide) (by first | rfl | simp [va_re_cat, Value.category]) ?_
            clear hl
            intro ls hl
            refine lv_goto (tgt := 2) B.1 B.2.1 dX8_rowMany_45 (by decide) ?_
            exact ih x14 h11  _ _ _ hw hH (lv_sub hl [1, 2, 3, 0] rfl)
  refine lv_iload_n B.1 B.2.1 dX8_rowMany_0 rfl (lv_at hl 2 rfl) ?_
  refine lv_istore_n (lv' := [(3, .int a2), (0, .ref (zA Z a0)), (1, .int a1), (2, .int a2)]) B.1 B.2.1 dX8_rowMany_1 rfl hl (by decide) (by first | rfl | simp [va_re_cat, Value.category]) ?_
  clear hl
  intro ls hl
  obtain ⟨n15, hw⟩ := hw
  exact L2 a0 a1 a2 (k0) n15 a2 h  _ _ _ hw hH (lv_sub hl [1, 2, 3, 0] rfl)
theorem cy_X8_round {s : State} {args : Array Value} (hG : GG s) : CYS s args yX8_round cX8_round 2 (some .int) 2 := CYS.of hG (fun _ _ hG => tw_1122 hG) (tw_8 hG) (tw_1121 hG) (by decide +kernel)
set_option maxRecDepth 100000 in
set_option maxHeartbeats 4000000 in
theorem ct_X8_round {Z : ZT} (hZ : ZO Z) (l : Launch) (a0 : Nat) (a1 : Int32) (h : PH) (sz : Nat) (Q : Int32 → PH → Prop) (k0 : kd a0 = 10) (hw : wp_X8_round a0 a1 h Q) : MI Z l yX8_round cX8_round 2 (some .int) ({ frames := 1, cells := 0, slots := 0, locals := 22 } : Room) h sz [.ref (zA Z a0), .int a1] Q := by
  refine open_M hZ (by decide +kernel) (by exact Nat.le_of_ble_eq_true rfl) ?_
  intro p e s m below meth c B hr hsz ls hl hH
  subst hsz
  have hl : lv_has ls 2 [(0, .ref (zA Z a0)), (1, .int a1)] := hl
  unfold wp_X8_round at hw
  refine lv_aload_n B.1 B.2.1 dX8_round_0 rfl (lv_at hl 0 rfl) ?_
  refine lv_iload_n B.1 B.2.1 dX8_round_1 rfl (lv_at hl 1 rfl) ?_
  refine lv_iconst (v := 0) B.1 B.2.1 dX8_round_2 (by decide) ?_
  refine c_S_I (own := RX8) (As := [.ref (zA Z a0), .int a1, .int 0]) (rest := []) B hH (cy_X8_of B.2.2.2.2.1) (ct_X8_of B.2.2.2.2.2.2.2 l a0 a1 0 h _ _ (k0) hw) ⟨⟨rfl, rfl⟩, Nat.le_of_ble_eq_true rfl, Nat.le_of_ble_eq_true rfl, Nat.zero_le _, Nat.zero_le _⟩ (tw_1098 B.2.2.2.2.1) rfl hl.1 rfl (Nat.le_of_ble_eq_true rfl) dX8_round_3 ?_
  clear hw hH
  intro r2 h1 H locs hw hH
  refine lv_aload_n B.1 B.2.1 dX8_round_6 rfl (lv_at hl 0 rfl) ?_
  refine lv_iload_n B.1 B.2.1 dX8_round_7 rfl (lv_at hl 1 rfl) ?_
  refine lv_iconst (v := 2) B.1 B.2.1 dX8_round_8 (by decide) ?_
  refine c_S_I (own := RX8) (As := [.ref (zA Z a0), .int a1, .int 2]) (rest := [.int r2]) B hH (cy_X8_of B.2.2.2.2.1) (ct_X8_of B.2.2.2.2.2.2.2 l a0 a1 2 h1 _ _ (k0) hw) ⟨⟨rfl, rfl⟩, Nat.le_of_ble_eq_true rfl, Nat.le_of_ble_eq_true rfl, Nat.zero_le _, Nat.zero_le _⟩ (tw_1098 B.2.2.2.2.1) rfl hl.1 rfl (Nat.le_of_ble_eq_true rfl) dX8_round_9 ?_
  clear hw hH
  intro r4 h3 H locs hw hH
  refine lv_imul B.1 B.2.1 dX8_round_12 ?_
  exact e_i B hr hH hw dX8_round_13
theorem cy_X8_divisor {s : State} {args : Array Value} (hG : GG s) : CYS s args yX8_divisor cX8_divisor 5 (some .int) 2 := CYS.of hG (fun _ _ hG => tw_1187 hG) (tw_8 hG) (tw_1186 hG) (by decide +kernel)
set_option maxRecDepth 100000 in
set_option maxHeartbeats 4000000 in
theorem ct_X8_divisor {Z : ZT} (hZ : ZO Z) (l : Launch) (a0 : Int32) (a1 : Int32) (h : PH) (sz : Nat) (Q : Int32 → PH → Prop)  (hw : wp_X8_divisor a0 a1 h Q) : MI Z l yX8_divisor cX8_divisor 5 (some .int) ({ frames := 0, cells := 0, slots := 0, locals := 0 } : Room) h sz [.int a0, .int a1] Q := by
  refine open_M hZ (by decide +kernel) (by exact Nat.le_of_ble_eq_true rfl) ?_
  intro p e s m below meth c B hr hsz ls hl hH
  subst hsz
  have hl : lv_has ls 5 [(0, .int a0), (1, .int a1)] := hl
  unfold wp_X8_divisor at hw
  have L4 : ∀ (n : Nat) (b2 : Int32) (b3 : Int32) (h : PH), ∀ (H : Heap) (locs : List Loc) (ls : Array Slot), wp_X8_divisor_b4 Q n b2 b3 h → HH Z s h H locs → lv_has ls 5 [(2, .int b2), (3, .int b3)] → W p l e ({ frames := 0, cells := 0, slots := 0, locals := 0 } : Room) s m ([.int a0, .int a1]).toArray below meth c H locs 0 0 (MQ below (va_Qi Q (BZ Z) (fr Z s.heap.size)) ([.int a0, .int a1]).toArray s 0 0 (fr Z s.heap.size)) (F0 m 4 ls []) := by
    intro n
    induction n with
    | zero => intro b2 b3 h H locs ls hw hH hl; exact absurd hw id
    | succ n ih =>
      intro b2 b3 h H locs ls hw hH hl
      unfold wp_X8_divisor_b4 at hw
      refine lv_iload_n B.1 B.2.1 dX8_divisor_4 rfl (lv_at hl 1 rfl) ?_
      refine lv_if_eq (tgt := 21) B.1 B.2.1 dX8_divisor_5 (by decide) (fun c1 => ?_) (fun c1 => ?_)
      · replace hw := hw.1 c1
        refine lv_iload_n B.1 B.2.1 dX8_divisor_21 rfl (lv_at hl 0 rfl) ?_
        exact e_i B hr hH hw dX8_divisor_22
      · replace hw := hw.2 c1
        refine lv_iload_n B.1 B.2.1 dX8_divisor_8 rfl (lv_at hl 0 rfl) ?_
        refine lv_iload_n B.1 B.2.1 dX8_divisor_9 rfl (lv_at hl 1 rfl) ?_
        have q2 := hw.1
        replace hw := hw.2
        refine x_irem B dX8_divisor_10 q2 ?_
        refine lv_topi (fun x3 ex3 => ?_)
        replace hw := hw x3 ex3
        refine lv_istore (lv' := [(4, .int x3), (2, .int b2), (3, .int b3)]) B.1 B.2.1 dX8_divisor_11 hl (by decide) (by first | rfl | simp [va_re_cat, Value.category]) ?_
        clear hl
        intro ls hl
        refine lv_iload_n B.1 B.2.1 dX8_divisor_13 rfl (lv_at hl 2 rfl) ?_
        refine lv_istore_n (lv' := [(2, .int b3), (4, .int x3), (3, .int b3)]) B.1 B.2.1 dX8_divisor_14 rfl hl (by decide) (by first | rfl | simp [va_re_cat, Value.category]) ?_
        clear hl
        intro ls hl
        refine lv_iload B.1 B.2.1 dX8_divisor_15 (lv_at hl 1 rfl) ?_
        refine lv_istore_n (lv' := [(3, .int x3), (2, .int b3), (4, .int x3)]) B.1 B.2.1 dX8_divisor_17 rfl hl (by decide) (by first | rfl | simp [va_re_cat, Value.category]) ?_
        clear hl
        intro ls hl
        refine lv_goto (tgt := 4) B.1 B.2.1 dX8_divisor_18 (by decide) ?_
        exact ih b3 x3 h  _ _ _ hw hH (lv_sub hl [1, 0] rfl)
  refine lv_iload_n B.1 B.2.1 dX8_divisor_0 rfl (lv_at hl 0 rfl) ?_
  refine lv_istore_n (lv' := [(2, .int a0), (0, .int a0), (1, .int a1)]) B.1 B.2.1 dX8_divisor_1 rfl hl (by decide) (by first | rfl | simp [va_re_cat, Value.category]) ?_
  clear hl
  intro ls hl
  refine lv_iload_n B.1 B.2.1 dX8_divisor_2 rfl (lv_at hl 2 rfl) ?_
  refine lv_istore_n (lv' := [(3, .int a1), (2, .int a0), (0, .int a0), (1, .int a1)]) B.1 B.2.1 dX8_divisor_3 rfl hl (by decide) (by first | rfl | simp [va_re_cat, Value.category]) ?_
  clear hl
  intro ls hl
  obtain ⟨n4, hw⟩ := hw
  exact L4   n4 a0 a1 h  _ _ _ hw hH (lv_sub hl [1, 0] rfl)
theorem cy_X8_period {s : State} {args : Array Value} (hG : GG s) : CYS s args yX8_period cX8_period 2 (some .int) 2 := CYS.of hG (fun _ _ hG => tw_1184 hG) (tw_8 hG) (tw_1183 hG) (by decide +kernel)
set_option maxRecDepth 100000 in
set_option maxHeartbeats 4000000 in
theorem ct_X8_period {Z : ZT} (hZ : ZO Z) (l : Launch) (a0 : Nat) (a1 : Int32) (h : PH) (sz : Nat) (Q : Int32 → PH → Prop) (k0 : kd a0 = 10) (hw : wp_X8_period a0 a1 h Q) : MI Z l yX8_period cX8_period 2 (some .int) ({ frames := 2, cells := 0, slots := 0, locals := 43 } : Room) h sz [.ref (zA Z a0), .int a1] Q := by
  refine open_M hZ (by decide +kernel) (by exact Nat.le_of_ble_eq_true rfl) ?_
  intro p e s m below meth c B hr hsz ls hl hH
  subst hsz
  have hl : lv_has ls 2 [(0, .ref (zA Z a0)), (1, .int a1)] := hl
  unfold wp_X8_period at hw
  refine lv_aload_n B.1 B.2.1 dX8_period_0 rfl (lv_at hl 0 rfl) ?_
  refine lv_iload_n B.1 B.2.1 dX8_period_1 rfl (lv_at hl 1 rfl) ?_
  refine c_S_I (own := RX8) (As := [.ref (zA Z a0), .int a1]) (rest := []) B hH (cy_X8_round B.2.2.2.2.1) (ct_X8_round B.2.2.2.2.2.2.2 l a0 a1 h _ _ (k0) hw) ⟨⟨rfl, rfl⟩, Nat.le_of_ble_eq_true rfl, Nat.le_of_ble_eq_true rfl, Nat.zero_le _, Nat.zero_le _⟩ (tw_1120 B.2.2.2.2.1) rfl hl.1 rfl (Nat.le_of_ble_eq_true rfl) dX8_period_2 ?_
  clear hw hH
  intro r2 h1 H locs hw hH
  refine lv_aload_n B.1 B.2.1 dX8_period_5 rfl (lv_at hl 0 rfl) ?_
  refine lv_iload_n B.1 B.2.1 dX8_period_6 rfl (lv_at hl 1 rfl) ?_
  refine c_S_I (own := RX8) (As := [.ref (zA Z a0), .int a1]) (rest := [.int r2]) B hH (cy_X8_round B.2.2.2.2.1) (ct_X8_round B.2.2.2.2.2.2.2 l a0 a1 h1 _ _ (k0) hw) ⟨⟨rfl, rfl⟩, Nat.le_of_ble_eq_true rfl, Nat.le_of_ble_eq_true rfl, Nat.zero_le _, Nat.zero_le _⟩ (tw_1120 B.2.2.2.2.1) rfl hl.1 rfl (Nat.le_of_ble_eq_true rfl) dX8_period_7 ?_
  clear hw hH
  intro r4 h3 H locs hw hH
  refine lv_aload_n B.1 B.2.1 dX8_period_10 rfl (lv_at hl 0 rfl) ?_
  refine lv_iload_n B.1 B.2.1 dX8_period_11 rfl (lv_at hl 1 rfl) ?_
  refine lv_iconst (v := 1) B.1 B.2.1 dX8_period_12 (by decide) ?_
  refine c_S_I (own := RX8) (As := [.ref (zA Z a0), .int a1, .int 1]) (rest := [.int r4, .int r2]) B hH (cy_X8_of B.2.2.2.2.1) (ct_X8_of B.2.2.2.2.2.2.2 l a0 a1 1 h3 _ _ (k0) hw) ⟨⟨rfl, rfl⟩, Nat.le_of_ble_eq_true rfl, Nat.le_of_ble_eq_true rfl, Nat.zero_le _, Nat.zero_le _⟩ (tw_1098 B.2.2.2.2.1) rfl hl.1 rfl (Nat.le_of_ble_eq_true rfl) dX8_period_13 ?_
  clear hw hH
  intro r6 h5 H locs hw hH
  refine c_S_I (own := RX8) (As := [.int r4, .int r6]) (rest := [.int r2]) B hH (cy_X8_divisor B.2.2.2.2.1) (ct_X8_divisor B.2.2.2.2.2.2.2 l r4 r6 h5 _ _  hw) ⟨⟨rfl, rfl⟩, Nat.le_of_ble_eq_true rfl, Nat.le_of_ble_eq_true rfl, Nat.zero_le _, Nat.zero_le _⟩ (tw_1185 B.2.2.2.2.1) rfl hl.1 rfl (Nat.le_of_ble_eq_true rfl) dX8_period_16 ?_
  clear hw hH
  intro r8 h7 H locs hw hH
  have q9 := hw.1
  replace hw := hw.2
  refine lv_idiv B.1 B.2.1 dX8_period_19 q9 ?_
  exact e_i B hr hH hw dX8_period_20
theorem cy_X8_phaseIn {s : State} {args : Array Value} (hG : GG s) : CYS s args yX8_phaseIn cX8_phaseIn 4 (some .int) 3 := CYS.of hG (fun _ _ hG => tw_1119 hG) (tw_8 hG) (tw_1118 hG) (by decide +kernel)
set_option maxRecDepth 100000 in
set_option maxHeartbeats 4000000 in
theorem ct_X8_phaseIn {Z : ZT} (hZ : ZO Z) (l : Launch) (a0 : Nat) (a1 : Int32) (a2 : Int64) (h : PH) (sz : Nat) (Q : Int32 → PH → Prop) (k0 : kd a0 = 10) (hw : wp_X8_phaseIn a0 a1 a2 h Q) : MI Z l yX8_phaseIn cX8_phaseIn 4 (some .int) ({ frames := 2, cells := 0, slots := 0, locals := 43 } : Room) h sz [.ref (zA Z a0), .int a1, .long a2] Q := by
  refine open_M hZ (by decide +kernel) (by exact Nat.le_of_ble_eq_true rfl) ?_
  intro p e s m below meth c B hr hsz ls hl hH
  subst hsz
  have hl : lv_has ls 4 [(0, .ref (zA Z a0)), (1, .int a1), (2, .long a2)] := hl
  unfold wp_X8_phaseIn at hw
  refine lv_aload_n B.1 B.2.1 dX8_phaseIn_0 rfl (lv_at hl 0 rfl) ?_
  refine lv_iload_n B.1 B.2.1 dX8_phaseIn_1 rfl (lv_at hl 1 rfl) ?_
  refine lv_iconst (v := 3) B.1 B.2.1 dX8_phaseIn_2 (by decide) ?_
  refine c_S_I (own := RX8) (As := [.ref (zA Z a0), .int a1, .int 3]) (rest := []) B hH (cy_X8_of B.2.2.2.2.1) (ct_X8_of B.2.2.2.2.2.2.2 l a0 a1 3 h _ _ (k0) hw) ⟨⟨rfl, rfl⟩, Nat.le_of_ble_eq_true rfl, Nat.le_of_ble_eq_true rfl, Nat.zero_le _, Nat.zero_le _⟩ (tw_1098 B.2.2.2.2.1) rfl hl.1 rfl (Nat.le_of_ble_eq_true rfl) dX8_phaseIn_3 ?_
  clear hw hH
  intro r2 h1 H locs hw hH
  refine lv_i2l B.1 B.2.1 dX8_phaseIn_6 rfl ?_
  refine lv_lload_n B.1 B.2.1 dX8_phaseIn_7 rfl (lv_at hl 2 rfl) ?_
  refine lv_aload_n B.1 B.2.1 dX8_phaseIn_8 rfl (lv_at hl 0 rfl) ?_
  refine lv_iload_n B.1 B.2.1 dX8_phaseIn_9 rfl (lv_at hl 1 rfl) ?_
  refine lv_iconst (v := 1) B.1 B.2.1 dX8_phaseIn_10 (by decide) ?_
  refine c_S_I (own := RX8) (As := [.ref (zA Z a0), .int a1, .int 1]) (rest := [.long a2, .long (r2.toInt64)]) B hH (cy_X8_of B.2.2.2.2.1) (ct_X8_of B.2.2.2.2.2.2.2 l a0 a1 1 h1 _ _ (k0) hw) ⟨⟨rfl, rfl⟩, Nat.le_of_ble_eq_true rfl, Nat.le_of_ble_eq_true rfl, Nat.zero_le _, Nat.zero_le _⟩ (tw_1098 B.2.2.2.2.1) rfl hl.1 rfl (Nat.le_of_ble_eq_true rfl) dX8_phaseIn_11 ?_
  clear hw hH
  intro r4 h3 H locs hw hH
  refine lv_i2l B.1 B.2.1 dX8_phaseIn_14 rfl ?_
  refine lv_lmul B.1 B.2.1 dX8_phaseIn_15 ?_
  refine lv_ladd B.1 B.2.1 dX8_phaseIn_16 ?_
  refine lv_aload_n B.1 B.2.1 dX8_phaseIn_17 rfl (lv_at hl 0 rfl) ?_
  refine lv_iload_n B.1 B.2.1 dX8_phaseIn_18 rfl (lv_at hl 1 rfl) ?_
  refine c_S_I (own := RX8) (As := [.ref (zA Z a0), .int a1]) (rest := [.long ((r2.toInt64) + (a2 * (r4.toInt64)))]) B hH (cy_X8_round B.2.2.2.2.1) (ct_X8_round B.2.2.2.2.2.2.2 l a0 a1 h3 _ _ (k0) hw) ⟨⟨rfl, rfl⟩, Nat.le_of_ble_eq_true rfl, Nat.le_of_ble_eq_true rfl, Nat.zero_le _, Nat.zero_le _⟩ (tw_1120 B.2.2.2.2.1) rfl hl.1 rfl (Nat.le_of_ble_eq_true rfl) dX8_phaseIn_19 ?_
  clear hw hH
  intro r6 h5 H locs hw hH
  refine lv_i2l B.1 B.2.1 dX8_phaseIn_22 rfl ?_
  have q7 := hw.1
  replace hw := hw.2
  refine x_lrem B dX8_phaseIn_23 q7 ?_
  refine lv_l2i B.1 B.2.1 dX8_phaseIn_24 rfl ?_
  exact e_i B hr hH hw dX8_phaseIn_25
theorem cy_X8_tapeAt {s : State} {args : Array Value} (hG : GG s) : CYS s args yX8_tapeAt cX8_tapeAt 3 (some .int) 3 := CYS.of hG (fun _ _ hG => tw_1125 hG) (tw_8 hG) (tw_1124 hG) (by decide +kernel)
set_option maxRecDepth 100000 in
set_option maxHeartbeats 4000000 in
theorem ct_X8_tapeAt {Z : ZT} (hZ : ZO Z) (l : Launch) (a0 : Nat) (a1 : Int32) (a2 : Int32) (h : PH) (sz : Nat) (Q : Int32 → PH → Prop) (k0 : kd a0 = 10) (hw : wp_X8_tapeAt a0 a1 a2 h Q) : MI Z l yX8_tapeAt cX8_tapeAt 3 (some .int) ({ frames := 1, cells := 0, slots := 0, locals := 22 } : Room) h sz [.ref (zA Z a0), .int a1, .int a2] Q := by
  refine open_M hZ (by decide +kernel) (by exact Nat.le_of_ble_eq_true rfl) ?_
  intro p e s m below meth c B hr hsz ls hl hH
  subst hsz
  have hl : lv_has ls 3 [(0, .ref (zA Z a0)), (1, .int a1), (2, .int a2)] := hl
  unfold wp_X8_tapeAt at hw
  refine lv_aload_n B.1 B.2.1 dX8_tapeAt_0 rfl (lv_at hl 0 rfl) ?_
  refine lv_iload_n B.1 B.2.1 dX8_tapeAt_1 rfl (lv_at hl 1 rfl) ?_
  refine lv_bipush (v := 12) B.1 B.2.1 dX8_tapeAt_2 (by decide) ?_
  refine lv_iload_n B.1 B.2.1 dX8_tapeAt_4 rfl (lv_at hl 2 rfl) ?_
  refine lv_aload_n B.1 B.2.1 dX8_tapeAt_5 rfl (lv_at hl 0 rfl) ?_
  refine lv_iload_n B.1 B.2.1 dX8_tapeAt_6 rfl (lv_at hl 1 rfl) ?_
  refine lv_iconst (v := 2) B.1 B.2.1 dX8_tapeAt_7 (by decide) ?_
  refine c_S_I (own := RX8) (As := [.ref (zA Z a0), .int a1, .int 2]) (rest := [.int a2, .int 12, .int a1, .ref (zA Z a0)]) B hH (cy_X8_of B.2.2.2.2.1) (ct_X8_of B.2.2.2.2.2.2.2 l a0 a1 2 h _ _ (k0) hw) ⟨⟨rfl, rfl⟩, Nat.le_of_ble_eq_true rfl, Nat.le_of_ble_eq_true rfl, Nat.zero_le _, Nat.zero_le _⟩ (tw_1098 B.2.2.2.2.1) rfl hl.1 rfl (Nat.le_of_ble_eq_true rfl) dX8_tapeAt_8 ?_
  clear hw hH
  intro r2 h1 H locs hw hH
  have q3 := hw.1
  replace hw := hw.2
  refine lv_idiv B.1 B.2.1 dX8_tapeAt_11 q3 ?_
  refine lv_iadd B.1 B.2.1 dX8_tapeAt_12 ?_
  refine c_S_I (own := RX8) (As := [.ref (zA Z a0), .int a1, .int (12 + (a2 / r2))]) (rest := []) B hH (cy_X8_of B.2.2.2.2.1) (ct_X8_of B.2.2.2.2.2.2.2 l a0 a1 (12 + (a2 / r2)) h1 _ _ (k0) hw) ⟨⟨rfl, rfl⟩, Nat.le_of_ble_eq_true rfl, Nat.le_of_ble_eq_true rfl, Nat.zero_le _, Nat.zero_le _⟩ (tw_1098 B.2.2.2.2.1) rfl hl.1 rfl (Nat.le_of_ble_eq_true rfl) dX8_tapeAt_13 ?_
  clear hw hH
  intro r5 h4 H locs hw hH
  exact e_i B hr hH hw dX8_tapeAt_16
theorem cy_X8_soundLater {s : State} {args : Array Value} (hG : GG s) : CYS s args yX8_soundLater cX8_soundLater 5 (some .int) 2 := CYS.of hG (fun _ _ hG => tw_1116 hG) (tw_8 hG) (tw_1115 hG) (by decide +kernel)
set_option maxRecDepth 100000 in
set_option maxHeartbeats 4000000 in
theorem ct_X8_soundLater {Z : ZT} (hZ : ZO Z) (l : Launch) (a0 : Nat) (a1 : Int64) (h : PH) (sz : Nat) (Q : Int32 → PH → Prop) (k0 : kd a0 = 10) (hw : wp_X8_soundLater a0 a1 h Q) : MI Z l yX8_soundLater cX8_soundLater 5 (some .int) ({ frames := 3, cells := 0, slots := 0, locals := 66 } : Room) h sz [.ref (zA Z a0), .long a1] Q := by
  refine open_M hZ (by decide +kernel) (by exact Nat.le_of_ble_eq_true rfl) ?_
  intro p e s m below meth c B hr hsz ls hl hH
  subst hsz
  have hl : lv_has ls 5 [(0, .ref (zA Z a0)), (1, .long a1)] := hl
  unfold wp_X8_soundLater at hw
  have L5 : ∀ (b0 : Nat) (b1 : Int64), kd b0 = 10 → ∀ (n : Nat) (b3 : Int32) (b4 : Int32) (h : PH), ∀ (H : Heap) (locs : List Loc) (ls : Array Slot), wp_X8_soundLater_b5 b0 b1 Q n b3 b4 h → HH Z s h H locs → lv_has ls 5 [(0, .ref (zA Z b0)), (1, .long b1), (3, .int b3), (4, .int b4)] → W p l e ({ frames := 3, cells := 0, slots := 0, locals := 66 } : Room) s m ([.ref (zA Z a0), .long a1]).toArray below meth c H locs 0 0 (MQ below (va_Qi Q (BZ Z) (fr Z s.heap.size)) ([.ref (zA Z a0), .long a1]).toArray s 0 0 (fr Z s.heap.size)) (F0 m 5 ls []) := by
    intro b0 b1 kb0 n
    induction n with
    | zero => intro b3 b4 h H locs ls hw hH hl; exact absurd hw id
    | succ n ih =>
      intro b3 b4 h H locs ls hw hH hl
      unfold wp_X8_soundLater_b5 at hw
      refine lv_iload B.1 B.2.1 dX8_soundLater_5 (lv_at hl 3 rfl) ?_
      refine lv_aload_n B.1 B.2.1 dX8_soundLater_7 rfl (lv_at hl 0 rfl) ?_
      refine lv_iconst (v := 1) B.1 B.2.1 dX8_soundLater_8 (by decide) ?_
      have q1 := hw.1
      replace hw := hw.2
      refine r_iald B hH (kb0) q1 dX8_soundLater_9 ?_
      refine lv_icmp_ge (tgt := 59) B.1 B.2.1 dX8_soundLater_10 (by decide) (fun c2 => ?_) (fun c2 => ?_)
      · replace hw := hw.1 c2
        refine lv_iload_n B.1 B.2.1 dX8_soundLater_59 rfl (lv_at hl 2 rfl) ?_
        exact e_i B hr hH hw dX8_soundLater_60
      · replace hw := hw.2 c2
        refine lv_iload_n B.1 B.2.1 dX8_soundLater_13 rfl (lv_at hl 2 rfl) ?_
        refine lv_aload_n B.1 B.2.1 dX8_soundLater_14 rfl (lv_at hl 0 rfl) ?_
        refine lv_iload B.1 B.2.1 dX8_soundLater_15 (lv_at hl 3 rfl) ?_
        refine lv_iconst (v := 0) B.1 B.2.1 dX8_soundLater_17 (by decide) ?_
        refine c_S_I (own := RX8) (As := [.ref (zA Z b0), .int b4, .int 0]) (rest := [.int b3]) B hH (cy_X8_of B.2.2.2.2.1) (ct_X8_of B.2.2.2.2.2.2.2 l b0 b4 0 h _ _ (kb0) hw) ⟨⟨rfl, rfl⟩, Nat.le_of_ble_eq_true rfl, Nat.le_of_ble_eq_true rfl, Nat.zero_le _, Nat.zero_le _⟩ (tw_1098 B.2.2.2.2.1) rfl hl.1 rfl (Nat.le_of_ble_eq_true rfl) dX8_soundLater_18 ?_
        clear hw hH
        intro r4 h3 H locs hw hH
        refine lv_if_le (tgt := 50) B.1 B.2.1 dX8_soundLater_21 (by decide) (fun c5 => ?_) (fun c5 => ?_)
        · replace hw := hw.1 c5
          refine lv_iconst (v := 0) B.1 B.2.1 dX8_soundLater_50 (by decide) ?_
          refine lv_iadd B.1 B.2.1 dX8_soundLater_51 ?_
          refine lv_topi (fun x6 ex6 => ?_)
          replace hw := hw x6 ex6
          refine lv_istore_n (lv' := [(3, .int x6), (0, .ref (zA Z b0)), (1, .long b1), (4, .int b4)]) B.1 B.2.1 dX8_soundLater_52 rfl hl (by decide) (by first | rfl | simp [va_re_cat, Value.category]) ?_
          clear hl
          intro ls hl
          obtain ⟨x7, ex7⟩ : ∃ y : Int32, y = b4 + 1 := ⟨_, rfl⟩
          replace hw := hw x7 ex7
          refine lv_iinc (v := x7) (lv' := [(4, .int x7), (3, .int x6), (0, .ref (zA Z b0)), (1, .long b1)]) B.1 B.2.1 dX8_soundLater_53 hl (k := 3) rfl (by rw [ex7]; rfl) (by decide) (by first | rfl | simp [va_re_cat, Value.category]) ?_
          clear hl
          intro ls hl
          refine lv_goto (tgt := 5) B.1 B.2.1 dX8_soundLater_56 (by decide) ?_
          exact ih x6 x7 h3  _ _ _ hw hH (lv_sub hl [2, 3, 1, 0] rfl)
        · replace hw := hw.2 c5
          refine lv_aload_n B.1 B.2.1 dX8_soundLater_24 rfl (lv_at hl 0 rfl) ?_
          refine lv_iload B.1 B.2.1 dX8_soundLater_25 (lv_at hl 3 rfl) ?_
          refine lv_iconst (v := 4) B.1 B.2.1 dX8_soundLater_27 (by decide) ?_
          refine c_S_I (own := RX8) (As := [.ref (zA Z b0), .int b4, .int 4]) (rest := [.int b3]) B hH (cy_X8_of B.2.2.2.2.1) (ct_X8_of B.2.2.2.2.2.2.2 l b0 b4 4 h3 _ _ (kb0) hw) ⟨⟨rfl, rfl⟩, Nat.le_of_ble_eq_true rfl, Nat.le_of_ble_eq_true rfl, Nat.zero_le _, Nat.zero_le _⟩ (tw_1098 B.2.2.2.2.1) rfl hl.1 rfl (Nat.le_of_ble_eq_true rfl) dX8_soundLater_28 ?_
          clear hw hH
          intro r9 h8 H locs hw hH
          refine lv_if_ne (tgt := 50) B.1 B.2.1 dX8_soundLater_31 (by decide) (fun c10 => ?_) (fun c10 => ?_)
          · replace hw := hw.1 c10
            refine lv_iconst (v := 0) B.1 B.2.1 dX8_soundLater_50 (by decide) ?_
            refine lv_iadd B.1 B.2.1 dX8_soundLater_51 ?_
            refine lv_topi (fun x11 ex11 => ?_)
            replace hw := hw x11 ex11
            refine lv_istore_n (lv' := [(3, .int x11), (0, .ref (zA Z b0)), (1, .long b1), (4, .int b4)]) B.1 B.2.1 dX8_soundLater_52 rfl hl (by decide) (by first | rfl | simp [va_re_cat, Value.category]) ?_
            clear hl
            intro ls hl
            obtain ⟨x12, ex12⟩ : ∃ y : Int32, y = b4 + 1 := ⟨_, rfl⟩
            replace hw := hw x12 ex12
            refine lv_iinc (v := x12) (lv' := [(4, .int x12), (3, .int x11), (0, .ref (zA Z b0)), (1, .long b1)]) B.1 B.2.1 dX8_soundLater_53 hl (k := 3) rfl (by rw [ex12]; rfl) (by decide) (by first | rfl | simp [va_re_cat, Value.category]) ?_
            clear hl
            intro ls hl
            refine lv_goto (tgt := 5) B.1 B.2.1 dX8_soundLater_56 (by decide) ?_
            exact ih x11 x12 h8  _ _ _ hw hH (lv_sub hl [2, 3, 1, 0] rfl)
          · replace hw := hw.2 c10
            refine lv_aload_n B.1 B.2.1 dX8_soundLater_34 rfl (lv_at hl 0 rfl) ?_
            refine lv_iload B.1 B.2.1 dX8_soundLater_35 (lv_at hl 3 rfl) ?_
            refine lv_aload_n B.1 B.2.1 dX8_soundLater_37 rfl (lv_at hl 0 rfl) ?_
            refine lv_iload B.1 B.2.1 dX8_soundLater_38 (lv_at hl 3 rfl) ?_
            refine lv_lload_n B.1 B.2.1 dX8_soundLater_40 rfl (lv_at hl 1 rfl) ?_
            refine c_S_I (own := RX8) (As := [.ref (zA Z b0), .int b4, .long b1]) (rest := [.int b4, .ref (zA Z b0), .int b3]) B hH (cy_X8_phaseIn B.2.2.2.2.1) (ct_X8_phaseIn B.2.2.2.2.2.2.2 l b0 b4 b1 h8 _ _ (kb0) hw) ⟨⟨rfl, rfl⟩, Nat.le_of_ble_eq_true rfl, Nat.le_of_ble_eq_true rfl, Nat.zero_le _, Nat.zero_le _⟩ (tw_1117 B.2.2.2.2.1) rfl hl.1 rfl (Nat.le_of_ble_eq_true rfl) dX8_soundLater_41 ?_
            clear hw hH
            intro r14 h13 H locs hw hH
            refine c_S_I (own := RX8) (As := [.ref (zA Z b0), .int b4, .int r14]) (rest := [.int b3]) B hH (cy_X8_tapeAt B.2.2.2.2.1) (ct_X8_tapeAt B.2.2.2.2.2.2.2 l b0 b4 r14 h13 _ _ (kb0) hw) ⟨⟨rfl, rfl⟩, Nat.le_of_ble_eq_true rfl, Nat.le_of_ble_eq_true rfl, Nat.zero_le _, Nat.zero_le _⟩ (tw_1123 B.2.2.2.2.1) rfl hl.1 rfl (Nat.le_of_ble_eq_true rfl) dX8_soundLater_44 ?_
            clear hw hH
            intro r16 h15 H locs hw hH
            refine lv_goto (tgt := 51) B.1 B.2.1 dX8_soundLater_47 (by decide) ?_
            refine lv_iadd B.1 B.2.1 dX8_soundLater_51 ?_
            refine lv_topi (fun x17 ex17 => ?_)
            replace hw := hw x17 ex17
            refine lv_istore_n (lv' := [(3, .int x17), (0, .ref (zA Z b0)), (1, .long b1), (4, .int b4)]) B.1 B.2.1 dX8_soundLater_52 rfl hl (by decide) (by first | rfl | simp [va_re_cat, Value.category]) ?_
            clear hl
            intro ls hl
            obtain ⟨x18, ex18⟩ : ∃ y : Int32, y = b4 + 1 := ⟨_, rfl⟩
            replace hw := hw x18 ex18
            refine lv_iinc (v := x18) (lv' := [(4, .int x18), (3, .int x17), (0, .ref (zA Z b0)), (1, .long b1)]) B.1 B.2.1 dX8_soundLater_53 hl (k := 3) rfl (by rw [ex18]; rfl) (by decide) (by first | rfl | simp [va_re_cat, Value.category]) ?_
            clear hl
            intro ls hl
            refine lv_goto (tgt := 5) B.1 B.2.1 dX8_soundLater_56 (by decide) ?_
            exact ih x17 x18 h15  _ _ _ hw hH (lv_sub hl [2, 3, 1, 0] rfl)
  refine lv_iconst (v := 0) B.1 B.2.1 dX8_soundLater_0 (by decide) ?_
  refine lv_istore_n (lv' := [(3, .int 0), (0, .ref (zA Z a0)), (1, .long a1)]) B.1 B.2.1 dX8_soundLater_1 rfl hl (by decide) (by first | rfl | simp [va_re_cat, Value.category]) ?_
  clear hl
  intro ls hl
  refine lv_iconst (v := 0) B.1 B.2.1 dX8_soundLater_2 (by decide) ?_
  refine lv_istore (lv' := [(4, .int 0), (3, .int 0), (0, .ref (zA Z a0)), (1, .long a1)]) B.1 B.2.1 dX8_soundLater_3 hl (by decide) (by first | rfl | simp [va_re_cat, Value.category]) ?_
  clear hl
  intro ls hl
  obtain ⟨n19, hw⟩ := hw
  exact L5 a0 a1 (k0) n19 0 0 h  _ _ _ hw hH (lv_sub hl [2, 3, 1, 0] rfl)
theorem cy_X8_goOn {s : State} {args : Array Value} (hG : GG s) : CYS s args yX8_goOn cX8_goOn 3 (some .int) 2 := CYS.of hG (fun _ _ hG => tw_1128 hG) (tw_8 hG) (tw_1127 hG) (by decide +kernel)
set_option maxRecDepth 100000 in
set_option maxHeartbeats 4000000 in
theorem ct_X8_goOn {Z : ZT} (hZ : ZO Z) (l : Launch) (a0 : Nat) (a1 : Int32) (h : PH) (sz : Nat) (Q : Int32 → PH → Prop) (k0 : kd a0 = 10) (hw : wp_X8_goOn a0 a1 h Q) : MI Z l yX8_goOn cX8_goOn 3 (some .int) ({ frames := 4, cells := 0, slots := 0, locals := 90 } : Room) h sz [.ref (zA Z a0), .int a1] Q := by
  refine open_M hZ (by decide +kernel) (by exact Nat.le_of_ble_eq_true rfl) ?_
  intro p e s m below meth c B hr hsz ls hl hH
  subst hsz
  have hl : lv_has ls 3 [(0, .ref (zA Z a0)), (1, .int a1)] := hl
  unfold wp_X8_goOn at hw
  have L2 : ∀ (b0 : Nat) (b1 : Int32), kd b0 = 10 → ∀ (n : Nat) (b2 : Int32) (h : PH), ∀ (H : Heap) (locs : List Loc) (ls : Array Slot), wp_X8_goOn_b2 b0 b1 Q n b2 h → HH Z s h H locs → lv_has ls 3 [(0, .ref (zA Z b0)), (1, .int b1), (2, .int b2)] → W p l e ({ frames := 4, cells := 0, slots := 0, locals := 90 } : Room) s m ([.ref (zA Z a0), .int a1]).toArray below meth c H locs 0 0 (MQ below (va_Qi Q (BZ Z) (fr Z s.heap.size)) ([.ref (zA Z a0), .int a1]).toArray s 0 0 (fr Z s.heap.size)) (F0 m 2 ls []) := by
    intro b0 b1 kb0 n
    induction n with
    | zero => intro b2 h H locs ls hw hH hl; exact absurd hw id
    | succ n ih =>
      intro b2 h H locs ls hw hH hl
      unfold wp_X8_goOn_b2 at hw
      refine lv_iload_n B.1 B.2.1 dX8_goOn_2 rfl (lv_at hl 2 rfl) ?_
      refine lv_aload_n B.1 B.2.1 dX8_goOn_3 rfl (lv_at hl 0 rfl) ?_
      refine lv_iconst (v := 1) B.1 B.2.1 dX8_goOn_4 (by decide) ?_
      have q1 := hw.1
      replace hw := hw.2
      refine r_iald B hH (kb0) q1 dX8_goOn_5 ?_
      refine lv_icmp_ge (tgt := 37) B.1 B.2.1 dX8_goOn_6 (by decide) (fun c2 => ?_) (fun c2 => ?_)
      · replace hw := hw.1 c2
        refine lv_aload_n B.1 B.2.1 dX8_goOn_37 rfl (lv_at hl 0 rfl) ?_
        refine lv_iconst (v := 2) B.1 B.2.1 dX8_goOn_38 (by decide) ?_
        refine lv_dup2_11 B.1 B.2.1 dX8_goOn_39 rfl rfl ?_
        have q3 := hw.1
        replace hw := hw.2
        refine r_iald B hH (kb0) q3 dX8_goOn_40 ?_
        refine lv_iload_n B.1 B.2.1 dX8_goOn_41 rfl (lv_at hl 1 rfl) ?_
        refine lv_iadd B.1 B.2.1 dX8_goOn_42 ?_
        have q4 := hw.1
        replace hw := hw.2
        refine r_iast B hH (kb0) q4 dX8_goOn_43 ?_
        clear hH
        intro H locs hH
        obtain ⟨h5, eh5⟩ : ∃ z : PH, z = up2 h b0 (2 : Int32).toNatClampNeg ((h b0 (2 : Int32).toNatClampNeg) + b1) := ⟨_, rfl⟩
        rw [← eh5] at hH
        replace hw := hw h5 eh5
        refine lv_aload_n B.1 B.2.1 dX8_goOn_44 rfl (lv_at hl 0 rfl) ?_
        refine lv_lconst (v := 0) B.1 B.2.1 dX8_goOn_45 (by decide) ?_
        refine c_S_I (own := RX8) (As := [.ref (zA Z b0), .long 0]) (rest := []) B hH (cy_X8_soundLater B.2.2.2.2.1) (ct_X8_soundLater B.2.2.2.2.2.2.2 l b0 0 h5 _ _ (kb0) hw) ⟨⟨rfl, rfl⟩, Nat.le_of_ble_eq_true rfl, Nat.le_of_ble_eq_true rfl, Nat.zero_le _, Nat.zero_le _⟩ (tw_1114 B.2.2.2.2.1) rfl hl.1 rfl (Nat.le_of_ble_eq_true rfl) dX8_goOn_46 ?_
        clear hw hH
        intro r7 h6 H locs hw hH
        exact e_i B hr hH hw dX8_goOn_49
      · replace hw := hw.2 c2
        refine lv_aload_n B.1 B.2.1 dX8_goOn_9 rfl (lv_at hl 0 rfl) ?_
        refine lv_iload_n B.1 B.2.1 dX8_goOn_10 rfl (lv_at hl 2 rfl) ?_
        refine lv_iconst (v := 0) B.1 B.2.1 dX8_goOn_11 (by decide) ?_
        refine c_S_I (own := RX8) (As := [.ref (zA Z b0), .int b2, .int 0]) (rest := []) B hH (cy_X8_of B.2.2.2.2.1) (ct_X8_of B.2.2.2.2.2.2.2 l b0 b2 0 h _ _ (kb0) hw) ⟨⟨rfl, rfl⟩, Nat.le_of_ble_eq_true rfl, Nat.le_of_ble_eq_true rfl, Nat.zero_le _, Nat.zero_le _⟩ (tw_1098 B.2.2.2.2.1) rfl hl.1 rfl (Nat.le_of_ble_eq_true rfl) dX8_goOn_12 ?_
        clear hw hH
        intro r9 h8 H locs hw hH
        refine lv_if_le (tgt := 31) B.1 B.2.1 dX8_goOn_15 (by decide) (fun c10 => ?_) (fun c10 => ?_)
        · replace hw := hw.1 c10
          obtain ⟨x11, ex11⟩ : ∃ y : Int32, y = b2 + 1 := ⟨_, rfl⟩
          replace hw := hw x11 ex11
          refine lv_iinc (v := x11) (lv' := [(2, .int x11), (0, .ref (zA Z b0)), (1, .int b1)]) B.1 B.2.1 dX8_goOn_31 hl (k := 2) rfl (by rw [ex11]; rfl) (by decide) (by first | rfl | simp [va_re_cat, Value.category]) ?_
          clear hl
          intro ls hl
          refine lv_goto (tgt := 2) B.1 B.2.1 dX8_goOn_34 (by decide) ?_
          exact ih x11 h8  _ _ _ hw hH (lv_sub hl [1, 2, 0] rfl)
        · replace hw := hw.2 c10
          refine lv_aload_n B.1 B.2.1 dX8_goOn_18 rfl (lv_at hl 0 rfl) ?_
          refine lv_iload_n B.1 B.2.1 dX8_goOn_19 rfl (lv_at hl 2 rfl) ?_
          refine lv_iconst (v := 3) B.1 B.2.1 dX8_goOn_20 (by decide) ?_
          refine lv_aload_n B.1 B.2.1 dX8_goOn_21 rfl (lv_at hl 0 rfl) ?_
          refine lv_iload_n B.1 B.2.1 dX8_goOn_22 rfl (lv_at hl 2 rfl) ?_
          refine lv_iload_n B.1 B.2.1 dX8_goOn_23 rfl (lv_at hl 1 rfl) ?_
          refine lv_i2l B.1 B.2.1 dX8_goOn_24 rfl ?_
          refine c_S_I (own := RX8) (As := [.ref (zA Z b0), .int b2, .long (b1.toInt64)]) (rest := [.int 3, .int b2, .ref (zA Z b0)]) B hH (cy_X8_phaseIn B.2.2.2.2.1) (ct_X8_phaseIn B.2.2.2.2.2.2.2 l b0 b2 (b1.toInt64) h8 _ _ (kb0) hw) ⟨⟨rfl, rfl⟩, Nat.le_of_ble_eq_true rfl, Nat.le_of_ble_eq_true rfl, Nat.zero_le _, Nat.zero_le _⟩ (tw_1117 B.2.2.2.2.1) rfl hl.1 rfl (Nat.le_of_ble_eq_true rfl) dX8_goOn_25 ?_
          clear hw hH
          intro r13 h12 H locs hw hH
          refine c_S_V (own := RX8) (As := [.ref (zA Z b0), .int b2, .int 3, .int r13]) (rest := []) B hH (cy_X8_lay B.2.2.2.2.1) (ct_X8_lay B.2.2.2.2.2.2.2 l b0 b2 3 r13 h12 _ _ (kb0) hw) ⟨⟨rfl, rfl⟩, Nat.le_of_ble_eq_true rfl, Nat.le_of_ble_eq_true rfl, Nat.zero_le _, Nat.zero_le _⟩ (tw_1072 B.2.2.2.2.1) rfl hl.1 rfl (Nat.le_of_ble_eq_true rfl) dX8_goOn_28 ?_
          clear hw hH
          intro h14 H locs hw hH
          obtain ⟨x15, ex15⟩ : ∃ y : Int32, y = b2 + 1 := ⟨_, rfl⟩
          replace hw := hw x15 ex15
          refine lv_iinc (v := x15) (lv' := [(2, .int x15), (0, .ref (zA Z b0)), (1, .int b1)]) B.1 B.2.1 dX8_goOn_31 hl (k := 2) rfl (by rw [ex15]; rfl) (by decide) (by first | rfl | simp [va_re_cat, Value.category]) ?_
          clear hl
          intro ls hl
          refine lv_goto (tgt := 2) B.1 B.2.1 dX8_goOn_34 (by decide) ?_
          exact ih x15 h14  _ _ _ hw hH (lv_sub hl [1, 2, 0] rfl)
  refine lv_iconst (v := 0) B.1 B.2.1 dX8_goOn_0 (by decide) ?_
  refine lv_istore_n (lv' := [(2, .int 0), (0, .ref (zA Z a0)), (1, .int a1)]) B.1 B.2.1 dX8_goOn_1 rfl hl (by decide) (by first | rfl | simp [va_re_cat, Value.category]) ?_
  clear hl
  intro ls hl
  obtain ⟨n16, hw⟩ := hw
  exact L2 a0 a1 (k0) n16 0 h  _ _ _ hw hH (lv_sub hl [1, 2, 0] rfl)
theorem cy_X8_reelOn {s : State} {args : Array Value} (hG : GG s) : CYS s args yX8_reelOn cX8_reelOn 4 (some .int) 2 := CYS.of hG (fun _ _ hG => tw_1040 hG) (tw_8 hG) (tw_1039 hG) (by decide +kernel)
set_option maxRecDepth 100000 in
set_option maxHeartbeats 4000000 in
theorem ct_X8_reelOn {Z : ZT} (hZ : ZO Z) (l : Launch) (a0 : Nat) (a1 : Int32) (h : PH) (sz : Nat) (Q : Int32 → PH → Prop) (k0 : kd a0 = 10) (hw : wp_X8_reelOn a0 a1 h Q) : MI Z l yX8_reelOn cX8_reelOn 4 (some .int) ({ frames := 0, cells := 0, slots := 0, locals := 0 } : Room) h sz [.ref (zA Z a0), .int a1] Q := by
  refine open_M hZ (by decide +kernel) (by exact Nat.le_of_ble_eq_true rfl) ?_
  intro p e s m below meth c B hr hsz ls hl hH
  subst hsz
  have hl : lv_has ls 4 [(0, .ref (zA Z a0)), (1, .int a1)] := hl
  unfold wp_X8_reelOn at hw
  have L15 : ∀ (b0 : Nat) (b2 : Int32), kd b0 = 10 → ∀ (n : Nat) (b3 : Int32) (h : PH), ∀ (H : Heap) (locs : List Loc) (ls : Array Slot), wp_X8_reelOn_b15 b0 b2 Q n b3 h → HH Z s h H locs → lv_has ls 4 [(0, .ref (zA Z b0)), (2, .int b2), (3, .int b3)] → W p l e ({ frames := 0, cells := 0, slots := 0, locals := 0 } : Room) s m ([.ref (zA Z a0), .int a1]).toArray below meth c H locs 0 0 (MQ below (va_Qi Q (BZ Z) (fr Z s.heap.size)) ([.ref (zA Z a0), .int a1]).toArray s 0 0 (fr Z s.heap.size)) (F0 m 15 ls []) := by
    intro b0 b2 kb0 n
    induction n with
    | zero => intro b3 h H locs ls hw hH hl; exact absurd hw id
    | succ n ih =>
      intro b3 h H locs ls hw hH hl
      unfold wp_X8_reelOn_b15 at hw
      refine lv_iload_n B.1 B.2.1 dX8_reelOn_15 rfl (lv_at hl 2 rfl) ?_
      refine lv_bipush (v := 60) B.1 B.2.1 dX8_reelOn_16 (by decide) ?_
      refine lv_icmp_ge (tgt := 40) B.1 B.2.1 dX8_reelOn_18 (by decide) (fun c5 => ?_) (fun c5 => ?_)
      · replace hw := hw.1 c5
        refine lv_aload_n B.1 B.2.1 dX8_reelOn_40 rfl (lv_at hl 0 rfl) ?_
        refine lv_iconst (v := 0) B.1 B.2.1 dX8_reelOn_41 (by decide) ?_
        refine lv_dup2_11 B.1 B.2.1 dX8_reelOn_42 rfl rfl ?_
        have q6 := hw.1
        replace hw := hw.2
        refine r_iald B hH (kb0) q6 dX8_reelOn_43 ?_
        refine lv_iconst (v := 1) B.1 B.2.1 dX8_reelOn_44 (by decide) ?_
        refine lv_iadd B.1 B.2.1 dX8_reelOn_45 ?_
        have q7 := hw.1
        replace hw := hw.2
        refine r_iast B hH (kb0) q7 dX8_reelOn_46 ?_
        clear hH
        intro H locs hH
        obtain ⟨h8, eh8⟩ : ∃ z : PH, z = up2 h b0 (0 : Int32).toNatClampNeg ((h b0 (0 : Int32).toNatClampNeg) + 1) := ⟨_, rfl⟩
        rw [← eh8] at hH
        replace hw := hw h8 eh8
        refine lv_iload_n B.1 B.2.1 dX8_reelOn_47 rfl (lv_at hl 1 rfl) ?_
        exact e_i B hr hH hw dX8_reelOn_48
      · replace hw := hw.2 c5
        refine lv_aload_n B.1 B.2.1 dX8_reelOn_21 rfl (lv_at hl 0 rfl) ?_
        refine lv_iconst (v := 4) B.1 B.2.1 dX8_reelOn_22 (by decide) ?_
        refine lv_bipush (v := 61) B.1 B.2.1 dX8_reelOn_23 (by decide) ?_
        refine lv_iload_n B.1 B.2.1 dX8_reelOn_25 rfl (lv_at hl 1 rfl) ?_
        refine lv_imul B.1 B.2.1 dX8_reelOn_26 ?_
        refine lv_iadd B.1 B.2.1 dX8_reelOn_27 ?_
        refine lv_iconst (v := 1) B.1 B.2.1 dX8_reelOn_28 (by decide) ?_
        refine lv_iadd B.1 B.2.1 dX8_reelOn_29 ?_
        refine lv_iload_n B.1 B.2.1 dX8_reelOn_30 rfl (lv_at hl 2 rfl) ?_
        refine lv_iadd B.1 B.2.1 dX8_reelOn_31 ?_
        refine lv_iconst (v := 0) B.1 B.2.1 dX8_reelOn_32 (by decide) ?_
        have q9 := hw.1
        replace hw := hw.2
        refine r_iast B hH (kb0) q9 dX8_reelOn_33 ?_
        clear hH
        intro H locs hH
        obtain ⟨h10, eh10⟩ : ∃ z : PH, z = up2 h b0 (((4 + (61 * b2)) + 1) + b3).toNatClampNeg 0 := ⟨_, rfl⟩
        rw [← eh10] at hH
        replace hw := hw h10 eh10
        obtain ⟨x11, ex11⟩ : ∃ y : Int32, y = b3 + 1 := ⟨_, rfl⟩
        replace hw := hw x11 ex11
        refine lv_iinc (v := x11) (lv' := [(3, .int x11), (0, .ref (zA Z b0)), (2, .int b2)]) B.1 B.2.1 dX8_reelOn_34 hl (k := 2) rfl (by rw [ex11]; rfl) (by decide) (by first | rfl | simp [va_re_cat, Value.category]) ?_
        clear hl
        intro ls hl
        refine lv_goto (tgt := 15) B.1 B.2.1 dX8_reelOn_37 (by decide) ?_
        exact ih x11 h10  _ _ _ hw hH (lv_sub hl [1, 2, 0] rfl)
  refine lv_aload_n B.1 B.2.1 dX8_reelOn_0 rfl (lv_at hl 0 rfl) ?_
  refine lv_iconst (v := 0) B.1 B.2.1 dX8_reelOn_1 (by decide) ?_
  have q1 := hw.1
  replace hw := hw.2
  refine r_iald B hH (k0) q1 dX8_reelOn_2 ?_
  refine lv_topi (fun x2 ex2 => ?_)
  replace hw := hw x2 ex2
  refine lv_istore_n (lv' := [(2, .int x2), (0, .ref (zA Z a0)), (1, .int a1)]) B.1 B.2.1 dX8_reelOn_3 rfl hl (by decide) (by first | rfl | simp [va_re_cat, Value.category]) ?_
  clear hl
  intro ls hl
  refine lv_aload_n B.1 B.2.1 dX8_reelOn_4 rfl (lv_at hl 1 rfl) ?_
  refine lv_iconst (v := 4) B.1 B.2.1 dX8_reelOn_5 (by decide) ?_
  refine lv_bipush (v := 61) B.1 B.2.1 dX8_reelOn_6 (by decide) ?_
  refine lv_iload_n B.1 B.2.1 dX8_reelOn_8 rfl (lv_at hl 0 rfl) ?_
  refine lv_imul B.1 B.2.1 dX8_reelOn_9 ?_
  refine lv_iadd B.1 B.2.1 dX8_reelOn_10 ?_
  refine lv_iload_n B.1 B.2.1 dX8_reelOn_11 rfl (lv_at hl 2 rfl) ?_
  have q3 := hw.1
  replace hw := hw.2
  refine r_iast B hH (k0) q3 dX8_reelOn_12 ?_
  clear hH
  intro H locs hH
  obtain ⟨h4, eh4⟩ : ∃ z : PH, z = up2 h a0 (4 + (61 * x2)).toNatClampNeg a1 := ⟨_, rfl⟩
  rw [← eh4] at hH
  replace hw := hw h4 eh4
  refine lv_iconst (v := 0) B.1 B.2.1 dX8_reelOn_13 (by decide) ?_
  refine lv_istore_n (lv' := [(3, .int 0), (2, .int x2), (0, .ref (zA Z a0)), (1, .int a1)]) B.1 B.2.1 dX8_reelOn_14 rfl hl (by decide) (by first | rfl | simp [va_re_cat, Value.category]) ?_
  clear hl
  intro ls hl
  obtain ⟨n12, hw⟩ := hw
  exact L15 a0 x2 (k0) n12 0 h4  _ _ _ hw hH (lv_sub hl [2, 1, 0] rfl)
theorem cy_X8_paintOn {s : State} {args : Array Value} (hG : GG s) : CYS s args yX8_paintOn cX8_paintOn 8 (some .int) 5 := CYS.of hG (fun _ _ hG => tw_1068 hG) (tw_8 hG) (tw_1067 hG) (by decide +kernel)
set_option maxRecDepth 100000 in
set_option maxHeartbeats 4000000 in
theorem ct_X8_paintOn {Z : ZT} (hZ : ZO Z) (l : Launch) (a0 : Nat) (a1 : Int32) (a2 : Int32) (a3 : Int32) (a4 : Int32) (h : PH) (sz : Nat) (Q : Int32 → PH → Prop) (k0 : kd a0 = 10) (hw : wp_X8_paintOn a0 a1 a2 a3 a4 h Q) : MI Z l yX8_paintOn cX8_paintOn 8 (some .int) ({ frames := 0, cells := 0, slots := 0, locals := 0 } : Room) h sz [.ref (zA Z a0), .int a1, .int a2, .int a3, .int a4] Q := by
  refine open_M hZ (by decide +kernel) (by exact Nat.le_of_ble_eq_true rfl) ?_
  intro p e s m below meth c B hr hsz ls hl hH
  subst hsz
  have hl : lv_has ls 8 [(0, .ref (zA Z a0)), (1, .int a1), (2, .int a2), (3, .int a3), (4, .int a4)] := hl
  unfold wp_X8_paintOn at hw
  have L6 : ∀ (b0 : Nat) (b1 : Int32) (b3 : Int32) (b4 : Int32), kd b0 = 10 → ∀ (n : Nat) (b5 : Int32) (b6 : Int32) (h : PH), ∀ (H : Heap) (locs : List Loc) (ls : Array Slot), wp_X8_paintOn_b6 b0 b1 b3 b4 Q n b5 b6 h → HH Z s h H locs → lv_has ls 8 [(0, .ref (zA Z b0)), (1, .int b1), (3, .int b3), (4, .int b4), (5, .int b5), (6, .int b6)] → W p l e ({ frames := 0, cells := 0, slots := 0, locals := 0 } : Room) s m ([.ref (zA Z a0), .int a1, .int a2, .int a3, .int a4]).toArray below meth c H locs 0 0 (MQ below (va_Qi Q (BZ Z) (fr Z s.heap.size)) ([.ref (zA Z a0), .int a1, .int a2, .int a3, .int a4]).toArray s 0 0 (fr Z s.heap.size)) (F0 m 6 ls []) := by
    intro b0 b1 b3 b4 kb0 n
    induction n with
    | zero => intro b5 b6 h H locs ls hw hH hl; exact absurd hw id
    | succ n ih =>
      intro b5 b6 h H locs ls hw hH hl
      unfold wp_X8_paintOn_b6 at hw
      refine lv_iload B.1 B.2.1 dX8_paintOn_6 (lv_at hl 5 rfl) ?_
      refine lv_iload_n B.1 B.2.1 dX8_paintOn_8 rfl (lv_at hl 2 rfl) ?_
      refine lv_icmp_gt (tgt := 56) B.1 B.2.1 dX8_paintOn_9 (by decide) (fun c1 => ?_) (fun c1 => ?_)
      · replace hw := hw.1 c1
        refine lv_iload B.1 B.2.1 dX8_paintOn_56 (lv_at hl 4 rfl) ?_
        exact e_i B hr hH hw dX8_paintOn_58
      · replace hw := hw.2 c1
        refine lv_iconst (v := 4) B.1 B.2.1 dX8_paintOn_12 (by decide) ?_
        refine lv_bipush (v := 61) B.1 B.2.1 dX8_paintOn_13 (by decide) ?_
        refine lv_iload_n B.1 B.2.1 dX8_paintOn_15 rfl (lv_at hl 1 rfl) ?_
        refine lv_imul B.1 B.2.1 dX8_paintOn_16 ?_
        refine lv_iadd B.1 B.2.1 dX8_paintOn_17 ?_
        refine lv_iconst (v := 1) B.1 B.2.1 dX8_paintOn_18 (by decide) ?_
        refine lv_iadd B.1 B.2.1 dX8_paintOn_19 ?_
        refine lv_iload B.1 B.2.1 dX8_paintOn_20 (lv_at hl 5 rfl) ?_
        refine lv_iadd B.1 B.2.1 dX8_paintOn_22 ?_
        refine lv_topi (fun x2 ex2 => ?_)
        replace hw := hw x2 ex2
        refine lv_istore (lv' := [(7, .int x2), (0, .ref (zA Z b0)), (1, .int b1), (3, .int b3), (4, .int b4), (5, .int b5), (6, .int b6)]) B.1 B.2.1 dX8_paintOn_23 hl (by decide) (by first | rfl | simp [va_re_cat, Value.category]) ?_
        clear hl
        intro ls hl
        refine lv_iload B.1 B.2.1 dX8_paintOn_25 (lv_at hl 5 rfl) ?_
        refine lv_aload_n B.1 B.2.1 dX8_paintOn_27 rfl (lv_at hl 1 rfl) ?_
        refine lv_iload B.1 B.2.1 dX8_paintOn_28 (lv_at hl 0 rfl) ?_
        have q3 := hw.1
        replace hw := hw.2
        refine r_iald B hH (kb0) q3 dX8_paintOn_30 ?_
        refine lv_iload B.1 B.2.1 dX8_paintOn_31 (lv_at hl 4 rfl) ?_
        refine lv_icmp_ne (tgt := 40) B.1 B.2.1 dX8_paintOn_33 (by decide) (fun c4 => ?_) (fun c4 => ?_)
        · replace hw := hw.1 c4
          refine lv_iconst (v := 1) B.1 B.2.1 dX8_paintOn_40 (by decide) ?_
          refine lv_iadd B.1 B.2.1 dX8_paintOn_41 ?_
          refine lv_topi (fun x5 ex5 => ?_)
          replace hw := hw x5 ex5
          refine lv_istore (lv' := [(5, .int x5), (7, .int x2), (0, .ref (zA Z b0)), (1, .int b1), (3, .int b3), (4, .int b4), (6, .int b6)]) B.1 B.2.1 dX8_paintOn_42 hl (by decide) (by first | rfl | simp [va_re_cat, Value.category]) ?_
          clear hl
          intro ls hl
          refine lv_aload_n B.1 B.2.1 dX8_paintOn_44 rfl (lv_at hl 2 rfl) ?_
          refine lv_iload B.1 B.2.1 dX8_paintOn_45 (lv_at hl 1 rfl) ?_
          refine lv_iload B.1 B.2.1 dX8_paintOn_47 (lv_at hl 5 rfl) ?_
          have q6 := hw.1
          replace hw := hw.2
          refine r_iast B hH (kb0) q6 dX8_paintOn_49 ?_
          clear hH
          intro H locs hH
          obtain ⟨h7, eh7⟩ : ∃ z : PH, z = up2 h b0 x2.toNatClampNeg b4 := ⟨_, rfl⟩
          rw [← eh7] at hH
          replace hw := hw h7 eh7
          obtain ⟨x8, ex8⟩ : ∃ y : Int32, y = b6 + 1 := ⟨_, rfl⟩
          replace hw := hw x8 ex8
          refine lv_iinc (v := x8) (lv' := [(6, .int x8), (5, .int x5), (7, .int x2), (0, .ref (zA Z b0)), (1, .int b1), (3, .int b3), (4, .int b4)]) B.1 B.2.1 dX8_paintOn_50 hl (k := 6) rfl (by rw [ex8]; rfl) (by decide) (by first | rfl | simp [va_re_cat, Value.category]) ?_
          clear hl
          intro ls hl
          refine lv_goto (tgt := 6) B.1 B.2.1 dX8_paintOn_53 (by decide) ?_
          exact ih x5 x8 h7  _ _ _ hw hH (lv_sub hl [3, 4, 5, 6, 1, 0] rfl)
        · replace hw := hw.2 c4
          refine lv_iconst (v := 0) B.1 B.2.1 dX8_paintOn_36 (by decide) ?_
          refine lv_goto (tgt := 41) B.1 B.2.1 dX8_paintOn_37 (by decide) ?_
          refine lv_iadd B.1 B.2.1 dX8_paintOn_41 ?_
          refine lv_topi (fun x9 ex9 => ?_)
          replace hw := hw x9 ex9
          refine lv_istore (lv' := [(5, .int x9), (7, .int x2), (0, .ref (zA Z b0)), (1, .int b1), (3, .int b3), (4, .int b4), (6, .int b6)]) B.1 B.2.1 dX8_paintOn_42 hl (by decide) (by first | rfl | simp [va_re_cat, Value.category]) ?_
          clear hl
          intro ls hl
          refine lv_aload_n B.1 B.2.1 dX8_paintOn_44 rfl (lv_at hl 2 rfl) ?_
          refine lv_iload B.1 B.2.1 dX8_paintOn_45 (lv_at hl 1 rfl) ?_
          refine lv_iload B.1 B.2.1 dX8_paintOn_47 (lv_at hl 5 rfl) ?_
          have q10 := hw.1
          replace hw := hw.2
          refine r_iast B hH (kb0) q10 dX8_paintOn_49 ?_
          clear hH
          intro H locs hH
          obtain ⟨h11, eh11⟩ : ∃ z : PH, z = up2 h b0 x2.toNatClampNeg b4 := ⟨_, rfl⟩
          rw [← eh11] at hH
          replace hw := hw h11 eh11
          obtain ⟨x12, ex12⟩ : ∃ y : Int32, y = b6 + 1 := ⟨_, rfl⟩
          replace hw := hw x12 ex12
          refine lv_iinc (v := x12) (lv' := [(6, .int x12), (5, .int x9), (7, .int x2), (0, .ref (zA Z b0)), (1, .int b1), (3, .int b3), (4, .int b4)]) B.1 B.2.1 dX8_paintOn_50 hl (k := 6) rfl (by rw [ex12]; rfl) (by decide) (by first | rfl | simp [va_re_cat, Value.category]) ?_
          clear hl
          intro ls hl
          refine lv_goto (tgt := 6) B.1 B.2.1 dX8_paintOn_53 (by decide) ?_
          exact ih x9 x12 h11  _ _ _ hw hH (lv_sub hl [3, 4, 5, 6, 1, 0] rfl)
  refine lv_iconst (v := 0) B.1 B.2.1 dX8_paintOn_0 (by decide) ?_
  refine lv_istore (lv' := [(5, .int 0), (0, .ref (zA Z a0)), (1, .int a1), (2, .int a2), (3, .int a3), (4, .int a4)]) B.1 B.2.1 dX8_paintOn_1 hl (by decide) (by first | rfl | simp [va_re_cat, Value.category]) ?_
  clear hl
  intro ls hl
  refine lv_iload_n B.1 B.2.1 dX8_paintOn_3 rfl (lv_at hl 3 rfl) ?_
  refine lv_istore (lv' := [(6, .int a2), (5, .int 0), (0, .ref (zA Z a0)), (1, .int a1), (2, .int a2), (3, .int a3), (4, .int a4)]) B.1 B.2.1 dX8_paintOn_4 hl (by decide) (by first | rfl | simp [va_re_cat, Value.category]) ?_
  clear hl
  intro ls hl
  obtain ⟨n13, hw⟩ := hw
  exact L6 a0 a1 a3 a4 (k0) n13 0 a2 h  _ _ _ hw hH (lv_sub hl [2, 3, 5, 6, 1, 0] rfl)
theorem cy_X8_loopOn {s : State} {args : Array Value} (hG : GG s) : CYS s args yX8_loopOn cX8_loopOn 3 (some .int) 1 := CYS.of hG (fun _ _ hG => tw_1071 hG) (tw_8 hG) (tw_1070 hG) (by decide +kernel)
set_option maxRecDepth 100000 in
set_option maxHeartbeats 4000000 in
theorem ct_X8_loopOn {Z : ZT} (hZ : ZO Z) (l : Launch) (a0 : Nat) (h : PH) (sz : Nat) (Q : Int32 → PH → Prop) (k0 : kd a0 = 10) (hw : wp_X8_loopOn a0 h Q) : MI Z l yX8_loopOn cX8_loopOn 3 (some .int) ({ frames := 1, cells := 0, slots := 0, locals := 23 } : Room) h sz [.ref (zA Z a0)] Q := by
  refine open_M hZ (by decide +kernel) (by exact Nat.le_of_ble_eq_true rfl) ?_
  intro p e s m below meth c B hr hsz ls hl hH
  subst hsz
  have hl : lv_has ls 3 [(0, .ref (zA Z a0))] := hl
  unfold wp_X8_loopOn at hw
  have L6 : ∀ (b0 : Nat) (b1 : Int32), kd b0 = 10 → ∀ (n : Nat) (b2 : Int32) (h : PH), ∀ (H : Heap) (locs : List Loc) (ls : Array Slot), wp_X8_loopOn_b6 b0 b1 Q n b2 h → HH Z s h H locs → lv_has ls 3 [(0, .ref (zA Z b0)), (1, .int b1), (2, .int b2)] → W p l e ({ frames := 1, cells := 0, slots := 0, locals := 23 } : Room) s m ([.ref (zA Z a0)]).toArray below meth c H locs 0 0 (MQ below (va_Qi Q (BZ Z) (fr Z s.heap.size)) ([.ref (zA Z a0)]).toArray s 0 0 (fr Z s.heap.size)) (F0 m 6 ls []) := by
    intro b0 b1 kb0 n
    induction n with
    | zero => intro b2 h H locs ls hw hH hl; exact absurd hw id
    | succ n ih =>
      intro b2 h H locs ls hw hH hl
      unfold wp_X8_loopOn_b6 at hw
      refine lv_iload_n B.1 B.2.1 dX8_loopOn_6 rfl (lv_at hl 2 rfl) ?_
      refine lv_bipush (v := 60) B.1 B.2.1 dX8_loopOn_7 (by decide) ?_
      refine lv_icmp_ge (tgt := 25) B.1 B.2.1 dX8_loopOn_9 (by decide) (fun c3 => ?_) (fun c3 => ?_)
      · replace hw := hw.1 c3
        refine lv_aload_n B.1 B.2.1 dX8_loopOn_25 rfl (lv_at hl 0 rfl) ?_
        refine lv_iload_n B.1 B.2.1 dX8_loopOn_26 rfl (lv_at hl 1 rfl) ?_
        refine lv_iconst (v := 1) B.1 B.2.1 dX8_loopOn_27 (by decide) ?_
        refine lv_iconst (v := 1) B.1 B.2.1 dX8_loopOn_28 (by decide) ?_
        refine c_S_V (own := RX8) (As := [.ref (zA Z b0), .int b1, .int 1, .int 1]) (rest := []) B hH (cy_X8_lay B.2.2.2.2.1) (ct_X8_lay B.2.2.2.2.2.2.2 l b0 b1 1 1 h _ _ (kb0) hw) ⟨⟨rfl, rfl⟩, Nat.le_of_ble_eq_true rfl, Nat.le_of_ble_eq_true rfl, Nat.zero_le _, Nat.zero_le _⟩ (tw_1072 B.2.2.2.2.1) rfl hl.1 rfl (Nat.le_of_ble_eq_true rfl) dX8_loopOn_29 ?_
        clear hw hH
        intro h4 H locs hw hH
        refine lv_aload_n B.1 B.2.1 dX8_loopOn_32 rfl (lv_at hl 0 rfl) ?_
        refine lv_iload_n B.1 B.2.1 dX8_loopOn_33 rfl (lv_at hl 1 rfl) ?_
        refine lv_iconst (v := 2) B.1 B.2.1 dX8_loopOn_34 (by decide) ?_
        refine lv_iconst (v := 1) B.1 B.2.1 dX8_loopOn_35 (by decide) ?_
        refine c_S_V (own := RX8) (As := [.ref (zA Z b0), .int b1, .int 2, .int 1]) (rest := []) B hH (cy_X8_lay B.2.2.2.2.1) (ct_X8_lay B.2.2.2.2.2.2.2 l b0 b1 2 1 h4 _ _ (kb0) hw) ⟨⟨rfl, rfl⟩, Nat.le_of_ble_eq_true rfl, Nat.le_of_ble_eq_true rfl, Nat.zero_le _, Nat.zero_le _⟩ (tw_1072 B.2.2.2.2.1) rfl hl.1 rfl (Nat.le_of_ble_eq_true rfl) dX8_loopOn_36 ?_
        clear hw hH
        intro h5 H locs hw hH
        refine lv_aload_n B.1 B.2.1 dX8_loopOn_39 rfl (lv_at hl 0 rfl) ?_
        refine lv_iconst (v := 1) B.1 B.2.1 dX8_loopOn_40 (by decide) ?_
        refine lv_dup2_11 B.1 B.2.1 dX8_loopOn_41 rfl rfl ?_
        have q6 := hw.1
        replace hw := hw.2
        refine r_iald B hH (kb0) q6 dX8_loopOn_42 ?_
        refine lv_iconst (v := 1) B.1 B.2.1 dX8_loopOn_43 (by decide) ?_
        refine lv_iadd B.1 B.2.1 dX8_loopOn_44 ?_
        have q7 := hw.1
        replace hw := hw.2
        refine r_iast B hH (kb0) q7 dX8_loopOn_45 ?_
        clear hH
        intro H locs hH
        obtain ⟨h8, eh8⟩ : ∃ z : PH, z = up2 h5 b0 (1 : Int32).toNatClampNeg ((h5 b0 (1 : Int32).toNatClampNeg) + 1) := ⟨_, rfl⟩
        rw [← eh8] at hH
        replace hw := hw h8 eh8
        refine lv_iload_n B.1 B.2.1 dX8_loopOn_46 rfl (lv_at hl 1 rfl) ?_
        exact e_i B hr hH hw dX8_loopOn_47
      · replace hw := hw.2 c3
        refine lv_aload_n B.1 B.2.1 dX8_loopOn_12 rfl (lv_at hl 0 rfl) ?_
        refine lv_iload_n B.1 B.2.1 dX8_loopOn_13 rfl (lv_at hl 1 rfl) ?_
        refine lv_iload_n B.1 B.2.1 dX8_loopOn_14 rfl (lv_at hl 2 rfl) ?_
        refine lv_iconst (v := 0) B.1 B.2.1 dX8_loopOn_15 (by decide) ?_
        refine c_S_V (own := RX8) (As := [.ref (zA Z b0), .int b1, .int b2, .int 0]) (rest := []) B hH (cy_X8_lay B.2.2.2.2.1) (ct_X8_lay B.2.2.2.2.2.2.2 l b0 b1 b2 0 h _ _ (kb0) hw) ⟨⟨rfl, rfl⟩, Nat.le_of_ble_eq_true rfl, Nat.le_of_ble_eq_true rfl, Nat.zero_le _, Nat.zero_le _⟩ (tw_1072 B.2.2.2.2.1) rfl hl.1 rfl (Nat.le_of_ble_eq_true rfl) dX8_loopOn_16 ?_
        clear hw hH
        intro h9 H locs hw hH
        obtain ⟨x10, ex10⟩ : ∃ y : Int32, y = b2 + 1 := ⟨_, rfl⟩
        replace hw := hw x10 ex10
        refine lv_iinc (v := x10) (lv' := [(2, .int x10), (0, .ref (zA Z b0)), (1, .int b1)]) B.1 B.2.1 dX8_loopOn_19 hl (k := 2) rfl (by rw [ex10]; rfl) (by decide) (by first | rfl | simp [va_re_cat, Value.category]) ?_
        clear hl
        intro ls hl
        refine lv_goto (tgt := 6) B.1 B.2.1 dX8_loopOn_22 (by decide) ?_
        exact ih x10 h9  _ _ _ hw hH (lv_sub hl [1, 2, 0] rfl)
  refine lv_aload_n B.1 B.2.1 dX8_loopOn_0 rfl (lv_at hl 0 rfl) ?_
  refine lv_iconst (v := 1) B.1 B.2.1 dX8_loopOn_1 (by decide) ?_
  have q1 := hw.1
  replace hw := hw.2
  refine r_iald B hH (k0) q1 dX8_loopOn_2 ?_
  refine lv_topi (fun x2 ex2 => ?_)
  replace hw := hw x2 ex2
  refine lv_istore_n (lv' := [(1, .int x2), (0, .ref (zA Z a0))]) B.1 B.2.1 dX8_loopOn_3 rfl hl (by decide) (by first | rfl | simp [va_re_cat, Value.category]) ?_
  clear hl
  intro ls hl
  refine lv_iconst (v := 0) B.1 B.2.1 dX8_loopOn_4 (by decide) ?_
  refine lv_istore_n (lv' := [(2, .int 0), (1, .int x2), (0, .ref (zA Z a0))]) B.1 B.2.1 dX8_loopOn_5 rfl hl (by decide) (by first | rfl | simp [va_re_cat, Value.category]) ?_
  clear hl
  intro ls hl
  obtain ⟨n11, hw⟩ := hw
  exact L6 a0 x2 (k0) n11 0 h  _ _ _ hw hH (lv_sub hl [2, 1, 0] rfl)
theorem cy_X8_reason {s : State} {args : Array Value} (hG : GG s) : CYS s args yX8_reason cX8_reason 5 (some .int) 5 := CYS.of hG (fun _ _ hG => tw_1091 hG) (tw_8 hG) (tw_1090 hG) (by decide +kernel)
set_option maxRecDepth 100000 in
set_option maxHeartbeats 4000000 in
theorem ct_X8_reason {Z : ZT} (hZ : ZO Z) (l : Launch) (a0 : Nat) (a1 : Int32) (a2 : Int32) (a3 : Int32) (a4 : Int32) (h : PH) (sz : Nat) (Q : Int32 → PH → Prop) (k0 : kd a0 = 10) (hw : wp_X8_reason a0 a1 a2 a3 a4 h Q) : MI Z l yX8_reason cX8_reason 5 (some .int) ({ frames := 2, cells := 0, slots := 0, locals := 44 } : Room) h sz [.ref (zA Z a0), .int a1, .int a2, .int a3, .int a4] Q := by
  refine open_M hZ (by decide +kernel) (by exact Nat.le_of_ble_eq_true rfl) ?_
  intro p e s m below meth c B hr hsz ls hl hH
  subst hsz
  have hl : lv_has ls 5 [(0, .ref (zA Z a0)), (1, .int a1), (2, .int a2), (3, .int a3), (4, .int a4)] := hl
  unfold wp_X8_reason at hw
  refine lv_iload B.1 B.2.1 dX8_reason_0 (lv_at hl 4 rfl) ?_
  refine lv_iload_n B.1 B.2.1 dX8_reason_2 rfl (lv_at hl 3 rfl) ?_
  refine lv_icmp_gt (tgt := 10) B.1 B.2.1 dX8_reason_3 (by decide) (fun c1 => ?_) (fun c1 => ?_)
  · replace hw := hw.1 c1
    refine lv_aload_n B.1 B.2.1 dX8_reason_10 rfl (lv_at hl 0 rfl) ?_
    refine lv_iload_n B.1 B.2.1 dX8_reason_11 rfl (lv_at hl 2 rfl) ?_
    refine lv_iload_n B.1 B.2.1 dX8_reason_12 rfl (lv_at hl 3 rfl) ?_
    refine c_S_I (own := RX8) (As := [.ref (zA Z a0), .int a2, .int a3]) (rest := []) B hH (cy_X8_isQuiet B.2.2.2.2.1) (ct_X8_isQuiet B.2.2.2.2.2.2.2 l a0 a2 a3 h _ _ (k0) hw) ⟨⟨rfl, rfl⟩, Nat.le_of_ble_eq_true rfl, Nat.le_of_ble_eq_true rfl, Nat.zero_le _, Nat.zero_le _⟩ (tw_1092 B.2.2.2.2.1) rfl hl.1 rfl (Nat.le_of_ble_eq_true rfl) dX8_reason_13 ?_
    clear hw hH
    intro r3 h2 H locs hw hH
    refine lv_if_ne (tgt := 23) B.1 B.2.1 dX8_reason_16 (by decide) (fun c4 => ?_) (fun c4 => ?_)
    · replace hw := hw.1 c4
      refine lv_aload_n B.1 B.2.1 dX8_reason_23 rfl (lv_at hl 0 rfl) ?_
      refine lv_iload_n B.1 B.2.1 dX8_reason_24 rfl (lv_at hl 2 rfl) ?_
      refine lv_iload B.1 B.2.1 dX8_reason_25 (lv_at hl 4 rfl) ?_
      refine c_S_I (own := RX8) (As := [.ref (zA Z a0), .int a2, .int a4]) (rest := []) B hH (cy_X8_isQuiet B.2.2.2.2.1) (ct_X8_isQuiet B.2.2.2.2.2.2.2 l a0 a2 a4 h2 _ _ (k0) hw) ⟨⟨rfl, rfl⟩, Nat.le_of_ble_eq_true rfl, Nat.le_of_ble_eq_true rfl, Nat.zero_le _, Nat.zero_le _⟩ (tw_1092 B.2.2.2.2.1) rfl hl.1 rfl (Nat.le_of_ble_eq_true rfl) dX8_reason_27 ?_
      clear hw hH
      intro r6 h5 H locs hw hH
      refine lv_if_ne (tgt := 37) B.1 B.2.1 dX8_reason_30 (by decide) (fun c7 => ?_) (fun c7 => ?_)
      · replace hw := hw.1 c7
        refine lv_aload_n B.1 B.2.1 dX8_reason_37 rfl (lv_at hl 0 rfl) ?_
        refine lv_iload_n B.1 B.2.1 dX8_reason_38 rfl (lv_at hl 1 rfl) ?_
        refine lv_iconst (v := 0) B.1 B.2.1 dX8_reason_39 (by decide) ?_
        refine c_S_I (own := RX8) (As := [.ref (zA Z a0), .int a1, .int 0]) (rest := []) B hH (cy_X8_of B.2.2.2.2.1) (ct_X8_of B.2.2.2.2.2.2.2 l a0 a1 0 h5 _ _ (k0) hw) ⟨⟨rfl, rfl⟩, Nat.le_of_ble_eq_true rfl, Nat.le_of_ble_eq_true rfl, Nat.zero_le _, Nat.zero_le _⟩ (tw_1098 B.2.2.2.2.1) rfl hl.1 rfl (Nat.le_of_ble_eq_true rfl) dX8_reason_40 ?_
        clear hw hH
        intro r9 h8 H locs hw hH
        refine lv_iload B.1 B.2.1 dX8_reason_43 (lv_at hl 4 rfl) ?_
        refine lv_iadd B.1 B.2.1 dX8_reason_45 ?_
        refine lv_iload_n B.1 B.2.1 dX8_reason_46 rfl (lv_at hl 3 rfl) ?_
        refine lv_isub B.1 B.2.1 dX8_reason_47 ?_
        refine lv_bipush (v := 48) B.1 B.2.1 dX8_reason_48 (by decide) ?_
        refine lv_icmp_le (tgt := 57) B.1 B.2.1 dX8_reason_50 (by decide) (fun c10 => ?_) (fun c10 => ?_)
        · replace hw := hw.1 c10
          refine lv_aload_n B.1 B.2.1 dX8_reason_57 rfl (lv_at hl 0 rfl) ?_
          refine lv_iload_n B.1 B.2.1 dX8_reason_58 rfl (lv_at hl 1 rfl) ?_
          refine lv_iconst (v := 5) B.1 B.2.1 dX8_reason_59 (by decide) ?_
          refine c_S_I (own := RX8) (As := [.ref (zA Z a0), .int a1, .int 5]) (rest := []) B hH (cy_X8_of B.2.2.2.2.1) (ct_X8_of B.2.2.2.2.2.2.2 l a0 a1 5 h8 _ _ (k0) hw) ⟨⟨rfl, rfl⟩, Nat.le_of_ble_eq_true rfl, Nat.le_of_ble_eq_true rfl, Nat.zero_le _, Nat.zero_le _⟩ (tw_1098 B.2.2.2.2.1) rfl hl.1 rfl (Nat.le_of_ble_eq_true rfl) dX8_reason_60 ?_
          clear hw hH
          intro r12 h11 H locs hw hH
          refine lv_bipush (v := 6) B.1 B.2.1 dX8_reason_63 (by decide) ?_
          refine lv_icmp_ne (tgt := 72) B.1 B.2.1 dX8_reason_65 (by decide) (fun c13 => ?_) (fun c13 => ?_)
          · replace hw := hw.1 c13
            refine lv_iconst (v := 0) B.1 B.2.1 dX8_reason_72 (by decide) ?_
            exact e_i B hr hH hw dX8_reason_73
          · replace hw := hw.2 c13
            refine lv_iconst (v := 5) B.1 B.2.1 dX8_reason_68 (by decide) ?_
            refine lv_goto (tgt := 73) B.1 B.2.1 dX8_reason_69 (by decide) ?_
            exact e_i B hr hH hw dX8_reason_73
        · replace hw := hw.2 c10
          refine lv_iconst (v := 4) B.1 B.2.1 dX8_reason_53 (by decide) ?_
          refine lv_goto (tgt := 73) B.1 B.2.1 dX8_reason_54 (by decide) ?_
          exact e_i B hr hH hw dX8_reason_73
      · replace hw := hw.2 c7
        refine lv_iconst (v := 3) B.1 B.2.1 dX8_reason_33 (by decide) ?_
        refine lv_goto (tgt := 73) B.1 B.2.1 dX8_reason_34 (by decide) ?_
        exact e_i B hr hH hw dX8_reason_73
    · replace hw := hw.2 c4
      refine lv_iconst (v := 2) B.1 B.2.1 dX8_reason_19 (by decide) ?_
      refine lv_goto (tgt := 73) B.1 B.2.1 dX8_reason_20 (by decide) ?_
      exact e_i B hr hH hw dX8_reason_73
  · replace hw := hw.2 c1
    refine lv_iconst (v := 1) B.1 B.2.1 dX8_reason_6 (by decide) ?_
    refine lv_goto (tgt := 73) B.1 B.2.1 dX8_reason_7 (by decide) ?_
    exact e_i B hr hH hw dX8_reason_73
theorem cy_X8_spliceOn {s : State} {args : Array Value} (hG : GG s) : CYS s args yX8_spliceOn cX8_spliceOn 8 (some .int) 5 := CYS.of hG (fun _ _ hG => tw_1103 hG) (tw_8 hG) (tw_1102 hG) (by decide +kernel)
set_option maxRecDepth 100000 in
set_option maxHeartbeats 4000000 in
theorem ct_X8_spliceOn {Z : ZT} (hZ : ZO Z) (l : Launch) (a0 : Nat) (a1 : Int32) (a2 : Int32) (a3 : Int32) (a4 : Int32) (h : PH) (sz : Nat) (Q : Int32 → PH → Prop) (k0 : kd a0 = 10) (hw : wp_X8_spliceOn a0 a1 a2 a3 a4 h Q) : MI Z l yX8_spliceOn cX8_spliceOn 8 (some .int) ({ frames := 3, cells := 0, slots := 0, locals := 68 } : Room) h sz [.ref (zA Z a0), .int a1, .int a2, .int a3, .int a4] Q := by
  refine open_M hZ (by decide +kernel) (by exact Nat.le_of_ble_eq_true rfl) ?_
  intro p e s m below meth c B hr hsz ls hl hH
  subst hsz
  have hl : lv_has ls 8 [(0, .ref (zA Z a0)), (1, .int a1), (2, .int a2), (3, .int a3), (4, .int a4)] := hl
  unfold wp_X8_spliceOn at hw
  have L37 : ∀ (b0 : Nat) (b1 : Int32) (b2 : Int32) (b3 : Int32) (b4 : Int32) (b6 : Int32), kd b0 = 10 → ∀ (n : Nat) (b7 : Int32) (h : PH), ∀ (H : Heap) (locs : List Loc) (ls : Array Slot), wp_X8_spliceOn_b37 b0 b1 b2 b3 b4 b6 Q n b7 h → HH Z s h H locs → lv_has ls 8 [(0, .ref (zA Z b0)), (1, .int b1), (2, .int b2), (3, .int b3), (4, .int b4), (6, .int b6), (7, .int b7)] → W p l e ({ frames := 3, cells := 0, slots := 0, locals := 68 } : Room) s m ([.ref (zA Z a0), .int a1, .int a2, .int a3, .int a4]).toArray below meth c H locs 0 0 (MQ below (va_Qi Q (BZ Z) (fr Z s.heap.size)) ([.ref (zA Z a0), .int a1, .int a2, .int a3, .int a4]).toArray s 0 0 (fr Z s.heap.size)) (F0 m 37 ls []) := by
    intro b0 b1 b2 b3 b4 b6 kb0 n
    induction n with
    | zero => intro b7 h H locs ls hw hH hl; exact absurd hw id
    | succ n ih =>
      intro b7 h H locs ls hw hH hl
      unfold wp_X8_spliceOn_b37 at hw
      refine lv_iload B.1 B.2.1 dX8_spliceOn_37 (lv_at hl 6 rfl) ?_
      refine lv_iload B.1 B.2.1 dX8_spliceOn_39 (lv_at hl 4 rfl) ?_
      refine lv_icmp_ge (tgt := 72) B.1 B.2.1 dX8_spliceOn_41 (by decide) (fun c6 => ?_) (fun c6 => ?_)
      · replace hw := hw.1 c6
        refine lv_aload_n B.1 B.2.1 dX8_spliceOn_72 rfl (lv_at hl 0 rfl) ?_
        refine lv_iload_n B.1 B.2.1 dX8_spliceOn_73 rfl (lv_at hl 1 rfl) ?_
        refine lv_bipush (v := 6) B.1 B.2.1 dX8_spliceOn_74 (by decide) ?_
        refine lv_aload_n B.1 B.2.1 dX8_spliceOn_76 rfl (lv_at hl 0 rfl) ?_
        refine lv_iload_n B.1 B.2.1 dX8_spliceOn_77 rfl (lv_at hl 1 rfl) ?_
        refine lv_iconst (v := 5) B.1 B.2.1 dX8_spliceOn_78 (by decide) ?_
        refine c_S_I (own := RX8) (As := [.ref (zA Z b0), .int b1, .int 5]) (rest := [.int 6, .int b1, .ref (zA Z b0)]) B hH (cy_X8_of B.2.2.2.2.1) (ct_X8_of B.2.2.2.2.2.2.2 l b0 b1 5 h _ _ (kb0) hw) ⟨⟨rfl, rfl⟩, Nat.le_of_ble_eq_true rfl, Nat.le_of_ble_eq_true rfl, Nat.zero_le _, Nat.zero_le _⟩ (tw_1098 B.2.2.2.2.1) rfl hl.1 rfl (Nat.le_of_ble_eq_true rfl) dX8_spliceOn_79 ?_
        clear hw hH
        intro r8 h7 H locs hw hH
        refine lv_iadd B.1 B.2.1 dX8_spliceOn_82 ?_
        refine lv_iload B.1 B.2.1 dX8_spliceOn_83 (lv_at hl 4 rfl) ?_
        refine lv_iload_n B.1 B.2.1 dX8_spliceOn_85 rfl (lv_at hl 3 rfl) ?_
        refine lv_isub B.1 B.2.1 dX8_spliceOn_86 ?_
        refine c_S_V (own := RX8) (As := [.ref (zA Z b0), .int b1, .int (6 + r8), .int (b4 - b3)]) (rest := []) B hH (cy_X8_lay B.2.2.2.2.1) (ct_X8_lay B.2.2.2.2.2.2.2 l b0 b1 (6 + r8) (b4 - b3) h7 _ _ (kb0) hw) ⟨⟨rfl, rfl⟩, Nat.le_of_ble_eq_true rfl, Nat.le_of_ble_eq_true rfl, Nat.zero_le _, Nat.zero_le _⟩ (tw_1072 B.2.2.2.2.1) rfl hl.1 rfl (Nat.le_of_ble_eq_true rfl) dX8_spliceOn_87 ?_
        clear hw hH
        intro h9 H locs hw hH
        refine lv_aload_n B.1 B.2.1 dX8_spliceOn_90 rfl (lv_at hl 0 rfl) ?_
        refine lv_iload_n B.1 B.2.1 dX8_spliceOn_91 rfl (lv_at hl 1 rfl) ?_
        refine lv_iconst (v := 5) B.1 B.2.1 dX8_spliceOn_92 (by decide) ?_
        refine lv_aload_n B.1 B.2.1 dX8_spliceOn_93 rfl (lv_at hl 0 rfl) ?_
        refine lv_iload_n B.1 B.2.1 dX8_spliceOn_94 rfl (lv_at hl 1 rfl) ?_
        refine lv_iconst (v := 5) B.1 B.2.1 dX8_spliceOn_95 (by decide) ?_
        refine c_S_I (own := RX8) (As := [.ref (zA Z b0), .int b1, .int 5]) (rest := [.int 5, .int b1, .ref (zA Z b0)]) B hH (cy_X8_of B.2.2.2.2.1) (ct_X8_of B.2.2.2.2.2.2.2 l b0 b1 5 h9 _ _ (kb0) hw) ⟨⟨rfl, rfl⟩, Nat.le_of_ble_eq_true rfl, Nat.le_of_ble_eq_true rfl, Nat.zero_le _, Nat.zero_le _⟩ (tw_1098 B.2.2.2.2.1) rfl hl.1 rfl (Nat.le_of_ble_eq_true rfl) dX8_spliceOn_96 ?_
        clear hw hH
        intro r11 h10 H locs hw hH
        refine lv_iconst (v := 1) B.1 B.2.1 dX8_spliceOn_99 (by decide) ?_
        refine lv_iadd B.1 B.2.1 dX8_spliceOn_100 ?_
        refine c_S_V (own := RX8) (As := [.ref (zA Z b0), .int b1, .int 5, .int (r11 + 1)]) (rest := []) B hH (cy_X8_lay B.2.2.2.2.1) (ct_X8_lay B.2.2.2.2.2.2.2 l b0 b1 5 (r11 + 1) h10 _ _ (kb0) hw) ⟨⟨rfl, rfl⟩, Nat.le_of_ble_eq_true rfl, Nat.le_of_ble_eq_true rfl, Nat.zero_le _, Nat.zero_le _⟩ (tw_1072 B.2.2.2.2.1) rfl hl.1 rfl (Nat.le_of_ble_eq_true rfl) dX8_spliceOn_101 ?_
        clear hw hH
        intro h12 H locs hw hH
        refine lv_aload_n B.1 B.2.1 dX8_spliceOn_104 rfl (lv_at hl 0 rfl) ?_
        refine lv_iload_n B.1 B.2.1 dX8_spliceOn_105 rfl (lv_at hl 1 rfl) ?_
        refine lv_iconst (v := 0) B.1 B.2.1 dX8_spliceOn_106 (by decide) ?_
        refine lv_iload B.1 B.2.1 dX8_spliceOn_107 (lv_at hl 5 rfl) ?_
        refine lv_iload B.1 B.2.1 dX8_spliceOn_109 (lv_at hl 4 rfl) ?_
        refine lv_iadd B.1 B.2.1 dX8_spliceOn_111 ?_
        refine lv_iload_n B.1 B.2.1 dX8_spliceOn_112 rfl (lv_at hl 3 rfl) ?_
        refine lv_isub B.1 B.2.1 dX8_spliceOn_113 ?_
        refine c_S_V (own := RX8) (As := [.ref (zA Z b0), .int b1, .int 0, .int ((b6 + b4) - b3)]) (rest := []) B hH (cy_X8_lay B.2.2.2.2.1) (ct_X8_lay B.2.2.2.2.2.2.2 l b0 b1 0 ((b6 + b4) - b3) h12 _ _ (kb0) hw) ⟨⟨rfl, rfl⟩, Nat.le_of_ble_eq_true rfl, Nat.le_of_ble_eq_true rfl, Nat.zero_le _, Nat.zero_le _⟩ (tw_1072 B.2.2.2.2.1) rfl hl.1 rfl (Nat.le_of_ble_eq_true rfl) dX8_spliceOn_114 ?_
        clear hw hH
        intro h13 H locs hw hH
        refine lv_aload_n B.1 B.2.1 dX8_spliceOn_117 rfl (lv_at hl 0 rfl) ?_
        refine lv_iload_n B.1 B.2.1 dX8_spliceOn_118 rfl (lv_at hl 1 rfl) ?_
        refine lv_iconst (v := 3) B.1 B.2.1 dX8_spliceOn_119 (by decide) ?_
        refine lv_iconst (v := 0) B.1 B.2.1 dX8_spliceOn_120 (by decide) ?_
        refine c_S_V (own := RX8) (As := [.ref (zA Z b0), .int b1, .int 3, .int 0]) (rest := []) B hH (cy_X8_lay B.2.2.2.2.1) (ct_X8_lay B.2.2.2.2.2.2.2 l b0 b1 3 0 h13 _ _ (kb0) hw) ⟨⟨rfl, rfl⟩, Nat.le_of_ble_eq_true rfl, Nat.le_of_ble_eq_true rfl, Nat.zero_le _, Nat.zero_le _⟩ (tw_1072 B.2.2.2.2.1) rfl hl.1 rfl (Nat.le_of_ble_eq_true rfl) dX8_spliceOn_121 ?_
        clear hw hH
        intro h14 H locs hw hH
        refine lv_iconst (v := 0) B.1 B.2.1 dX8_spliceOn_124 (by decide) ?_
        exact e_i B hr hH hw dX8_spliceOn_125
      · replace hw := hw.2 c6
        refine lv_aload_n B.1 B.2.1 dX8_spliceOn_44 rfl (lv_at hl 0 rfl) ?_
        refine lv_iload_n B.1 B.2.1 dX8_spliceOn_45 rfl (lv_at hl 1 rfl) ?_
        refine lv_bipush (v := 12) B.1 B.2.1 dX8_spliceOn_46 (by decide) ?_
        refine lv_iload B.1 B.2.1 dX8_spliceOn_48 (lv_at hl 5 rfl) ?_
        refine lv_iadd B.1 B.2.1 dX8_spliceOn_50 ?_
        refine lv_iload B.1 B.2.1 dX8_spliceOn_51 (lv_at hl 6 rfl) ?_
        refine lv_iadd B.1 B.2.1 dX8_spliceOn_53 ?_
        refine lv_iload_n B.1 B.2.1 dX8_spliceOn_54 rfl (lv_at hl 3 rfl) ?_
        refine lv_isub B.1 B.2.1 dX8_spliceOn_55 ?_
        refine lv_aload_n B.1 B.2.1 dX8_spliceOn_56 rfl (lv_at hl 0 rfl) ?_
        refine lv_iload_n B.1 B.2.1 dX8_spliceOn_57 rfl (lv_at hl 2 rfl) ?_
        refine lv_iload B.1 B.2.1 dX8_spliceOn_58 (lv_at hl 6 rfl) ?_
        refine c_S_I (own := RX8) (As := [.ref (zA Z b0), .int b2, .int b7]) (rest := [.int (((12 + b6) + b7) - b3), .int b1, .ref (zA Z b0)]) B hH (cy_X8_soundAt B.2.2.2.2.1) (ct_X8_soundAt B.2.2.2.2.2.2.2 l b0 b2 b7 h _ _ (kb0) hw) ⟨⟨rfl, rfl⟩, Nat.le_of_ble_eq_true rfl, Nat.le_of_ble_eq_true rfl, Nat.zero_le _, Nat.zero_le _⟩ (tw_1095 B.2.2.2.2.1) rfl hl.1 rfl (Nat.le_of_ble_eq_true rfl) dX8_spliceOn_60 ?_
        clear hw hH
        intro r16 h15 H locs hw hH
        refine c_S_V (own := RX8) (As := [.ref (zA Z b0), .int b1, .int (((12 + b6) + b7) - b3), .int r16]) (rest := []) B hH (cy_X8_lay B.2.2.2.2.1) (ct_X8_lay B.2.2.2.2.2.2.2 l b0 b1 (((12 + b6) + b7) - b3) r16 h15 _ _ (kb0) hw) ⟨⟨rfl, rfl⟩, Nat.le_of_ble_eq_true rfl, Nat.le_of_ble_eq_true rfl, Nat.zero_le _, Nat.zero_le _⟩ (tw_1072 B.2.2.2.2.1) rfl hl.1 rfl (Nat.le_of_ble_eq_true rfl) dX8_spliceOn_63 ?_
        clear hw hH
        intro h17 H locs hw hH
        obtain ⟨x18, ex18⟩ : ∃ y : Int32, y = b7 + 1 := ⟨_, rfl⟩
        replace hw := hw x18 ex18
        refine lv_iinc (v := x18) (lv' := [(7, .int x18), (0, .ref (zA Z b0)), (1, .int b1), (2, .int b2), (3, .int b3), (4, .int b4), (6, .int b6)]) B.1 B.2.1 dX8_spliceOn_66 hl (k := 6) rfl (by rw [ex18]; rfl) (by decide) (by first | rfl | simp [va_re_cat, Value.category]) ?_
        clear hl
        intro ls hl
        refine lv_goto (tgt := 37) B.1 B.2.1 dX8_spliceOn_69 (by decide) ?_
        exact ih x18 h17  _ _ _ hw hH (lv_sub hl [1, 2, 3, 4, 5, 6, 0] rfl)
  refine lv_aload_n B.1 B.2.1 dX8_spliceOn_0 rfl (lv_at hl 0 rfl) ?_
  refine lv_iload_n B.1 B.2.1 dX8_spliceOn_1 rfl (lv_at hl 1 rfl) ?_
  refine lv_iload_n B.1 B.2.1 dX8_spliceOn_2 rfl (lv_at hl 2 rfl) ?_
  refine lv_iload_n B.1 B.2.1 dX8_spliceOn_3 rfl (lv_at hl 3 rfl) ?_
  refine lv_iload B.1 B.2.1 dX8_spliceOn_4 (lv_at hl 4 rfl) ?_
  refine c_S_I (own := RX8) (As := [.ref (zA Z a0), .int a1, .int a2, .int a3, .int a4]) (rest := []) B hH (cy_X8_reason B.2.2.2.2.1) (ct_X8_reason B.2.2.2.2.2.2.2 l a0 a1 a2 a3 a4 h _ _ (k0) hw) ⟨⟨rfl, rfl⟩, Nat.le_of_ble_eq_true rfl, Nat.le_of_ble_eq_true rfl, Nat.zero_le _, Nat.zero_le _⟩ (tw_1089 B.2.2.2.2.1) rfl hl.1 rfl (Nat.le_of_ble_eq_true rfl) dX8_spliceOn_6 ?_
  clear hw hH
  intro r2 h1 H locs hw hH
  refine lv_istore (lv' := [(5, .int r2), (0, .ref (zA Z a0)), (1, .int a1), (2, .int a2), (3, .int a3), (4, .int a4)]) B.1 B.2.1 dX8_spliceOn_9 hl (by decide) (by first | rfl | simp [va_re_cat, Value.category]) ?_
  clear hl
  intro ls hl
  refine lv_iload B.1 B.2.1 dX8_spliceOn_11 (lv_at hl 0 rfl) ?_
  refine lv_if_le (tgt := 26) B.1 B.2.1 dX8_spliceOn_13 (by decide) (fun c3 => ?_) (fun c3 => ?_)
  · replace hw := hw.1 c3
    refine lv_aload_n B.1 B.2.1 dX8_spliceOn_26 rfl (lv_at hl 1 rfl) ?_
    refine lv_iload_n B.1 B.2.1 dX8_spliceOn_27 rfl (lv_at hl 2 rfl) ?_
    refine lv_iconst (v := 0) B.1 B.2.1 dX8_spliceOn_28 (by decide) ?_
    refine c_S_I (own := RX8) (As := [.ref (zA Z a0), .int a1, .int 0]) (rest := []) B hH (cy_X8_of B.2.2.2.2.1) (ct_X8_of B.2.2.2.2.2.2.2 l a0 a1 0 h1 _ _ (k0) hw) ⟨⟨rfl, rfl⟩, Nat.le_of_ble_eq_true rfl, Nat.le_of_ble_eq_true rfl, Nat.zero_le _, Nat.zero_le _⟩ (tw_1098 B.2.2.2.2.1) rfl hl.1 rfl (Nat.le_of_ble_eq_true rfl) dX8_spliceOn_29 ?_
    clear hw hH
    intro r5 h4 H locs hw hH
    refine lv_istore (lv' := [(6, .int r5), (5, .int r2), (0, .ref (zA Z a0)), (1, .int a1), (2, .int a2), (3, .int a3), (4, .int a4)]) B.1 B.2.1 dX8_spliceOn_32 hl (by decide) (by first | rfl | simp [va_re_cat, Value.category]) ?_
    clear hl
    intro ls hl
    refine lv_iload_n B.1 B.2.1 dX8_spliceOn_34 rfl (lv_at hl 5 rfl) ?_
    refine lv_istore (lv' := [(7, .int a3), (6, .int r5), (5, .int r2), (0, .ref (zA Z a0)), (1, .int a1), (2, .int a2), (3, .int a3), (4, .int a4)]) B.1 B.2.1 dX8_spliceOn_35 hl (by decide) (by first | rfl | simp [va_re_cat, Value.category]) ?_
    clear hl
    intro ls hl
    obtain ⟨n19, hw⟩ := hw
    exact L37 a0 a1 a2 a3 a4 r5 (k0) n19 a3 h4  _ _ _ hw hH (lv_sub hl [3, 4, 5, 6, 7, 1, 0] rfl)
  · replace hw := hw.2 c3
    refine lv_aload_n B.1 B.2.1 dX8_spliceOn_16 rfl (lv_at hl 1 rfl) ?_
    refine lv_iconst (v := 3) B.1 B.2.1 dX8_spliceOn_17 (by decide) ?_
    refine lv_dup2_11 B.1 B.2.1 dX8_spliceOn_18 rfl rfl ?_
    have q20 := hw.1
    replace hw := hw.2
    refine r_iald B hH (k0) q20 dX8_spliceOn_19 ?_
    refine lv_iconst (v := 1) B.1 B.2.1 dX8_spliceOn_20 (by decide) ?_
    refine lv_iadd B.1 B.2.1 dX8_spliceOn_21 ?_
    have q21 := hw.1
    replace hw := hw.2
    refine r_iast B hH (k0) q21 dX8_spliceOn_22 ?_
    clear hH
    intro H locs hH
    obtain ⟨h22, eh22⟩ : ∃ z : PH, z = up2 h1 a0 (3 : Int32).toNatClampNeg ((h1 a0 (3 : Int32).toNatClampNeg) + 1) := ⟨_, rfl⟩
    rw [← eh22] at hH
    replace hw := hw h22 eh22
    refine lv_iload B.1 B.2.1 dX8_spliceOn_23 (lv_at hl 0 rfl) ?_
    exact e_i B hr hH hw dX8_spliceOn_25
theorem cy_X8_unspliceOn {s : State} {args : Array Value} (hG : GG s) : CYS s args yX8_unspliceOn cX8_unspliceOn 3 (some .int) 2 := CYS.of hG (fun _ _ hG => tw_1219 hG) (tw_8 hG) (tw_1218 hG) (by decide +kernel)
set_option maxRecDepth 100000 in
set_option maxHeartbeats 4000000 in
theorem ct_X8_unspliceOn {Z : ZT} (hZ : ZO Z) (l : Launch) (a0 : Nat) (a1 : Int32) (h : PH) (sz : Nat) (Q : Int32 → PH → Prop) (k0 : kd a0 = 10) (hw : wp_X8_unspliceOn a0 a1 h Q) : MI Z l yX8_unspliceOn cX8_unspliceOn 3 (some .int) ({ frames := 1, cells := 0, slots := 0, locals := 23 } : Room) h sz [.ref (zA Z a0), .int a1] Q := by
  refine open_M hZ (by decide +kernel) (by exact Nat.le_of_ble_eq_true rfl) ?_
  intro p e s m below meth c B hr hsz ls hl hH
  subst hsz
  have hl : lv_has ls 3 [(0, .ref (zA Z a0)), (1, .int a1)] := hl
  unfold wp_X8_unspliceOn at hw
  refine lv_aload_n B.1 B.2.1 dX8_unspliceOn_0 rfl (lv_at hl 0 rfl) ?_
  refine lv_iload_n B.1 B.2.1 dX8_unspliceOn_1 rfl (lv_at hl 1 rfl) ?_
  refine lv_iconst (v := 5) B.1 B.2.1 dX8_unspliceOn_2 (by decide) ?_
  refine c_S_I (own := RX8) (As := [.ref (zA Z a0), .int a1, .int 5]) (rest := []) B hH (cy_X8_of B.2.2.2.2.1) (ct_X8_of B.2.2.2.2.2.2.2 l a0 a1 5 h _ _ (k0) hw) ⟨⟨rfl, rfl⟩, Nat.le_of_ble_eq_true rfl, Nat.le_of_ble_eq_true rfl, Nat.zero_le _, Nat.zero_le _⟩ (tw_1098 B.2.2.2.2.1) rfl hl.1 rfl (Nat.le_of_ble_eq_true rfl) dX8_unspliceOn_3 ?_
  clear hw hH
  intro r2 h1 H locs hw hH
  refine lv_iconst (v := 1) B.1 B.2.1 dX8_unspliceOn_6 (by decide) ?_
  refine lv_isub B.1 B.2.1 dX8_unspliceOn_7 ?_
  refine lv_topi (fun x3 ex3 => ?_)
  replace hw := hw x3 ex3
  refine lv_istore_n (lv' := [(2, .int x3), (0, .ref (zA Z a0)), (1, .int a1)]) B.1 B.2.1 dX8_unspliceOn_8 rfl hl (by decide) (by first | rfl | simp [va_re_cat, Value.category]) ?_
  clear hl
  intro ls hl
  refine lv_aload_n B.1 B.2.1 dX8_unspliceOn_9 rfl (lv_at hl 1 rfl) ?_
  refine lv_iload_n B.1 B.2.1 dX8_unspliceOn_10 rfl (lv_at hl 2 rfl) ?_
  refine lv_iconst (v := 5) B.1 B.2.1 dX8_unspliceOn_11 (by decide) ?_
  refine lv_iload_n B.1 B.2.1 dX8_unspliceOn_12 rfl (lv_at hl 0 rfl) ?_
  refine c_S_V (own := RX8) (As := [.ref (zA Z a0), .int a1, .int 5, .int x3]) (rest := []) B hH (cy_X8_lay B.2.2.2.2.1) (ct_X8_lay B.2.2.2.2.2.2.2 l a0 a1 5 x3 h1 _ _ (k0) hw) ⟨⟨rfl, rfl⟩, Nat.le_of_ble_eq_true rfl, Nat.le_of_ble_eq_true rfl, Nat.zero_le _, Nat.zero_le _⟩ (tw_1072 B.2.2.2.2.1) rfl hl.1 rfl (Nat.le_of_ble_eq_true rfl) dX8_unspliceOn_13 ?_
  clear hw hH
  intro h4 H locs hw hH
  refine lv_aload_n B.1 B.2.1 dX8_unspliceOn_16 rfl (lv_at hl 1 rfl) ?_
  refine lv_iload_n B.1 B.2.1 dX8_unspliceOn_17 rfl (lv_at hl 2 rfl) ?_
  refine lv_iconst (v := 0) B.1 B.2.1 dX8_unspliceOn_18 (by decide) ?_
  refine lv_aload_n B.1 B.2.1 dX8_unspliceOn_19 rfl (lv_at hl 1 rfl) ?_
  refine lv_iload_n B.1 B.2.1 dX8_unspliceOn_20 rfl (lv_at hl 2 rfl) ?_
  refine lv_iconst (v := 0) B.1 B.2.1 dX8_unspliceOn_21 (by decide) ?_
  refine c_S_I (own := RX8) (As := [.ref (zA Z a0), .int a1, .int 0]) (rest := [.int 0, .int a1, .ref (zA Z a0)]) B hH (cy_X8_of B.2.2.2.2.1) (ct_X8_of B.2.2.2.2.2.2.2 l a0 a1 0 h4 _ _ (k0) hw) ⟨⟨rfl, rfl⟩, Nat.le_of_ble_eq_true rfl, Nat.le_of_ble_eq_true rfl, Nat.zero_le _, Nat.zero_le _⟩ (tw_1098 B.2.2.2.2.1) rfl hl.1 rfl (Nat.le_of_ble_eq_true rfl) dX8_unspliceOn_22 ?_
  clear hw hH
  intro r6 h5 H locs hw hH
  refine lv_aload_n B.1 B.2.1 dX8_unspliceOn_25 rfl (lv_at hl 1 rfl) ?_
  refine lv_iload_n B.1 B.2.1 dX8_unspliceOn_26 rfl (lv_at hl 2 rfl) ?_
  refine lv_bipush (v := 6) B.1 B.2.1 dX8_unspliceOn_27 (by decide) ?_
  refine lv_iload_n B.1 B.2.1 dX8_unspliceOn_29 rfl (lv_at hl 0 rfl) ?_
  refine lv_iadd B.1 B.2.1 dX8_unspliceOn_30 ?_
  refine c_S_I (own := RX8) (As := [.ref (zA Z a0), .int a1, .int (6 + x3)]) (rest := [.int r6, .int 0, .int a1, .ref (zA Z a0)]) B hH (cy_X8_of B.2.2.2.2.1) (ct_X8_of B.2.2.2.2.2.2.2 l a0 a1 (6 + x3) h5 _ _ (k0) hw) ⟨⟨rfl, rfl⟩, Nat.le_of_ble_eq_true rfl, Nat.le_of_ble_eq_true rfl, Nat.zero_le _, Nat.zero_le _⟩ (tw_1098 B.2.2.2.2.1) rfl hl.1 rfl (Nat.le_of_ble_eq_true rfl) dX8_unspliceOn_31 ?_
  clear hw hH
  intro r8 h7 H locs hw hH
  refine lv_isub B.1 B.2.1 dX8_unspliceOn_34 ?_
  refine c_S_V (own := RX8) (As := [.ref (zA Z a0), .int a1, .int 0, .int (r6 - r8)]) (rest := []) B hH (cy_X8_lay B.2.2.2.2.1) (ct_X8_lay B.2.2.2.2.2.2.2 l a0 a1 0 (r6 - r8) h7 _ _ (k0) hw) ⟨⟨rfl, rfl⟩, Nat.le_of_ble_eq_true rfl, Nat.le_of_ble_eq_true rfl, Nat.zero_le _, Nat.zero_le _⟩ (tw_1072 B.2.2.2.2.1) rfl hl.1 rfl (Nat.le_of_ble_eq_true rfl) dX8_unspliceOn_35 ?_
  clear hw hH
  intro h9 H locs hw hH
  refine lv_aload_n B.1 B.2.1 dX8_unspliceOn_38 rfl (lv_at hl 1 rfl) ?_
  refine lv_iload_n B.1 B.2.1 dX8_unspliceOn_39 rfl (lv_at hl 2 rfl) ?_
  refine lv_iconst (v := 3) B.1 B.2.1 dX8_unspliceOn_40 (by decide) ?_
  refine lv_iconst (v := 0) B.1 B.2.1 dX8_unspliceOn_41 (by decide) ?_
  refine c_S_V (own := RX8) (As := [.ref (zA Z a0), .int a1, .int 3, .int 0]) (rest := []) B hH (cy_X8_lay B.2.2.2.2.1) (ct_X8_lay B.2.2.2.2.2.2.2 l a0 a1 3 0 h9 _ _ (k0) hw) ⟨⟨rfl, rfl⟩, Nat.le_of_ble_eq_true rfl, Nat.le_of_ble_eq_true rfl, Nat.zero_le _, Nat.zero_le _⟩ (tw_1072 B.2.2.2.2.1) rfl hl.1 rfl (Nat.le_of_ble_eq_true rfl) dX8_unspliceOn_42 ?_
  clear hw hH
  intro h10 H locs hw hH
  refine lv_aload_n B.1 B.2.1 dX8_unspliceOn_45 rfl (lv_at hl 1 rfl) ?_
  refine lv_iload_n B.1 B.2.1 dX8_unspliceOn_46 rfl (lv_at hl 2 rfl) ?_
  refine lv_iconst (v := 0) B.1 B.2.1 dX8_unspliceOn_47 (by decide) ?_
  refine c_S_I (own := RX8) (As := [.ref (zA Z a0), .int a1, .int 0]) (rest := []) B hH (cy_X8_of B.2.2.2.2.1) (ct_X8_of B.2.2.2.2.2.2.2 l a0 a1 0 h10 _ _ (k0) hw) ⟨⟨rfl, rfl⟩, Nat.le_of_ble_eq_true rfl, Nat.le_of_ble_eq_true rfl, Nat.zero_le _, Nat.zero_le _⟩ (tw_1098 B.2.2.2.2.1) rfl hl.1 rfl (Nat.le_of_ble_eq_true rfl) dX8_unspliceOn_48 ?_
  clear hw hH
  intro r12 h11 H locs hw hH
  exact e_i B hr hH hw dX8_unspliceOn_51
theorem cy_X8_speedOn {s : State} {args : Array Value} (hG : GG s) : CYS s args yX8_speedOn cX8_speedOn 5 (some .int) 4 := CYS.of hG (fun _ _ hG => tw_1110 hG) (tw_8 hG) (tw_1109 hG) (by decide +kernel)
set_option maxRecDepth 100000 in
set_option maxHeartbeats 4000000 in
theorem ct_X8_speedOn {Z : ZT} (hZ : ZO Z) (l : Launch) (a0 : Nat) (a1 : Int32) (a2 : Int32) (a3 : Int32) (h : PH) (sz : Nat) (Q : Int32 → PH → Prop) (k0 : kd a0 = 10) (hw : wp_X8_speedOn a0 a1 a2 a3 h Q) : MI Z l yX8_speedOn cX8_speedOn 5 (some .int) ({ frames := 1, cells := 0, slots := 0, locals := 23 } : Room) h sz [.ref (zA Z a0), .int a1, .int a2, .int a3] Q := by
  refine open_M hZ (by decide +kernel) (by exact Nat.le_of_ble_eq_true rfl) ?_
  intro p e s m below meth c B hr hsz ls hl hH
  subst hsz
  have hl : lv_has ls 5 [(0, .ref (zA Z a0)), (1, .int a1), (2, .int a2), (3, .int a3)] := hl
  unfold wp_X8_speedOn at hw
  refine lv_aload_n B.1 B.2.1 dX8_speedOn_0 rfl (lv_at hl 0 rfl) ?_
  refine lv_iload_n B.1 B.2.1 dX8_speedOn_1 rfl (lv_at hl 1 rfl) ?_
  refine lv_iconst (v := 3) B.1 B.2.1 dX8_speedOn_2 (by decide) ?_
  refine c_S_I (own := RX8) (As := [.ref (zA Z a0), .int a1, .int 3]) (rest := []) B hH (cy_X8_of B.2.2.2.2.1) (ct_X8_of B.2.2.2.2.2.2.2 l a0 a1 3 h _ _ (k0) hw) ⟨⟨rfl, rfl⟩, Nat.le_of_ble_eq_true rfl, Nat.le_of_ble_eq_true rfl, Nat.zero_le _, Nat.zero_le _⟩ (tw_1098 B.2.2.2.2.1) rfl hl.1 rfl (Nat.le_of_ble_eq_true rfl) dX8_speedOn_3 ?_
  clear hw hH
  intro r2 h1 H locs hw hH
  refine lv_aload_n B.1 B.2.1 dX8_speedOn_6 rfl (lv_at hl 0 rfl) ?_
  refine lv_iload_n B.1 B.2.1 dX8_speedOn_7 rfl (lv_at hl 1 rfl) ?_
  refine lv_iconst (v := 2) B.1 B.2.1 dX8_speedOn_8 (by decide) ?_
  refine c_S_I (own := RX8) (As := [.ref (zA Z a0), .int a1, .int 2]) (rest := [.int r2]) B hH (cy_X8_of B.2.2.2.2.1) (ct_X8_of B.2.2.2.2.2.2.2 l a0 a1 2 h1 _ _ (k0) hw) ⟨⟨rfl, rfl⟩, Nat.le_of_ble_eq_true rfl, Nat.le_of_ble_eq_true rfl, Nat.zero_le _, Nat.zero_le _⟩ (tw_1098 B.2.2.2.2.1) rfl hl.1 rfl (Nat.le_of_ble_eq_true rfl) dX8_speedOn_9 ?_
  clear hw hH
  intro r4 h3 H locs hw hH
  have q5 := hw.1
  replace hw := hw.2
  refine lv_idiv B.1 B.2.1 dX8_speedOn_12 q5 ?_
  refine lv_topi (fun x6 ex6 => ?_)
  replace hw := hw x6 ex6
  refine lv_istore (lv' := [(4, .int x6), (0, .ref (zA Z a0)), (1, .int a1), (2, .int a2), (3, .int a3)]) B.1 B.2.1 dX8_speedOn_13 hl (by decide) (by first | rfl | simp [va_re_cat, Value.category]) ?_
  clear hl
  intro ls hl
  refine lv_aload_n B.1 B.2.1 dX8_speedOn_15 rfl (lv_at hl 1 rfl) ?_
  refine lv_iload_n B.1 B.2.1 dX8_speedOn_16 rfl (lv_at hl 2 rfl) ?_
  refine lv_iconst (v := 1) B.1 B.2.1 dX8_speedOn_17 (by decide) ?_
  refine lv_iload_n B.1 B.2.1 dX8_speedOn_18 rfl (lv_at hl 3 rfl) ?_
  refine c_S_V (own := RX8) (As := [.ref (zA Z a0), .int a1, .int 1, .int a2]) (rest := []) B hH (cy_X8_lay B.2.2.2.2.1) (ct_X8_lay B.2.2.2.2.2.2.2 l a0 a1 1 a2 h3 _ _ (k0) hw) ⟨⟨rfl, rfl⟩, Nat.le_of_ble_eq_true rfl, Nat.le_of_ble_eq_true rfl, Nat.zero_le _, Nat.zero_le _⟩ (tw_1072 B.2.2.2.2.1) rfl hl.1 rfl (Nat.le_of_ble_eq_true rfl) dX8_speedOn_19 ?_
  clear hw hH
  intro h7 H locs hw hH
  refine lv_aload_n B.1 B.2.1 dX8_speedOn_22 rfl (lv_at hl 1 rfl) ?_
  refine lv_iload_n B.1 B.2.1 dX8_speedOn_23 rfl (lv_at hl 2 rfl) ?_
  refine lv_iconst (v := 2) B.1 B.2.1 dX8_speedOn_24 (by decide) ?_
  refine lv_iload_n B.1 B.2.1 dX8_speedOn_25 rfl (lv_at hl 4 rfl) ?_
  refine c_S_V (own := RX8) (As := [.ref (zA Z a0), .int a1, .int 2, .int a3]) (rest := []) B hH (cy_X8_lay B.2.2.2.2.1) (ct_X8_lay B.2.2.2.2.2.2.2 l a0 a1 2 a3 h7 _ _ (k0) hw) ⟨⟨rfl, rfl⟩, Nat.le_of_ble_eq_true rfl, Nat.le_of_ble_eq_true rfl, Nat.zero_le _, Nat.zero_le _⟩ (tw_1072 B.2.2.2.2.1) rfl hl.1 rfl (Nat.le_of_ble_eq_true rfl) dX8_speedOn_26 ?_
  clear hw hH
  intro h8 H locs hw hH
  refine lv_aload_n B.1 B.2.1 dX8_speedOn_29 rfl (lv_at hl 1 rfl) ?_
  refine lv_iload_n B.1 B.2.1 dX8_speedOn_30 rfl (lv_at hl 2 rfl) ?_
  refine lv_iconst (v := 3) B.1 B.2.1 dX8_speedOn_31 (by decide) ?_
  refine lv_iload B.1 B.2.1 dX8_speedOn_32 (lv_at hl 0 rfl) ?_
  refine lv_iload_n B.1 B.2.1 dX8_speedOn_34 rfl (lv_at hl 4 rfl) ?_
  refine lv_imul B.1 B.2.1 dX8_speedOn_35 ?_
  refine c_S_V (own := RX8) (As := [.ref (zA Z a0), .int a1, .int 3, .int (x6 * a3)]) (rest := []) B hH (cy_X8_lay B.2.2.2.2.1) (ct_X8_lay B.2.2.2.2.2.2.2 l a0 a1 3 (x6 * a3) h8 _ _ (k0) hw) ⟨⟨rfl, rfl⟩, Nat.le_of_ble_eq_true rfl, Nat.le_of_ble_eq_true rfl, Nat.zero_le _, Nat.zero_le _⟩ (tw_1072 B.2.2.2.2.1) rfl hl.1 rfl (Nat.le_of_ble_eq_true rfl) dX8_speedOn_36 ?_
  clear hw hH
  intro h9 H locs hw hH
  refine lv_iload B.1 B.2.1 dX8_speedOn_39 (lv_at hl 0 rfl) ?_
  refine lv_iload_n B.1 B.2.1 dX8_speedOn_41 rfl (lv_at hl 4 rfl) ?_
  refine lv_imul B.1 B.2.1 dX8_speedOn_42 ?_
  exact e_i B hr hH hw dX8_speedOn_43
theorem cy_X8_muteOn {s : State} {args : Array Value} (hG : GG s) : CYS s args yX8_muteOn cX8_muteOn 3 (some .int) 3 := CYS.of hG (fun _ _ hG => tw_1113 hG) (tw_8 hG) (tw_1112 hG) (by decide +kernel)
set_option maxRecDepth 100000 in
set_option maxHeartbeats 4000000 in
theorem ct_X8_muteOn {Z : ZT} (hZ : ZO Z) (l : Launch) (a0 : Nat) (a1 : Int32) (a2 : Int32) (h : PH) (sz : Nat) (Q : Int32 → PH → Prop) (k0 : kd a0 = 10) (hw : wp_X8_muteOn a0 a1 a2 h Q) : MI Z l yX8_muteOn cX8_muteOn 3 (some .int) ({ frames := 4, cells := 0, slots := 0, locals := 90 } : Room) h sz [.ref (zA Z a0), .int a1, .int a2] Q := by
  refine open_M hZ (by decide +kernel) (by exact Nat.le_of_ble_eq_true rfl) ?_
  intro p e s m below meth c B hr hsz ls hl hH
  subst hsz
  have hl : lv_has ls 3 [(0, .ref (zA Z a0)), (1, .int a1), (2, .int a2)] := hl
  unfold wp_X8_muteOn at hw
  refine lv_aload_n B.1 B.2.1 dX8_muteOn_0 rfl (lv_at hl 0 rfl) ?_
  refine lv_iload_n B.1 B.2.1 dX8_muteOn_1 rfl (lv_at hl 1 rfl) ?_
  refine lv_iconst (v := 4) B.1 B.2.1 dX8_muteOn_2 (by decide) ?_
  refine lv_iload_n B.1 B.2.1 dX8_muteOn_3 rfl (lv_at hl 2 rfl) ?_
  refine lv_if_eq (tgt := 11) B.1 B.2.1 dX8_muteOn_4 (by decide) (fun c1 => ?_) (fun c1 => ?_)
  · replace hw := hw.1 c1
    refine lv_iconst (v := 0) B.1 B.2.1 dX8_muteOn_11 (by decide) ?_
    refine c_S_V (own := RX8) (As := [.ref (zA Z a0), .int a1, .int 4, .int 0]) (rest := []) B hH (cy_X8_lay B.2.2.2.2.1) (ct_X8_lay B.2.2.2.2.2.2.2 l a0 a1 4 0 h _ _ (k0) hw) ⟨⟨rfl, rfl⟩, Nat.le_of_ble_eq_true rfl, Nat.le_of_ble_eq_true rfl, Nat.zero_le _, Nat.zero_le _⟩ (tw_1072 B.2.2.2.2.1) rfl hl.1 rfl (Nat.le_of_ble_eq_true rfl) dX8_muteOn_12 ?_
    clear hw hH
    intro h2 H locs hw hH
    refine lv_aload_n B.1 B.2.1 dX8_muteOn_15 rfl (lv_at hl 0 rfl) ?_
    refine lv_lconst (v := 0) B.1 B.2.1 dX8_muteOn_16 (by decide) ?_
    refine c_S_I (own := RX8) (As := [.ref (zA Z a0), .long 0]) (rest := []) B hH (cy_X8_soundLater B.2.2.2.2.1) (ct_X8_soundLater B.2.2.2.2.2.2.2 l a0 0 h2 _ _ (k0) hw) ⟨⟨rfl, rfl⟩, Nat.le_of_ble_eq_true rfl, Nat.le_of_ble_eq_true rfl, Nat.zero_le _, Nat.zero_le _⟩ (tw_1114 B.2.2.2.2.1) rfl hl.1 rfl (Nat.le_of_ble_eq_true rfl) dX8_muteOn_17 ?_
    clear hw hH
    intro r4 h3 H locs hw hH
    exact e_i B hr hH hw dX8_muteOn_20
  · replace hw := hw.2 c1
    refine lv_iconst (v := 1) B.1 B.2.1 dX8_muteOn_7 (by decide) ?_
    refine lv_goto (tgt := 12) B.1 B.2.1 dX8_muteOn_8 (by decide) ?_
    refine c_S_V (own := RX8) (As := [.ref (zA Z a0), .int a1, .int 4, .int 1]) (rest := []) B hH (cy_X8_lay B.2.2.2.2.1) (ct_X8_lay B.2.2.2.2.2.2.2 l a0 a1 4 1 h _ _ (k0) hw) ⟨⟨rfl, rfl⟩, Nat.le_of_ble_eq_true rfl, Nat.le_of_ble_eq_true rfl, Nat.zero_le _, Nat.zero_le _⟩ (tw_1072 B.2.2.2.2.1) rfl hl.1 rfl (Nat.le_of_ble_eq_true rfl) dX8_muteOn_12 ?_
    clear hw hH
    intro h5 H locs hw hH
    refine lv_aload_n B.1 B.2.1 dX8_muteOn_15 rfl (lv_at hl 0 rfl) ?_
    refine lv_lconst (v := 0) B.1 B.2.1 dX8_muteOn_16 (by decide) ?_
    refine c_S_I (own := RX8) (As := [.ref (zA Z a0), .long 0]) (rest := []) B hH (cy_X8_soundLater B.2.2.2.2.1) (ct_X8_soundLater B.2.2.2.2.2.2.2 l a0 0 h5 _ _ (k0) hw) ⟨⟨rfl, rfl⟩, Nat.le_of_ble_eq_true rfl, Nat.le_of_ble_eq_true rfl, Nat.zero_le _, Nat.zero_le _⟩ (tw_1114 B.2.2.2.2.1) rfl hl.1 rfl (Nat.le_of_ble_eq_true rfl) dX8_muteOn_17 ?_
    clear hw hH
    intro r7 h6 H locs hw hH
    exact e_i B hr hH hw dX8_muteOn_20
