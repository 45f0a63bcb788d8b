theorem cy_X8_isTurned {s : State} {args : Array Value} (hG : GG s) : CYS s args yX8_isTurned cX8_isTurned 6 (some .boolean) 4 := CYS.of hG (fun _ _ hG => tw_1272 hG) (tw_8 hG) (tw_1271 hG) (by decide +kernel)
set_option maxRecDepth 100000 in
set_option maxHeartbeats 4000000 in
theorem ct_X8_isTurned {Z : ZT} (hZ : ZO Z) (l : Launch) (a0 : Nat) (a1 : Int32) (a2 : Int32) (a3 : Int32) (h : PH) (sz : Nat) (Q : Int32 → PH → Prop) (k0 : kd a0 = 10) (hw : wp_X8_isTurned a0 a1 a2 a3 h Q) : MI Z l yX8_isTurned cX8_isTurned 6 (some .boolean) ({ frames := 1, cells := 0, slots := 0, locals := 22 } : Room) h sz [.ref (zA Z a0), .int a1, .int a2, .int a3] Q := by
  refine open_M hZ (by decide +kernel) (by exact Nat.le_of_ble_eq_true rfl) ?_
  intro p e s m below meth c B hr hsz ls hl hH
  subst hsz
  have hl : lv_has ls 6 [(0, .ref (zA Z a0)), (1, .int a1), (2, .int a2), (3, .int a3)] := hl
  unfold wp_X8_isTurned at hw
  have L11 : ∀ (b0 : Nat) (b1 : Int32) (b2 : Int32) (b3 : Int32) (b4 : Int32), kd b0 = 10 → ∀ (n : Nat) (b5 : Int32) (h : PH), ∀ (H : Heap) (locs : List Loc) (ls : Array Slot), wp_X8_isTurned_b11 b0 b1 b2 b3 b4 Q n b5 h → HH Z s h H locs → lv_has ls 6 [(0, .ref (zA Z b0)), (1, .int b1), (2, .int b2), (3, .int b3), (4, .int b4), (5, .int b5)] → W p l e ({ frames := 1, cells := 0, slots := 0, locals := 22 } : Room) s m ([.ref (zA Z a0), .int a1, .int a2, .int a3]).toArray below meth c H locs 0 0 (MQ below (va_Qi Q (BZ Z) (fr Z s.heap.size)) ([.ref (zA Z a0), .int a1, .int a2, .int a3]).toArray s 0 0 (fr Z s.heap.size)) (F0 m 11 ls []) := by
    intro b0 b1 b2 b3 b4 kb0 n
    induction n with
    | zero => intro b5 h H locs ls hw hH hl; exact absurd hw id
    | succ n ih =>
      intro b5 h H locs ls hw hH hl
      unfold wp_X8_isTurned_b11 at hw
      refine lv_iload B.1 B.2.1 dX8_isTurned_11 (lv_at hl 5 rfl) ?_
      refine lv_iload B.1 B.2.1 dX8_isTurned_13 (lv_at hl 4 rfl) ?_
      refine lv_icmp_ge (tgt := 54) B.1 B.2.1 dX8_isTurned_15 (by decide) (fun c3 => ?_) (fun c3 => ?_)
      · replace hw := hw.1 c3
        refine lv_iconst (v := 1) B.1 B.2.1 dX8_isTurned_54 (by decide) ?_
        exact e_z B hr (by decide) hH hw dX8_isTurned_55
      · replace hw := hw.2 c3
        refine lv_aload_n B.1 B.2.1 dX8_isTurned_18 rfl (lv_at hl 0 rfl) ?_
        refine lv_iload_n B.1 B.2.1 dX8_isTurned_19 rfl (lv_at hl 1 rfl) ?_
        refine lv_bipush (v := 12) B.1 B.2.1 dX8_isTurned_20 (by decide) ?_
        refine lv_iload B.1 B.2.1 dX8_isTurned_22 (lv_at hl 5 rfl) ?_
        refine lv_iadd B.1 B.2.1 dX8_isTurned_24 ?_
        refine c_S_I (own := RX8) (As := [.ref (zA Z b0), .int b1, .int (12 + b5)]) (rest := []) B hH (cy_X8_of B.2.2.2.2.1) (ct_X8_of B.2.2.2.2.2.2.2 l b0 b1 (12 + b5) h _ _ (kb0) hw) ⟨⟨rfl, rfl⟩, Nat.le_of_ble_eq_true rfl, Nat.le_of_ble_eq_true rfl, Nat.zero_le _, Nat.zero_le _⟩ (tw_1098 B.2.2.2.2.1) rfl hl.1 rfl (Nat.le_of_ble_eq_true rfl) dX8_isTurned_25 ?_
        clear hw hH
        intro r5 h4 H locs hw hH
        refine lv_aload_n B.1 B.2.1 dX8_isTurned_28 rfl (lv_at hl 0 rfl) ?_
        refine lv_iload_n B.1 B.2.1 dX8_isTurned_29 rfl (lv_at hl 2 rfl) ?_
        refine lv_bipush (v := 12) B.1 B.2.1 dX8_isTurned_30 (by decide) ?_
        refine lv_iload B.1 B.2.1 dX8_isTurned_32 (lv_at hl 5 rfl) ?_
        refine lv_iload_n B.1 B.2.1 dX8_isTurned_34 rfl (lv_at hl 3 rfl) ?_
        refine lv_iadd B.1 B.2.1 dX8_isTurned_35 ?_
        refine lv_iload B.1 B.2.1 dX8_isTurned_36 (lv_at hl 4 rfl) ?_
        have q6 := hw.1
        replace hw := hw.2
        refine x_irem B dX8_isTurned_38 q6 ?_
        refine lv_iadd B.1 B.2.1 dX8_isTurned_39 ?_
        refine c_S_I (own := RX8) (As := [.ref (zA Z b0), .int b2, .int (12 + (jirem (b5 + b3) b4))]) (rest := [.int r5]) B hH (cy_X8_of B.2.2.2.2.1) (ct_X8_of B.2.2.2.2.2.2.2 l b0 b2 (12 + (jirem (b5 + b3) b4)) h4 _ _ (kb0) hw) ⟨⟨rfl, rfl⟩, Nat.le_of_ble_eq_true rfl, Nat.le_of_ble_eq_true rfl, Nat.zero_le _, Nat.zero_le _⟩ (tw_1098 B.2.2.2.2.1) rfl hl.1 rfl (Nat.le_of_ble_eq_true rfl) dX8_isTurned_40 ?_
        clear hw hH
        intro r8 h7 H locs hw hH
        refine lv_icmp_eq (tgt := 48) B.1 B.2.1 dX8_isTurned_43 (by decide) (fun c9 => ?_) (fun c9 => ?_)
        · replace hw := hw.1 c9
          obtain ⟨x10, ex10⟩ : ∃ y : Int32, y = b5 + 1 := ⟨_, rfl⟩
          replace hw := hw x10 ex10
          refine lv_iinc (v := x10) (lv' := [(5, .int x10), (0, .ref (zA Z b0)), (1, .int b1), (2, .int b2), (3, .int b3), (4, .int b4)]) B.1 B.2.1 dX8_isTurned_48 hl (k := 5) rfl (by rw [ex10]; rfl) (by decide) (by first | rfl | simp [va_re_cat, Value.category]) ?_
          clear hl
          intro ls hl
          refine lv_goto (tgt := 11) B.1 B.2.1 dX8_isTurned_51 (by decide) ?_
          exact ih x10 h7  _ _ _ hw hH (lv_sub hl [1, 2, 3, 4, 5, 0] rfl)
        · replace hw := hw.2 c9
          refine lv_iconst (v := 0) B.1 B.2.1 dX8_isTurned_46 (by decide) ?_
          exact e_z B hr (by decide) hH hw dX8_isTurned_47
  refine lv_aload_n B.1 B.2.1 dX8_isTurned_0 rfl (lv_at hl 0 rfl) ?_
  refine lv_iload_n B.1 B.2.1 dX8_isTurned_1 rfl (lv_at hl 1 rfl) ?_
  refine lv_iconst (v := 0) B.1 B.2.1 dX8_isTurned_2 (by decide) ?_
  refine c_S_I (own := RX8) (As := [.ref (zA Z a0), .int a1, .int 0]) (rest := []) B hH (cy_X8_of B.2.2.2.2.1) (ct_X8_of B.2.2.2.2.2.2.2 l a0 a1 0 h _ _ (k0) hw) ⟨⟨rfl, rfl⟩, Nat.le_of_ble_eq_true rfl, Nat.le_of_ble_eq_true rfl, Nat.zero_le _, Nat.zero_le _⟩ (tw_1098 B.2.2.2.2.1) rfl hl.1 rfl (Nat.le_of_ble_eq_true rfl) dX8_isTurned_3 ?_
  clear hw hH
  intro r2 h1 H locs hw hH
  refine lv_istore (lv' := [(4, .int r2), (0, .ref (zA Z a0)), (1, .int a1), (2, .int a2), (3, .int a3)]) B.1 B.2.1 dX8_isTurned_6 hl (by decide) (by first | rfl | simp [va_re_cat, Value.category]) ?_
  clear hl
  intro ls hl
  refine lv_iconst (v := 0) B.1 B.2.1 dX8_isTurned_8 (by decide) ?_
  refine lv_istore (lv' := [(5, .int 0), (4, .int r2), (0, .ref (zA Z a0)), (1, .int a1), (2, .int a2), (3, .int a3)]) B.1 B.2.1 dX8_isTurned_9 hl (by decide) (by first | rfl | simp [va_re_cat, Value.category]) ?_
  clear hl
  intro ls hl
  obtain ⟨n11, hw⟩ := hw
  exact L11 a0 a1 a2 a3 r2 (k0) n11 0 h1  _ _ _ hw hH (lv_sub hl [2, 3, 4, 5, 1, 0] rfl)
theorem cy_X8_turnedBy {s : State} {args : Array Value} (hG : GG s) : CYV s args yX8_turnedBy cX8_turnedBy 5 (some .int) 2 := CYV.of hG (fun _ _ hG => tw_1269 hG) (tw_8 hG) (tw_1267 hG) (tw_1268 hG) (by decide +kernel)
set_option maxRecDepth 100000 in
set_option maxHeartbeats 4000000 in
theorem ct_X8_turnedBy {Z : ZT} (hZ : ZO Z) (l : Launch) (a0 : Nat) (a1 : Int32) (a2 : Int32) (h : PH) (sz : Nat) (Q : Int32 → PH → Prop) (k0 : kd a0 = 8) (hw : wp_X8_turnedBy a0 a1 a2 h Q) : MI Z l yX8_turnedBy cX8_turnedBy 5 (some .int) ({ frames := 2, cells := 0, slots := 0, locals := 47 } : Room) h sz [.ref (zA Z a0), .int a1, .int a2] Q := by
  refine open_M hZ (by decide +kernel) (by exact Nat.le_of_ble_eq_true rfl) ?_
  intro p e s m below meth c B hr hsz ls hl hH
  subst hsz
  have hl : lv_has ls 5 [(0, .ref (zA Z a0)), (1, .int a1), (2, .int a2)] := hl
  unfold wp_X8_turnedBy at hw
  have L49 : ∀ (b0 : Nat) (b1 : Int32) (b2 : Int32) (b3 : Int32), kd b0 = 8 → ∀ (n : Nat) (b4 : Int32) (h : PH), ∀ (H : Heap) (locs : List Loc) (ls : Array Slot), wp_X8_turnedBy_b49 b0 b1 b2 b3 Q n b4 h → HH Z s h H locs → lv_has ls 5 [(0, .ref (zA Z b0)), (1, .int b1), (2, .int b2), (3, .int b3), (4, .int b4)] → W p l e ({ frames := 2, cells := 0, slots := 0, locals := 47 } : Room) s m ([.ref (zA Z a0), .int a1, .int a2]).toArray below meth c H locs 0 0 (MQ below (va_Qi Q (BZ Z) (fr Z s.heap.size)) ([.ref (zA Z a0), .int a1, .int a2]).toArray s 0 0 (fr Z s.heap.size)) (F0 m 49 ls []) := by
    intro b0 b1 b2 b3 kb0 n
    induction n with
    | zero => intro b4 h H locs ls hw hH hl; exact absurd hw id
    | succ n ih =>
      intro b4 h H locs ls hw hH hl
      unfold wp_X8_turnedBy_b49 at hw
      refine lv_iload B.1 B.2.1 dX8_turnedBy_49 (lv_at hl 4 rfl) ?_
      refine lv_iload_n B.1 B.2.1 dX8_turnedBy_51 rfl (lv_at hl 3 rfl) ?_
      refine lv_icmp_ge (tgt := 91) B.1 B.2.1 dX8_turnedBy_52 (by decide) (fun c9 => ?_) (fun c9 => ?_)
      · replace hw := hw.1 c9
        refine lv_iconst (v := (-1)) B.1 B.2.1 dX8_turnedBy_91 (by decide) ?_
        exact e_i B hr hH hw dX8_turnedBy_92
      · replace hw := hw.2 c9
        refine lv_aload_n B.1 B.2.1 dX8_turnedBy_55 rfl (lv_at hl 0 rfl) ?_
        refine r_get B hH (own := RX8) (kd_n B (kb0) (by decide) (by decide)) (ct_8 (kb0)) rfl (ul_8 B.2.2.2.2.1) 3 (by decide) rfl (tw_969 B.2.2.2.2.1) dX8_turnedBy_56 ?_
        refine lv_iload_n B.1 B.2.1 dX8_turnedBy_59 rfl (lv_at hl 2 rfl) ?_
        refine lv_iconst (v := 0) B.1 B.2.1 dX8_turnedBy_60 (by decide) ?_
        refine c_S_I (own := RX8) (As := [.ref (zA Z (b0 + 2)), .int b2, .int 0]) (rest := []) B hH (cy_X8_of B.2.2.2.2.1) (ct_X8_of B.2.2.2.2.2.2.2 l (b0 + 2) b2 0 h _ _ (kf_8_3 (kb0)) hw) ⟨⟨rfl, rfl⟩, Nat.le_of_ble_eq_true rfl, Nat.le_of_ble_eq_true rfl, Nat.zero_le _, Nat.zero_le _⟩ (tw_1098 B.2.2.2.2.1) rfl hl.1 rfl (Nat.le_of_ble_eq_true rfl) dX8_turnedBy_61 ?_
        clear hw hH
        intro r11 h10 H locs hw hH
        refine lv_iload_n B.1 B.2.1 dX8_turnedBy_64 rfl (lv_at hl 3 rfl) ?_
        refine lv_icmp_ne (tgt := 91) B.1 B.2.1 dX8_turnedBy_65 (by decide) (fun c12 => ?_) (fun c12 => ?_)
        · replace hw := hw.1 c12
          refine lv_iconst (v := (-1)) B.1 B.2.1 dX8_turnedBy_91 (by decide) ?_
          exact e_i B hr hH hw dX8_turnedBy_92
        · replace hw := hw.2 c12
          refine lv_aload_n B.1 B.2.1 dX8_turnedBy_68 rfl (lv_at hl 0 rfl) ?_
          refine r_get B hH (own := RX8) (kd_n B (kb0) (by decide) (by decide)) (ct_8 (kb0)) rfl (ul_8 B.2.2.2.2.1) 3 (by decide) rfl (tw_969 B.2.2.2.2.1) dX8_turnedBy_69 ?_
          refine lv_iload_n B.1 B.2.1 dX8_turnedBy_72 rfl (lv_at hl 1 rfl) ?_
          refine lv_iload_n B.1 B.2.1 dX8_turnedBy_73 rfl (lv_at hl 2 rfl) ?_
          refine lv_iload B.1 B.2.1 dX8_turnedBy_74 (lv_at hl 4 rfl) ?_
          refine c_S_I (own := RX8) (As := [.ref (zA Z (b0 + 2)), .int b1, .int b2, .int b4]) (rest := []) B hH (cy_X8_isTurned B.2.2.2.2.1) (ct_X8_isTurned B.2.2.2.2.2.2.2 l (b0 + 2) b1 b2 b4 h10 _ _ (kf_8_3 (kb0)) hw) ⟨⟨rfl, rfl⟩, Nat.le_of_ble_eq_true rfl, Nat.le_of_ble_eq_true rfl, Nat.zero_le _, Nat.zero_le _⟩ (tw_1270 B.2.2.2.2.1) rfl hl.1 rfl (Nat.le_of_ble_eq_true rfl) dX8_turnedBy_76 ?_
          clear hw hH
          intro r14 h13 H locs hw hH
          refine lv_if_eq (tgt := 85) B.1 B.2.1 dX8_turnedBy_79 (by decide) (fun c15 => ?_) (fun c15 => ?_)
          · replace hw := hw.1 c15
            obtain ⟨x16, ex16⟩ : ∃ y : Int32, y = b4 + 1 := ⟨_, rfl⟩
            replace hw := hw x16 ex16
            refine lv_iinc (v := x16) (lv' := [(4, .int x16), (0, .ref (zA Z b0)), (1, .int b1), (2, .int b2), (3, .int b3)]) B.1 B.2.1 dX8_turnedBy_85 hl (k := 4) rfl (by rw [ex16]; rfl) (by decide) (by first | rfl | simp [va_re_cat, Value.category]) ?_
            clear hl
            intro ls hl
            refine lv_goto (tgt := 49) B.1 B.2.1 dX8_turnedBy_88 (by decide) ?_
            exact ih x16 h13  _ _ _ hw hH (lv_sub hl [1, 2, 3, 4, 0] rfl)
          · replace hw := hw.2 c15
            refine lv_iload B.1 B.2.1 dX8_turnedBy_82 (lv_at hl 4 rfl) ?_
            exact e_i B hr hH hw dX8_turnedBy_84
  refine lv_aload_n B.1 B.2.1 dX8_turnedBy_0 rfl (lv_at hl 0 rfl) ?_
  refine lv_aload_n B.1 B.2.1 dX8_turnedBy_1 rfl (lv_at hl 0 rfl) ?_
  refine r_get B hH (own := RX8) (kd_n B (k0) (by decide) (by decide)) (ct_8 (k0)) rfl (ul_8 B.2.2.2.2.1) 3 (by decide) rfl (tw_969 B.2.2.2.2.1) dX8_turnedBy_2 ?_
  refine lv_iload_n B.1 B.2.1 dX8_turnedBy_5 rfl (lv_at hl 1 rfl) ?_
  refine c_S_I (own := RX8) (As := [.ref (zA Z (a0 + 2)), .int a1]) (rest := [.ref (zA Z a0)]) B hH (cy_X8_isLoop B.2.2.2.2.1) (ct_X8_isLoop B.2.2.2.2.2.2.2 l (a0 + 2) a1 h _ _ (kf_8_3 (k0)) hw) ⟨⟨rfl, rfl⟩, Nat.le_of_ble_eq_true rfl, Nat.le_of_ble_eq_true rfl, Nat.zero_le _, Nat.zero_le _⟩ (tw_1083 B.2.2.2.2.1) rfl hl.1 rfl (Nat.le_of_ble_eq_true rfl) dX8_turnedBy_6 ?_
  clear hw hH
  intro r2 h1 H locs hw hH
  refine lv_if_eq (tgt := 27) B.1 B.2.1 dX8_turnedBy_9 (by decide) (fun c3 => ?_) (fun c3 => ?_)
  · replace hw := hw.1 c3
    refine lv_iconst (v := 1) B.1 B.2.1 dX8_turnedBy_27 (by decide) ?_
    refine c_V_I (own := RX8) (As := [.int 1]) (rest := []) B hH (cy_X8_refused B.2.2.2.2.1) (ct_X8_refused B.2.2.2.2.2.2.2 l a0 1 h1 _ _ (k0) hw) ⟨⟨rfl, rfl⟩, Nat.le_of_ble_eq_true rfl, Nat.le_of_ble_eq_true rfl, Nat.zero_le _, Nat.zero_le _⟩ (rv_8 B hH (k0)) (tw_1013 B.2.2.2.2.1) rfl hl.1 rfl (Nat.le_of_ble_eq_true rfl) dX8_turnedBy_28 ?_
    clear hw hH
    intro r5 h4 H locs hw hH
    refine lv_if_eq (tgt := 36) B.1 B.2.1 dX8_turnedBy_31 (by decide) (fun c6 => ?_) (fun c6 => ?_)
    · replace hw := hw.1 c6
      refine lv_aload_n B.1 B.2.1 dX8_turnedBy_36 rfl (lv_at hl 0 rfl) ?_
      refine r_get B hH (own := RX8) (kd_n B (k0) (by decide) (by decide)) (ct_8 (k0)) rfl (ul_8 B.2.2.2.2.1) 3 (by decide) rfl (tw_969 B.2.2.2.2.1) dX8_turnedBy_37 ?_
      refine lv_iload_n B.1 B.2.1 dX8_turnedBy_40 rfl (lv_at hl 1 rfl) ?_
      refine lv_iconst (v := 0) B.1 B.2.1 dX8_turnedBy_41 (by decide) ?_
      refine c_S_I (own := RX8) (As := [.ref (zA Z (a0 + 2)), .int a1, .int 0]) (rest := []) B hH (cy_X8_of B.2.2.2.2.1) (ct_X8_of B.2.2.2.2.2.2.2 l (a0 + 2) a1 0 h4 _ _ (kf_8_3 (k0)) hw) ⟨⟨rfl, rfl⟩, Nat.le_of_ble_eq_true rfl, Nat.le_of_ble_eq_true rfl, Nat.zero_le _, Nat.zero_le _⟩ (tw_1098 B.2.2.2.2.1) rfl hl.1 rfl (Nat.le_of_ble_eq_true rfl) dX8_turnedBy_42 ?_
      clear hw hH
      intro r8 h7 H locs hw hH
      refine lv_istore_n (lv' := [(3, .int r8), (0, .ref (zA Z a0)), (1, .int a1), (2, .int a2)]) B.1 B.2.1 dX8_turnedBy_45 rfl hl (by decide) (by first | rfl | simp [va_re_cat, Value.category]) ?_
      clear hl
      intro ls hl
      refine lv_iconst (v := 0) B.1 B.2.1 dX8_turnedBy_46 (by decide) ?_
      refine lv_istore (lv' := [(4, .int 0), (3, .int r8), (0, .ref (zA Z a0)), (1, .int a1), (2, .int a2)]) B.1 B.2.1 dX8_turnedBy_47 hl (by decide) (by first | rfl | simp [va_re_cat, Value.category]) ?_
      clear hl
      intro ls hl
      obtain ⟨n17, hw⟩ := hw
      exact L49 a0 a1 a2 r8 (k0) n17 0 h7  _ _ _ hw hH (lv_sub hl [2, 3, 4, 1, 0] rfl)
    · replace hw := hw.2 c6
      refine lv_iconst (v := 0) B.1 B.2.1 dX8_turnedBy_34 (by decide) ?_
      exact e_i B hr hH hw dX8_turnedBy_35
  · replace hw := hw.2 c3
    refine lv_aload_n B.1 B.2.1 dX8_turnedBy_12 rfl (lv_at hl 0 rfl) ?_
    refine r_get B hH (own := RX8) (kd_n B (k0) (by decide) (by decide)) (ct_8 (k0)) rfl (ul_8 B.2.2.2.2.1) 3 (by decide) rfl (tw_969 B.2.2.2.2.1) dX8_turnedBy_13 ?_
    refine lv_iload_n B.1 B.2.1 dX8_turnedBy_16 rfl (lv_at hl 2 rfl) ?_
    refine c_S_I (own := RX8) (As := [.ref (zA Z (a0 + 2)), .int a2]) (rest := [.ref (zA Z a0)]) B hH (cy_X8_isLoop B.2.2.2.2.1) (ct_X8_isLoop B.2.2.2.2.2.2.2 l (a0 + 2) a2 h1 _ _ (kf_8_3 (k0)) hw) ⟨⟨rfl, rfl⟩, Nat.le_of_ble_eq_true rfl, Nat.le_of_ble_eq_true rfl, Nat.zero_le _, Nat.zero_le _⟩ (tw_1083 B.2.2.2.2.1) rfl hl.1 rfl (Nat.le_of_ble_eq_true rfl) dX8_turnedBy_17 ?_
    clear hw hH
    intro r19 h18 H locs hw hH
    refine lv_if_eq (tgt := 27) B.1 B.2.1 dX8_turnedBy_20 (by decide) (fun c20 => ?_) (fun c20 => ?_)
    · replace hw := hw.1 c20
      refine lv_iconst (v := 1) B.1 B.2.1 dX8_turnedBy_27 (by decide) ?_
      refine c_V_I (own := RX8) (As := [.int 1]) (rest := []) B hH (cy_X8_refused B.2.2.2.2.1) (ct_X8_refused B.2.2.2.2.2.2.2 l a0 1 h18 _ _ (k0) hw) ⟨⟨rfl, rfl⟩, Nat.le_of_ble_eq_true rfl, Nat.le_of_ble_eq_true rfl, Nat.zero_le _, Nat.zero_le _⟩ (rv_8 B hH (k0)) (tw_1013 B.2.2.2.2.1) rfl hl.1 rfl (Nat.le_of_ble_eq_true rfl) dX8_turnedBy_28 ?_
      clear hw hH
      intro r22 h21 H locs hw hH
      refine lv_if_eq (tgt := 36) B.1 B.2.1 dX8_turnedBy_31 (by decide) (fun c23 => ?_) (fun c23 => ?_)
      · replace hw := hw.1 c23
        refine lv_aload_n B.1 B.2.1 dX8_turnedBy_36 rfl (lv_at hl 0 rfl) ?_
        refine r_get B hH (own := RX8) (kd_n B (k0) (by decide) (by decide)) (ct_8 (k0)) rfl (ul_8 B.2.2.2.2.1) 3 (by decide) rfl (tw_969 B.2.2.2.2.1) dX8_turnedBy_37 ?_
        refine lv_iload_n B.1 B.2.1 dX8_turnedBy_40 rfl (lv_at hl 1 rfl) ?_
        refine lv_iconst (v := 0) B.1 B.2.1 dX8_turnedBy_41 (by decide) ?_
        refine c_S_I (own := RX8) (As := [.ref (zA Z (a0 + 2)), .int a1, .int 0]) (rest := []) B hH (cy_X8_of B.2.2.2.2.1) (ct_X8_of B.2.2.2.2.2.2.2 l (a0 + 2) a1 0 h21 _ _ (kf_8_3 (k0)) hw) ⟨⟨rfl, rfl⟩, Nat.le_of_ble_eq_true rfl, Nat.le_of_ble_eq_true rfl, Nat.zero_le _, Nat.zero_le _⟩ (tw_1098 B.2.2.2.2.1) rfl hl.1 rfl (Nat.le_of_ble_eq_true rfl) dX8_turnedBy_42 ?_
        clear hw hH
        intro r25 h24 H locs hw hH
        refine lv_istore_n (lv' := [(3, .int r25), (0, .ref (zA Z a0)), (1, .int a1), (2, .int a2)]) B.1 B.2.1 dX8_turnedBy_45 rfl hl (by decide) (by first | rfl | simp [va_re_cat, Value.category]) ?_
        clear hl
        intro ls hl
        refine lv_iconst (v := 0) B.1 B.2.1 dX8_turnedBy_46 (by decide) ?_
        refine lv_istore (lv' := [(4, .int 0), (3, .int r25), (0, .ref (zA Z a0)), (1, .int a1), (2, .int a2)]) B.1 B.2.1 dX8_turnedBy_47 hl (by decide) (by first | rfl | simp [va_re_cat, Value.category]) ?_
        clear hl
        intro ls hl
        obtain ⟨n26, hw⟩ := hw
        exact L49 a0 a1 a2 r25 (k0) n26 0 h24  _ _ _ hw hH (lv_sub hl [2, 3, 4, 1, 0] rfl)
      · replace hw := hw.2 c23
        refine lv_iconst (v := 0) B.1 B.2.1 dX8_turnedBy_34 (by decide) ?_
        exact e_i B hr hH hw dX8_turnedBy_35
    · replace hw := hw.2 c20
      refine lv_iconst (v := 0) B.1 B.2.1 dX8_turnedBy_23 (by decide) ?_
      refine lv_goto (tgt := 28) B.1 B.2.1 dX8_turnedBy_24 (by decide) ?_
      refine c_V_I (own := RX8) (As := [.int 0]) (rest := []) B hH (cy_X8_refused B.2.2.2.2.1) (ct_X8_refused B.2.2.2.2.2.2.2 l a0 0 h18 _ _ (k0) hw) ⟨⟨rfl, rfl⟩, Nat.le_of_ble_eq_true rfl, Nat.le_of_ble_eq_true rfl, Nat.zero_le _, Nat.zero_le _⟩ (rv_8 B hH (k0)) (tw_1013 B.2.2.2.2.1) rfl hl.1 rfl (Nat.le_of_ble_eq_true rfl) dX8_turnedBy_28 ?_
      clear hw hH
      intro r28 h27 H locs hw hH
      refine lv_if_eq (tgt := 36) B.1 B.2.1 dX8_turnedBy_31 (by decide) (fun c29 => ?_) (fun c29 => ?_)
      · replace hw := hw.1 c29
        refine lv_aload_n B.1 B.2.1 dX8_turnedBy_36 rfl (lv_at hl 0 rfl) ?_
        refine r_get B hH (own := RX8) (kd_n B (k0) (by decide) (by decide)) (ct_8 (k0)) rfl (ul_8 B.2.2.2.2.1) 3 (by decide) rfl (tw_969 B.2.2.2.2.1) dX8_turnedBy_37 ?_
        refine lv_iload_n B.1 B.2.1 dX8_turnedBy_40 rfl (lv_at hl 1 rfl) ?_
        refine lv_iconst (v := 0) B.1 B.2.1 dX8_turnedBy_41 (by decide) ?_
        refine c_S_I (own := RX8) (As := [.ref (zA Z (a0 + 2)), .int a1, .int 0]) (rest := []) B hH (cy_X8_of B.2.2.2.2.1) (ct_X8_of B.2.2.2.2.2.2.2 l (a0 + 2) a1 0 h27 _ _ (kf_8_3 (k0)) hw) ⟨⟨rfl, rfl⟩, Nat.le_of_ble_eq_true rfl, Nat.le_of_ble_eq_true rfl, Nat.zero_le _, Nat.zero_le _⟩ (tw_1098 B.2.2.2.2.1) rfl hl.1 rfl (Nat.le_of_ble_eq_true rfl) dX8_turnedBy_42 ?_
        clear hw hH
        intro r31 h30 H locs hw hH
        refine lv_istore_n (lv' := [(3, .int r31), (0, .ref (zA Z a0)), (1, .int a1), (2, .int a2)]) B.1 B.2.1 dX8_turnedBy_45 rfl hl (by decide) (by first | rfl | simp [va_re_cat, Value.category]) ?_
        clear hl
        intro ls hl
        refine lv_iconst (v := 0) B.1 B.2.1 dX8_turnedBy_46 (by decide) ?_
        refine lv_istore (lv' := [(4, .int 0), (3, .int r31), (0, .ref (zA Z a0)), (1, .int a1), (2, .int a2)]) B.1 B.2.1 dX8_turnedBy_47 hl (by decide) (by first | rfl | simp [va_re_cat, Value.category]) ?_
        clear hl
        intro ls hl
        obtain ⟨n32, hw⟩ := hw
        exact L49 a0 a1 a2 r31 (k0) n32 0 h30  _ _ _ hw hH (lv_sub hl [2, 3, 4, 1, 0] rfl)
      · replace hw := hw.2 c29
        refine lv_iconst (v := 0) B.1 B.2.1 dX8_turnedBy_34 (by decide) ?_
        exact e_i B hr hH hw dX8_turnedBy_35
theorem cy_X8_meetNow {s : State} {args : Array Value} (hG : GG s) : CYS s args yX8_meetNow cX8_meetNow 3 (some .boolean) 3 := CYS.of hG (fun _ _ hG => tw_1286 hG) (tw_8 hG) (tw_1285 hG) (by decide +kernel)
set_option maxRecDepth 100000 in
set_option maxHeartbeats 4000000 in
theorem ct_X8_meetNow {Z : ZT} (hZ : ZO Z) (l : Launch) (a0 : Nat) (a1 : Int32) (a2 : Int32) (h : PH) (sz : Nat) (Q : Int32 → PH → Prop) (k0 : kd a0 = 10) (hw : wp_X8_meetNow a0 a1 a2 h Q) : MI Z l yX8_meetNow cX8_meetNow 3 (some .boolean) ({ frames := 2, cells := 0, slots := 0, locals := 46 } : Room) h sz [.ref (zA Z a0), .int a1, .int a2] Q := by
  refine open_M hZ (by decide +kernel) (by exact Nat.le_of_ble_eq_true rfl) ?_
  intro p e s m below meth c B hr hsz ls hl hH
  subst hsz
  have hl : lv_has ls 3 [(0, .ref (zA Z a0)), (1, .int a1), (2, .int a2)] := hl
  unfold wp_X8_meetNow at hw
  refine lv_aload_n B.1 B.2.1 dX8_meetNow_0 rfl (lv_at hl 0 rfl) ?_
  refine lv_iload_n B.1 B.2.1 dX8_meetNow_1 rfl (lv_at hl 1 rfl) ?_
  refine c_S_I (own := RX8) (As := [.ref (zA Z a0), .int a1]) (rest := []) B hH (cy_X8_isLoop B.2.2.2.2.1) (ct_X8_isLoop B.2.2.2.2.2.2.2 l a0 a1 h _ _ (k0) hw) ⟨⟨rfl, rfl⟩, Nat.le_of_ble_eq_true rfl, Nat.le_of_ble_eq_true rfl, Nat.zero_le _, Nat.zero_le _⟩ (tw_1083 B.2.2.2.2.1) rfl hl.1 rfl (Nat.le_of_ble_eq_true rfl) dX8_meetNow_2 ?_
  clear hw hH
  intro r2 h1 H locs hw hH
  refine lv_if_eq (tgt := 54) B.1 B.2.1 dX8_meetNow_5 (by decide) (fun c3 => ?_) (fun c3 => ?_)
  · replace hw := hw.1 c3
    refine lv_iconst (v := 0) B.1 B.2.1 dX8_meetNow_54 (by decide) ?_
    exact e_z B hr (by decide) hH hw dX8_meetNow_55
  · replace hw := hw.2 c3
    refine lv_aload_n B.1 B.2.1 dX8_meetNow_8 rfl (lv_at hl 0 rfl) ?_
    refine lv_iload_n B.1 B.2.1 dX8_meetNow_9 rfl (lv_at hl 2 rfl) ?_
    refine c_S_I (own := RX8) (As := [.ref (zA Z a0), .int a2]) (rest := []) B hH (cy_X8_isLoop B.2.2.2.2.1) (ct_X8_isLoop B.2.2.2.2.2.2.2 l a0 a2 h1 _ _ (k0) hw) ⟨⟨rfl, rfl⟩, Nat.le_of_ble_eq_true rfl, Nat.le_of_ble_eq_true rfl, Nat.zero_le _, Nat.zero_le _⟩ (tw_1083 B.2.2.2.2.1) rfl hl.1 rfl (Nat.le_of_ble_eq_true rfl) dX8_meetNow_10 ?_
    clear hw hH
    intro r5 h4 H locs hw hH
    refine lv_if_eq (tgt := 54) B.1 B.2.1 dX8_meetNow_13 (by decide) (fun c6 => ?_) (fun c6 => ?_)
    · replace hw := hw.1 c6
      refine lv_iconst (v := 0) B.1 B.2.1 dX8_meetNow_54 (by decide) ?_
      exact e_z B hr (by decide) hH hw dX8_meetNow_55
    · replace hw := hw.2 c6
      refine lv_aload_n B.1 B.2.1 dX8_meetNow_16 rfl (lv_at hl 0 rfl) ?_
      refine lv_iload_n B.1 B.2.1 dX8_meetNow_17 rfl (lv_at hl 1 rfl) ?_
      refine lv_iconst (v := 0) B.1 B.2.1 dX8_meetNow_18 (by decide) ?_
      refine c_S_I (own := RX8) (As := [.ref (zA Z a0), .int a1, .int 0]) (rest := []) B hH (cy_X8_of B.2.2.2.2.1) (ct_X8_of B.2.2.2.2.2.2.2 l a0 a1 0 h4 _ _ (k0) hw) ⟨⟨rfl, rfl⟩, Nat.le_of_ble_eq_true rfl, Nat.le_of_ble_eq_true rfl, Nat.zero_le _, Nat.zero_le _⟩ (tw_1098 B.2.2.2.2.1) rfl hl.1 rfl (Nat.le_of_ble_eq_true rfl) dX8_meetNow_19 ?_
      clear hw hH
      intro r8 h7 H locs hw hH
      refine lv_if_le (tgt := 54) B.1 B.2.1 dX8_meetNow_22 (by decide) (fun c9 => ?_) (fun c9 => ?_)
      · replace hw := hw.1 c9
        refine lv_iconst (v := 0) B.1 B.2.1 dX8_meetNow_54 (by decide) ?_
        exact e_z B hr (by decide) hH hw dX8_meetNow_55
      · replace hw := hw.2 c9
        refine lv_aload_n B.1 B.2.1 dX8_meetNow_25 rfl (lv_at hl 0 rfl) ?_
        refine lv_iload_n B.1 B.2.1 dX8_meetNow_26 rfl (lv_at hl 2 rfl) ?_
        refine lv_iconst (v := 0) B.1 B.2.1 dX8_meetNow_27 (by decide) ?_
        refine c_S_I (own := RX8) (As := [.ref (zA Z a0), .int a2, .int 0]) (rest := []) B hH (cy_X8_of B.2.2.2.2.1) (ct_X8_of B.2.2.2.2.2.2.2 l a0 a2 0 h7 _ _ (k0) hw) ⟨⟨rfl, rfl⟩, Nat.le_of_ble_eq_true rfl, Nat.le_of_ble_eq_true rfl, Nat.zero_le _, Nat.zero_le _⟩ (tw_1098 B.2.2.2.2.1) rfl hl.1 rfl (Nat.le_of_ble_eq_true rfl) dX8_meetNow_28 ?_
        clear hw hH
        intro r11 h10 H locs hw hH
        refine lv_if_le (tgt := 54) B.1 B.2.1 dX8_meetNow_31 (by decide) (fun c12 => ?_) (fun c12 => ?_)
        · replace hw := hw.1 c12
          refine lv_iconst (v := 0) B.1 B.2.1 dX8_meetNow_54 (by decide) ?_
          exact e_z B hr (by decide) hH hw dX8_meetNow_55
        · replace hw := hw.2 c12
          refine lv_aload_n B.1 B.2.1 dX8_meetNow_34 rfl (lv_at hl 0 rfl) ?_
          refine lv_iload_n B.1 B.2.1 dX8_meetNow_35 rfl (lv_at hl 1 rfl) ?_
          refine lv_iconst (v := 3) B.1 B.2.1 dX8_meetNow_36 (by decide) ?_
          refine c_S_I (own := RX8) (As := [.ref (zA Z a0), .int a1, .int 3]) (rest := []) B hH (cy_X8_of B.2.2.2.2.1) (ct_X8_of B.2.2.2.2.2.2.2 l a0 a1 3 h10 _ _ (k0) hw) ⟨⟨rfl, rfl⟩, Nat.le_of_ble_eq_true rfl, Nat.le_of_ble_eq_true rfl, Nat.zero_le _, Nat.zero_le _⟩ (tw_1098 B.2.2.2.2.1) rfl hl.1 rfl (Nat.le_of_ble_eq_true rfl) dX8_meetNow_37 ?_
          clear hw hH
          intro r14 h13 H locs hw hH
          refine lv_aload_n B.1 B.2.1 dX8_meetNow_40 rfl (lv_at hl 0 rfl) ?_
          refine lv_iload_n B.1 B.2.1 dX8_meetNow_41 rfl (lv_at hl 2 rfl) ?_
          refine lv_iconst (v := 3) B.1 B.2.1 dX8_meetNow_42 (by decide) ?_
          refine c_S_I (own := RX8) (As := [.ref (zA Z a0), .int a2, .int 3]) (rest := [.int r14]) B hH (cy_X8_of B.2.2.2.2.1) (ct_X8_of B.2.2.2.2.2.2.2 l a0 a2 3 h13 _ _ (k0) hw) ⟨⟨rfl, rfl⟩, Nat.le_of_ble_eq_true rfl, Nat.le_of_ble_eq_true rfl, Nat.zero_le _, Nat.zero_le _⟩ (tw_1098 B.2.2.2.2.1) rfl hl.1 rfl (Nat.le_of_ble_eq_true rfl) dX8_meetNow_43 ?_
          clear hw hH
          intro r16 h15 H locs hw hH
          refine lv_iadd B.1 B.2.1 dX8_meetNow_46 ?_
          refine lv_if_ne (tgt := 54) B.1 B.2.1 dX8_meetNow_47 (by decide) (fun c17 => ?_) (fun c17 => ?_)
          · replace hw := hw.1 c17
            refine lv_iconst (v := 0) B.1 B.2.1 dX8_meetNow_54 (by decide) ?_
            exact e_z B hr (by decide) hH hw dX8_meetNow_55
          · replace hw := hw.2 c17
            refine lv_iconst (v := 1) B.1 B.2.1 dX8_meetNow_50 (by decide) ?_
            refine lv_goto (tgt := 55) B.1 B.2.1 dX8_meetNow_51 (by decide) ?_
            exact e_z B hr (by decide) hH hw dX8_meetNow_55
theorem cy_X8_command {s : State} {args : Array Value} (hG : GG s) : CYV s args yX8_command cX8_command 11 (some .boolean) 2 := CYV.of hG (fun _ _ hG => tw_1282 hG) (tw_8 hG) (tw_1281 hG) (tp_74 hG) (by decide +kernel)
set_option maxRecDepth 100000 in
set_option maxHeartbeats 4000000 in
theorem ct_X8_command {Z : ZT} (hZ : ZO Z) (l : Launch) (a0 : Nat) (a1 : Int32) (a2 : Int32) (h : PH) (sz : Nat) (Q : Int32 → PH → Prop) (k0 : kd a0 = 8) (hw : wp_X8_command a0 a1 a2 h Q) : MI Z l yX8_command cX8_command 11 (some .boolean) ({ frames := 6, cells := 0, slots := 0, locals := 137 } : Room) h sz [.ref (zA Z a0), .int a1, .int a2] Q := by
  refine open_M hZ (by decide +kernel) (by exact Nat.le_of_ble_eq_true rfl) ?_
  intro p e s m below meth c B hr hsz ls hl hH
  subst hsz
  have hl : lv_has ls 11 [(0, .ref (zA Z a0)), (1, .int a1), (2, .int a2)] := hl
  unfold wp_X8_command at hw
  refine lv_iload_n B.1 B.2.1 dX8_command_0 rfl (lv_at hl 2 rfl) ?_
  refine lv_ldc (own := RX8) B.1 B.2.1 B.2.2.2.1 (tw_1283 B.2.2.2.2.1) dX8_command_1 ?_
  refine lv_idiv B.1 B.2.1 dX8_command_3 (by decide) ?_
  refine lv_topi (fun x1 ex1 => ?_)
  replace hw := hw x1 ex1
  refine lv_istore_n (lv' := [(3, .int x1), (0, .ref (zA Z a0)), (1, .int a1), (2, .int a2)]) B.1 B.2.1 dX8_command_4 rfl hl (by decide) (by first | rfl | simp [va_re_cat, Value.category]) ?_
  clear hl
  intro ls hl
  refine lv_iload_n B.1 B.2.1 dX8_command_5 rfl (lv_at hl 3 rfl) ?_
  refine lv_sipush (v := 10000) B.1 B.2.1 dX8_command_6 (by decide) ?_
  refine lv_idiv B.1 B.2.1 dX8_command_9 (by decide) ?_
  refine lv_bipush (v := 10) B.1 B.2.1 dX8_command_10 (by decide) ?_
  refine x_irem B dX8_command_12 (by decide) ?_
  refine lv_topi (fun x2 ex2 => ?_)
  replace hw := hw x2 ex2
  refine lv_istore (lv' := [(4, .int x2), (3, .int x1), (0, .ref (zA Z a0)), (1, .int a1), (2, .int a2)]) B.1 B.2.1 dX8_command_13 hl (by decide) (by first | rfl | simp [va_re_cat, Value.category]) ?_
  clear hl
  intro ls hl
  refine lv_iload_n B.1 B.2.1 dX8_command_15 rfl (lv_at hl 4 rfl) ?_
  refine lv_sipush (v := 1000) B.1 B.2.1 dX8_command_16 (by decide) ?_
  refine lv_idiv B.1 B.2.1 dX8_command_19 (by decide) ?_
  refine lv_bipush (v := 10) B.1 B.2.1 dX8_command_20 (by decide) ?_
  refine x_irem B dX8_command_22 (by decide) ?_
  refine lv_topi (fun x3 ex3 => ?_)
  replace hw := hw x3 ex3
  refine lv_istore (lv' := [(5, .int x3), (4, .int x2), (3, .int x1), (0, .ref (zA Z a0)), (1, .int a1), (2, .int a2)]) B.1 B.2.1 dX8_command_23 hl (by decide) (by first | rfl | simp [va_re_cat, Value.category]) ?_
  clear hl
  intro ls hl
  refine lv_iload_n B.1 B.2.1 dX8_command_25 rfl (lv_at hl 5 rfl) ?_
  refine lv_sipush (v := 1000) B.1 B.2.1 dX8_command_26 (by decide) ?_
  refine x_irem B dX8_command_29 (by decide) ?_
  refine lv_topi (fun x4 ex4 => ?_)
  replace hw := hw x4 ex4
  refine lv_istore (lv' := [(6, .int x4), (5, .int x3), (4, .int x2), (3, .int x1), (0, .ref (zA Z a0)), (1, .int a1), (2, .int a2)]) B.1 B.2.1 dX8_command_30 hl (by decide) (by first | rfl | simp [va_re_cat, Value.category]) ?_
  clear hl
  intro ls hl
  refine lv_iload_n B.1 B.2.1 dX8_command_32 rfl (lv_at hl 6 rfl) ?_
  refine lv_bipush (v := 100) B.1 B.2.1 dX8_command_33 (by decide) ?_
  refine lv_idiv B.1 B.2.1 dX8_command_35 (by decide) ?_
  refine lv_bipush (v := 100) B.1 B.2.1 dX8_command_36 (by decide) ?_
  refine x_irem B dX8_command_38 (by decide) ?_
  refine lv_topi (fun x5 ex5 => ?_)
  replace hw := hw x5 ex5
  refine lv_istore (lv' := [(7, .int x5), (6, .int x4), (5, .int x3), (4, .int x2), (3, .int x1), (0, .ref (zA Z a0)), (1, .int a1), (2, .int a2)]) B.1 B.2.1 dX8_command_39 hl (by decide) (by first | rfl | simp [va_re_cat, Value.category]) ?_
  clear hl
  intro ls hl
  refine lv_iload_n B.1 B.2.1 dX8_command_41 rfl (lv_at hl 7 rfl) ?_
  refine lv_bipush (v := 100) B.1 B.2.1 dX8_command_42 (by decide) ?_
  refine x_irem B dX8_command_44 (by decide) ?_
  refine lv_topi (fun x6 ex6 => ?_)
  replace hw := hw x6 ex6
  refine lv_istore (lv' := [(8, .int x6), (7, .int x5), (6, .int x4), (5, .int x3), (4, .int x2), (3, .int x1), (0, .ref (zA Z a0)), (1, .int a1), (2, .int a2)]) B.1 B.2.1 dX8_command_45 hl (by decide) (by first | rfl | simp [va_re_cat, Value.category]) ?_
  clear hl
  intro ls hl
  refine lv_iload_n B.1 B.2.1 dX8_command_47 rfl (lv_at hl 8 rfl) ?_
  refine lv_bipush (v := 10) B.1 B.2.1 dX8_command_48 (by decide) ?_
  refine x_irem B dX8_command_50 (by decide) ?_
  refine lv_topi (fun x7 ex7 => ?_)
  replace hw := hw x7 ex7
  refine lv_istore (lv' := [(9, .int x7), (8, .int x6), (7, .int x5), (6, .int x4), (5, .int x3), (4, .int x2), (3, .int x1), (0, .ref (zA Z a0)), (1, .int a1), (2, .int a2)]) B.1 B.2.1 dX8_command_51 hl (by decide) (by first | rfl | simp [va_re_cat, Value.category]) ?_
  clear hl
  intro ls hl
  refine lv_iload_n B.1 B.2.1 dX8_command_53 rfl (lv_at hl 9 rfl) ?_
  refine lv_ldc (own := RX8) B.1 B.2.1 B.2.2.2.1 (tw_1283 B.2.2.2.2.1) dX8_command_54 ?_
  refine x_irem B dX8_command_56 (by decide) ?_
  refine lv_topi (fun x8 ex8 => ?_)
  replace hw := hw x8 ex8
  refine lv_istore (lv' := [(10, .int x8), (9, .int x7), (8, .int x6), (7, .int x5), (6, .int x4), (5, .int x3), (4, .int x2), (3, .int x1), (0, .ref (zA Z a0)), (1, .int a1), (2, .int a2)]) B.1 B.2.1 dX8_command_57 hl (by decide) (by first | rfl | simp [va_re_cat, Value.category]) ?_
  clear hl
  intro ls hl
  refine lv_iload_n B.1 B.2.1 dX8_command_59 rfl (lv_at hl 9 rfl) ?_
  by_cases c9 : (a1 = 1)
  · replace hw := hw.1 c9
    refine lv_tableIn (off := 52) (tgt := 112) B.1 B.2.1 dX8_command_60 (by rw [c9]; decide) (by rw [c9]; decide) (by rw [c9]; rfl) (by decide) ?_
    refine lv_iload_n B.1 B.2.1 dX8_command_112 rfl (lv_at hl 10 rfl) ?_
    refine lv_i2l B.1 B.2.1 dX8_command_113 rfl ?_
    refine lv_lconst (v := 1) B.1 B.2.1 dX8_command_114 (by decide) ?_
    refine lv_ldc2 (own := RX8) B.1 B.2.1 B.2.2.2.1 (tw_1232 B.2.2.2.2.1) dX8_command_115 ?_
    refine c_S_I (own := RX8) (As := [.long (a2.toInt64), .long 1, .long 999]) (rest := []) B hH (cy_X8_in B.2.2.2.2.1) (ct_X8_in B.2.2.2.2.2.2.2 l (a2.toInt64) 1 999 h _ _  hw) ⟨⟨rfl, rfl⟩, Nat.le_of_ble_eq_true rfl, Nat.le_of_ble_eq_true rfl, Nat.zero_le _, Nat.zero_le _⟩ (tw_1010 B.2.2.2.2.1) rfl hl.1 rfl (Nat.le_of_ble_eq_true rfl) dX8_command_118 ?_
    clear hw hH
    intro r11 h10 H locs hw hH
    refine lv_if_eq (tgt := 139) B.1 B.2.1 dX8_command_121 (by decide) (fun c12 => ?_) (fun c12 => ?_)
    · replace hw := hw.1 c12
      refine lv_iconst (v := 0) B.1 B.2.1 dX8_command_139 (by decide) ?_
      exact e_z B hr (by decide) hH hw dX8_command_140
    · replace hw := hw.2 c12
      refine lv_aload_n B.1 B.2.1 dX8_command_124 rfl (lv_at hl 8 rfl) ?_
      refine r_get B hH (own := RX8) (kd_n B (k0) (by decide) (by decide)) (ct_8 (k0)) rfl (ul_8 B.2.2.2.2.1) 4 (by decide) rfl (tw_970 B.2.2.2.2.1) dX8_command_125 ?_
      refine lv_iload_n B.1 B.2.1 dX8_command_128 rfl (lv_at hl 10 rfl) ?_
      refine c_S_I (own := RX8) (As := [.ref (zA Z (a0 + 3)), .int a2]) (rest := []) B hH (cy_X8_goOn B.2.2.2.2.1) (ct_X8_goOn B.2.2.2.2.2.2.2 l (a0 + 3) a2 h10 _ _ (kf_8_4 (k0)) hw) ⟨⟨rfl, rfl⟩, Nat.le_of_ble_eq_true rfl, Nat.le_of_ble_eq_true rfl, Nat.zero_le _, Nat.zero_le _⟩ (tw_1126 B.2.2.2.2.1) rfl hl.1 rfl (Nat.le_of_ble_eq_true rfl) dX8_command_129 ?_
      clear hw hH
      intro r14 h13 H locs hw hH
      refine lv_if_lt (tgt := 139) B.1 B.2.1 dX8_command_132 (by decide) (fun c15 => ?_) (fun c15 => ?_)
      · replace hw := hw.1 c15
        refine lv_iconst (v := 0) B.1 B.2.1 dX8_command_139 (by decide) ?_
        exact e_z B hr (by decide) hH hw dX8_command_140
      · replace hw := hw.2 c15
        refine lv_iconst (v := 1) B.1 B.2.1 dX8_command_135 (by decide) ?_
        refine lv_goto (tgt := 140) B.1 B.2.1 dX8_command_136 (by decide) ?_
        exact e_z B hr (by decide) hH hw dX8_command_140
  · by_cases c16 : (a1 = 2)
    · replace hw := hw.2.1 c16
      refine lv_tableIn (off := 81) (tgt := 141) B.1 B.2.1 dX8_command_60 (by rw [c16]; decide) (by rw [c16]; decide) (by rw [c16]; rfl) (by decide) ?_
      refine lv_aload_n B.1 B.2.1 dX8_command_141 rfl (lv_at hl 8 rfl) ?_
      refine r_get B hH (own := RX8) (kd_n B (k0) (by decide) (by decide)) (ct_8 (k0)) rfl (ul_8 B.2.2.2.2.1) 4 (by decide) rfl (tw_970 B.2.2.2.2.1) dX8_command_142 ?_
      refine lv_iload_n B.1 B.2.1 dX8_command_145 rfl (lv_at hl 7 rfl) ?_
      refine c_S_I (own := RX8) (As := [.ref (zA Z (a0 + 3)), .int x1]) (rest := []) B hH (cy_X8_isLoop B.2.2.2.2.1) (ct_X8_isLoop B.2.2.2.2.2.2.2 l (a0 + 3) x1 h _ _ (kf_8_4 (k0)) hw) ⟨⟨rfl, rfl⟩, Nat.le_of_ble_eq_true rfl, Nat.le_of_ble_eq_true rfl, Nat.zero_le _, Nat.zero_le _⟩ (tw_1083 B.2.2.2.2.1) rfl hl.1 rfl (Nat.le_of_ble_eq_true rfl) dX8_command_146 ?_
      clear hw hH
      intro r18 h17 H locs hw hH
      refine lv_if_eq (tgt := 201) B.1 B.2.1 dX8_command_149 (by decide) (fun c19 => ?_) (fun c19 => ?_)
      · replace hw := hw.1 c19
        refine lv_iconst (v := 0) B.1 B.2.1 dX8_command_201 (by decide) ?_
        exact e_z B hr (by decide) hH hw dX8_command_202
      · replace hw := hw.2 c19
        refine lv_aload_n B.1 B.2.1 dX8_command_152 rfl (lv_at hl 8 rfl) ?_
        refine r_get B hH (own := RX8) (kd_n B (k0) (by decide) (by decide)) (ct_8 (k0)) rfl (ul_8 B.2.2.2.2.1) 4 (by decide) rfl (tw_970 B.2.2.2.2.1) dX8_command_153 ?_
        refine lv_iload B.1 B.2.1 dX8_command_156 (lv_at hl 6 rfl) ?_
        refine lv_iload B.1 B.2.1 dX8_command_158 (lv_at hl 3 rfl) ?_
        refine c_S_I (own := RX8) (As := [.ref (zA Z (a0 + 3)), .int x2, .int x5]) (rest := []) B hH (cy_X8_isPlace B.2.2.2.2.1) (ct_X8_isPlace B.2.2.2.2.2.2.2 l (a0 + 3) x2 x5 h17 _ _ (kf_8_4 (k0)) hw) ⟨⟨rfl, rfl⟩, Nat.le_of_ble_eq_true rfl, Nat.le_of_ble_eq_true rfl, Nat.zero_le _, Nat.zero_le _⟩ (tw_1086 B.2.2.2.2.1) rfl hl.1 rfl (Nat.le_of_ble_eq_true rfl) dX8_command_160 ?_
        clear hw hH
        intro r21 h20 H locs hw hH
        refine lv_if_eq (tgt := 201) B.1 B.2.1 dX8_command_163 (by decide) (fun c22 => ?_) (fun c22 => ?_)
        · replace hw := hw.1 c22
          refine lv_iconst (v := 0) B.1 B.2.1 dX8_command_201 (by decide) ?_
          exact e_z B hr (by decide) hH hw dX8_command_202
        · replace hw := hw.2 c22
          refine lv_aload_n B.1 B.2.1 dX8_command_166 rfl (lv_at hl 8 rfl) ?_
          refine r_get B hH (own := RX8) (kd_n B (k0) (by decide) (by decide)) (ct_8 (k0)) rfl (ul_8 B.2.2.2.2.1) 4 (by decide) rfl (tw_970 B.2.2.2.2.1) dX8_command_167 ?_
          refine lv_iload B.1 B.2.1 dX8_command_170 (lv_at hl 6 rfl) ?_
          refine lv_iload B.1 B.2.1 dX8_command_172 (lv_at hl 2 rfl) ?_
          refine c_S_I (own := RX8) (As := [.ref (zA Z (a0 + 3)), .int x2, .int x6]) (rest := []) B hH (cy_X8_isPlace B.2.2.2.2.1) (ct_X8_isPlace B.2.2.2.2.2.2.2 l (a0 + 3) x2 x6 h20 _ _ (kf_8_4 (k0)) hw) ⟨⟨rfl, rfl⟩, Nat.le_of_ble_eq_true rfl, Nat.le_of_ble_eq_true rfl, Nat.zero_le _, Nat.zero_le _⟩ (tw_1086 B.2.2.2.2.1) rfl hl.1 rfl (Nat.le_of_ble_eq_true rfl) dX8_command_174 ?_
          clear hw hH
          intro r24 h23 H locs hw hH
          refine lv_if_eq (tgt := 201) B.1 B.2.1 dX8_command_177 (by decide) (fun c25 => ?_) (fun c25 => ?_)
          · replace hw := hw.1 c25
            refine lv_iconst (v := 0) B.1 B.2.1 dX8_command_201 (by decide) ?_
            exact e_z B hr (by decide) hH hw dX8_command_202
          · replace hw := hw.2 c25
            refine lv_aload_n B.1 B.2.1 dX8_command_180 rfl (lv_at hl 8 rfl) ?_
            refine r_get B hH (own := RX8) (kd_n B (k0) (by decide) (by decide)) (ct_8 (k0)) rfl (ul_8 B.2.2.2.2.1) 4 (by decide) rfl (tw_970 B.2.2.2.2.1) dX8_command_181 ?_
            refine lv_iload_n B.1 B.2.1 dX8_command_184 rfl (lv_at hl 7 rfl) ?_
            refine lv_iload B.1 B.2.1 dX8_command_185 (lv_at hl 6 rfl) ?_
            refine lv_iload B.1 B.2.1 dX8_command_187 (lv_at hl 3 rfl) ?_
            refine lv_iload B.1 B.2.1 dX8_command_189 (lv_at hl 2 rfl) ?_
            refine c_S_I (own := RX8) (As := [.ref (zA Z (a0 + 3)), .int x1, .int x2, .int x5, .int x6]) (rest := []) B hH (cy_X8_spliceOn B.2.2.2.2.1) (ct_X8_spliceOn B.2.2.2.2.2.2.2 l (a0 + 3) x1 x2 x5 x6 h23 _ _ (kf_8_4 (k0)) hw) ⟨⟨rfl, rfl⟩, Nat.le_of_ble_eq_true rfl, Nat.le_of_ble_eq_true rfl, Nat.zero_le _, Nat.zero_le _⟩ (tw_1101 B.2.2.2.2.1) rfl hl.1 rfl (Nat.le_of_ble_eq_true rfl) dX8_command_191 ?_
            clear hw hH
            intro r27 h26 H locs hw hH
            refine lv_if_ne (tgt := 201) B.1 B.2.1 dX8_command_194 (by decide) (fun c28 => ?_) (fun c28 => ?_)
            · replace hw := hw.1 c28
              refine lv_iconst (v := 0) B.1 B.2.1 dX8_command_201 (by decide) ?_
              exact e_z B hr (by decide) hH hw dX8_command_202
            · replace hw := hw.2 c28
              refine lv_iconst (v := 1) B.1 B.2.1 dX8_command_197 (by decide) ?_
              refine lv_goto (tgt := 202) B.1 B.2.1 dX8_command_198 (by decide) ?_
              exact e_z B hr (by decide) hH hw dX8_command_202
    · by_cases c29 : (a1 = 3)
      · replace hw := hw.2.2.1 c29
        refine lv_tableIn (off := 143) (tgt := 203) B.1 B.2.1 dX8_command_60 (by rw [c29]; decide) (by rw [c29]; decide) (by rw [c29]; rfl) (by decide) ?_
        refine lv_iload B.1 B.2.1 dX8_command_203 (lv_at hl 4 rfl) ?_
        refine lv_if_ne (tgt := 248) B.1 B.2.1 dX8_command_205 (by decide) (fun c30 => ?_) (fun c30 => ?_)
        · replace hw := hw.1 c30
          refine lv_iconst (v := 0) B.1 B.2.1 dX8_command_248 (by decide) ?_
          exact e_z B hr (by decide) hH hw dX8_command_249
        · replace hw := hw.2 c30
          refine lv_aload_n B.1 B.2.1 dX8_command_208 rfl (lv_at hl 8 rfl) ?_
          refine r_get B hH (own := RX8) (kd_n B (k0) (by decide) (by decide)) (ct_8 (k0)) rfl (ul_8 B.2.2.2.2.1) 4 (by decide) rfl (tw_970 B.2.2.2.2.1) dX8_command_209 ?_
          refine lv_iload_n B.1 B.2.1 dX8_command_212 rfl (lv_at hl 7 rfl) ?_
          refine c_S_I (own := RX8) (As := [.ref (zA Z (a0 + 3)), .int x1]) (rest := []) B hH (cy_X8_isLoop B.2.2.2.2.1) (ct_X8_isLoop B.2.2.2.2.2.2.2 l (a0 + 3) x1 h _ _ (kf_8_4 (k0)) hw) ⟨⟨rfl, rfl⟩, Nat.le_of_ble_eq_true rfl, Nat.le_of_ble_eq_true rfl, Nat.zero_le _, Nat.zero_le _⟩ (tw_1083 B.2.2.2.2.1) rfl hl.1 rfl (Nat.le_of_ble_eq_true rfl) dX8_command_213 ?_
          clear hw hH
          intro r32 h31 H locs hw hH
          refine lv_if_eq (tgt := 248) B.1 B.2.1 dX8_command_216 (by decide) (fun c33 => ?_) (fun c33 => ?_)
          · replace hw := hw.1 c33
            refine lv_iconst (v := 0) B.1 B.2.1 dX8_command_248 (by decide) ?_
            exact e_z B hr (by decide) hH hw dX8_command_249
          · replace hw := hw.2 c33
            refine lv_iload B.1 B.2.1 dX8_command_219 (lv_at hl 6 rfl) ?_
            refine lv_if_le (tgt := 248) B.1 B.2.1 dX8_command_221 (by decide) (fun c34 => ?_) (fun c34 => ?_)
            · replace hw := hw.1 c34
              refine lv_iconst (v := 0) B.1 B.2.1 dX8_command_248 (by decide) ?_
              exact e_z B hr (by decide) hH hw dX8_command_249
            · replace hw := hw.2 c34
              refine lv_iload B.1 B.2.1 dX8_command_224 (lv_at hl 5 rfl) ?_
              refine lv_if_le (tgt := 248) B.1 B.2.1 dX8_command_226 (by decide) (fun c35 => ?_) (fun c35 => ?_)
              · replace hw := hw.1 c35
                refine lv_iconst (v := 0) B.1 B.2.1 dX8_command_248 (by decide) ?_
                exact e_z B hr (by decide) hH hw dX8_command_249
              · replace hw := hw.2 c35
                refine lv_aload_n B.1 B.2.1 dX8_command_229 rfl (lv_at hl 8 rfl) ?_
                refine r_get B hH (own := RX8) (kd_n B (k0) (by decide) (by decide)) (ct_8 (k0)) rfl (ul_8 B.2.2.2.2.1) 4 (by decide) rfl (tw_970 B.2.2.2.2.1) dX8_command_230 ?_
                refine lv_iload_n B.1 B.2.1 dX8_command_233 rfl (lv_at hl 7 rfl) ?_
                refine lv_iload B.1 B.2.1 dX8_command_234 (lv_at hl 6 rfl) ?_
                refine lv_iload B.1 B.2.1 dX8_command_236 (lv_at hl 5 rfl) ?_
                refine c_S_I (own := RX8) (As := [.ref (zA Z (a0 + 3)), .int x1, .int x2, .int x3]) (rest := []) B hH (cy_X8_speedOn B.2.2.2.2.1) (ct_X8_speedOn B.2.2.2.2.2.2.2 l (a0 + 3) x1 x2 x3 h31 _ _ (kf_8_4 (k0)) hw) ⟨⟨rfl, rfl⟩, Nat.le_of_ble_eq_true rfl, Nat.le_of_ble_eq_true rfl, Nat.zero_le _, Nat.zero_le _⟩ (tw_1108 B.2.2.2.2.1) rfl hl.1 rfl (Nat.le_of_ble_eq_true rfl) dX8_command_238 ?_
                clear hw hH
                intro r37 h36 H locs hw hH
                refine lv_if_lt (tgt := 248) B.1 B.2.1 dX8_command_241 (by decide) (fun c38 => ?_) (fun c38 => ?_)
                · replace hw := hw.1 c38
                  refine lv_iconst (v := 0) B.1 B.2.1 dX8_command_248 (by decide) ?_
                  exact e_z B hr (by decide) hH hw dX8_command_249
                · replace hw := hw.2 c38
                  refine lv_iconst (v := 1) B.1 B.2.1 dX8_command_244 (by decide) ?_
                  refine lv_goto (tgt := 249) B.1 B.2.1 dX8_command_245 (by decide) ?_
                  exact e_z B hr (by decide) hH hw dX8_command_249
      · by_cases c39 : (a1 = 4)
        · replace hw := hw.2.2.2.1 c39
          refine lv_tableIn (off := 190) (tgt := 250) B.1 B.2.1 dX8_command_60 (by rw [c39]; decide) (by rw [c39]; decide) (by rw [c39]; rfl) (by decide) ?_
          refine lv_iload B.1 B.2.1 dX8_command_250 (lv_at hl 0 rfl) ?_
          refine lv_iconst (v := 2) B.1 B.2.1 dX8_command_252 (by decide) ?_
          refine lv_icmp_ge (tgt := 293) B.1 B.2.1 dX8_command_253 (by decide) (fun c40 => ?_) (fun c40 => ?_)
          · replace hw := hw.1 c40
            refine lv_iconst (v := 0) B.1 B.2.1 dX8_command_293 (by decide) ?_
            exact e_z B hr (by decide) hH hw dX8_command_294
          · replace hw := hw.2 c40
            refine lv_aload_n B.1 B.2.1 dX8_command_256 rfl (lv_at hl 8 rfl) ?_
            refine r_get B hH (own := RX8) (kd_n B (k0) (by decide) (by decide)) (ct_8 (k0)) rfl (ul_8 B.2.2.2.2.1) 4 (by decide) rfl (tw_970 B.2.2.2.2.1) dX8_command_257 ?_
            refine lv_iload_n B.1 B.2.1 dX8_command_260 rfl (lv_at hl 7 rfl) ?_
            refine c_S_I (own := RX8) (As := [.ref (zA Z (a0 + 3)), .int x1]) (rest := []) B hH (cy_X8_isLoop B.2.2.2.2.1) (ct_X8_isLoop B.2.2.2.2.2.2.2 l (a0 + 3) x1 h _ _ (kf_8_4 (k0)) hw) ⟨⟨rfl, rfl⟩, Nat.le_of_ble_eq_true rfl, Nat.le_of_ble_eq_true rfl, Nat.zero_le _, Nat.zero_le _⟩ (tw_1083 B.2.2.2.2.1) rfl hl.1 rfl (Nat.le_of_ble_eq_true rfl) dX8_command_261 ?_
            clear hw hH
            intro r42 h41 H locs hw hH
            refine lv_if_eq (tgt := 293) B.1 B.2.1 dX8_command_264 (by decide) (fun c43 => ?_) (fun c43 => ?_)
            · replace hw := hw.1 c43
              refine lv_iconst (v := 0) B.1 B.2.1 dX8_command_293 (by decide) ?_
              exact e_z B hr (by decide) hH hw dX8_command_294
            · replace hw := hw.2 c43
              refine lv_aload_n B.1 B.2.1 dX8_command_267 rfl (lv_at hl 8 rfl) ?_
              refine r_get B hH (own := RX8) (kd_n B (k0) (by decide) (by decide)) (ct_8 (k0)) rfl (ul_8 B.2.2.2.2.1) 4 (by decide) rfl (tw_970 B.2.2.2.2.1) dX8_command_268 ?_
              refine lv_iload_n B.1 B.2.1 dX8_command_271 rfl (lv_at hl 7 rfl) ?_
              refine lv_iload B.1 B.2.1 dX8_command_272 (lv_at hl 1 rfl) ?_
              refine lv_iconst (v := 1) B.1 B.2.1 dX8_command_274 (by decide) ?_
              refine lv_icmp_ne (tgt := 282) B.1 B.2.1 dX8_command_275 (by decide) (fun c44 => ?_) (fun c44 => ?_)
              · replace hw := hw.1 c44
                refine lv_iconst (v := 0) B.1 B.2.1 dX8_command_282 (by decide) ?_
                refine c_S_I (own := RX8) (As := [.ref (zA Z (a0 + 3)), .int x1, .int 0]) (rest := []) B hH (cy_X8_muteOn B.2.2.2.2.1) (ct_X8_muteOn B.2.2.2.2.2.2.2 l (a0 + 3) x1 0 h41 _ _ (kf_8_4 (k0)) hw) ⟨⟨rfl, rfl⟩, Nat.le_of_ble_eq_true rfl, Nat.le_of_ble_eq_true rfl, Nat.zero_le _, Nat.zero_le _⟩ (tw_1111 B.2.2.2.2.1) rfl hl.1 rfl (Nat.le_of_ble_eq_true rfl) dX8_command_283 ?_
                clear hw hH
                intro r46 h45 H locs hw hH
                refine lv_if_lt (tgt := 293) B.1 B.2.1 dX8_command_286 (by decide) (fun c47 => ?_) (fun c47 => ?_)
                · replace hw := hw.1 c47
                  refine lv_iconst (v := 0) B.1 B.2.1 dX8_command_293 (by decide) ?_
                  exact e_z B hr (by decide) hH hw dX8_command_294
                · replace hw := hw.2 c47
                  refine lv_iconst (v := 1) B.1 B.2.1 dX8_command_289 (by decide) ?_
                  refine lv_goto (tgt := 294) B.1 B.2.1 dX8_command_290 (by decide) ?_
                  exact e_z B hr (by decide) hH hw dX8_command_294
              · replace hw := hw.2 c44
                refine lv_iconst (v := 1) B.1 B.2.1 dX8_command_278 (by decide) ?_
                refine lv_goto (tgt := 283) B.1 B.2.1 dX8_command_279 (by decide) ?_
                refine c_S_I (own := RX8) (As := [.ref (zA Z (a0 + 3)), .int x1, .int 1]) (rest := []) B hH (cy_X8_muteOn B.2.2.2.2.1) (ct_X8_muteOn B.2.2.2.2.2.2.2 l (a0 + 3) x1 1 h41 _ _ (kf_8_4 (k0)) hw) ⟨⟨rfl, rfl⟩, Nat.le_of_ble_eq_true rfl, Nat.le_of_ble_eq_true rfl, Nat.zero_le _, Nat.zero_le _⟩ (tw_1111 B.2.2.2.2.1) rfl hl.1 rfl (Nat.le_of_ble_eq_true rfl) dX8_command_283 ?_
                clear hw hH
                intro r49 h48 H locs hw hH
                refine lv_if_lt (tgt := 293) B.1 B.2.1 dX8_command_286 (by decide) (fun c50 => ?_) (fun c50 => ?_)
                · replace hw := hw.1 c50
                  refine lv_iconst (v := 0) B.1 B.2.1 dX8_command_293 (by decide) ?_
                  exact e_z B hr (by decide) hH hw dX8_command_294
                · replace hw := hw.2 c50
                  refine lv_iconst (v := 1) B.1 B.2.1 dX8_command_289 (by decide) ?_
                  refine lv_goto (tgt := 294) B.1 B.2.1 dX8_command_290 (by decide) ?_
                  exact e_z B hr (by decide) hH hw dX8_command_294
        · by_cases c51 : (a1 = 5)
          · replace hw := hw.2.2.2.2.1 c51
            refine lv_tableIn (off := 235) (tgt := 295) B.1 B.2.1 dX8_command_60 (by rw [c51]; decide) (by rw [c51]; decide) (by rw [c51]; rfl) (by decide) ?_
            refine lv_iload B.1 B.2.1 dX8_command_295 (lv_at hl 0 rfl) ?_
            refine lv_bipush (v := 100) B.1 B.2.1 dX8_command_297 (by decide) ?_
            refine lv_icmp_ge (tgt := 349) B.1 B.2.1 dX8_command_299 (by decide) (fun c52 => ?_) (fun c52 => ?_)
            · replace hw := hw.1 c52
              refine lv_iconst (v := 0) B.1 B.2.1 dX8_command_349 (by decide) ?_
              exact e_z B hr (by decide) hH hw dX8_command_350
            · replace hw := hw.2 c52
              refine lv_aload_n B.1 B.2.1 dX8_command_302 rfl (lv_at hl 8 rfl) ?_
              refine r_get B hH (own := RX8) (kd_n B (k0) (by decide) (by decide)) (ct_8 (k0)) rfl (ul_8 B.2.2.2.2.1) 4 (by decide) rfl (tw_970 B.2.2.2.2.1) dX8_command_303 ?_
              refine lv_iload_n B.1 B.2.1 dX8_command_306 rfl (lv_at hl 7 rfl) ?_
              refine c_S_I (own := RX8) (As := [.ref (zA Z (a0 + 3)), .int x1]) (rest := []) B hH (cy_X8_isReel B.2.2.2.2.1) (ct_X8_isReel B.2.2.2.2.2.2.2 l (a0 + 3) x1 h _ _ (kf_8_4 (k0)) hw) ⟨⟨rfl, rfl⟩, Nat.le_of_ble_eq_true rfl, Nat.le_of_ble_eq_true rfl, Nat.zero_le _, Nat.zero_le _⟩ (tw_1060 B.2.2.2.2.1) rfl hl.1 rfl (Nat.le_of_ble_eq_true rfl) dX8_command_307 ?_
              clear hw hH
              intro r54 h53 H locs hw hH
              refine lv_if_eq (tgt := 349) B.1 B.2.1 dX8_command_310 (by decide) (fun c55 => ?_) (fun c55 => ?_)
              · replace hw := hw.1 c55
                refine lv_iconst (v := 0) B.1 B.2.1 dX8_command_349 (by decide) ?_
                exact e_z B hr (by decide) hH hw dX8_command_350
              · replace hw := hw.2 c55
                refine lv_iload B.1 B.2.1 dX8_command_313 (lv_at hl 2 rfl) ?_
                refine lv_i2l B.1 B.2.1 dX8_command_315 rfl ?_
                refine lv_lconst (v := 1) B.1 B.2.1 dX8_command_316 (by decide) ?_
                refine lv_aload_n B.1 B.2.1 dX8_command_317 rfl (lv_at hl 8 rfl) ?_
                refine r_get B hH (own := RX8) (kd_n B (k0) (by decide) (by decide)) (ct_8 (k0)) rfl (ul_8 B.2.2.2.2.1) 4 (by decide) rfl (tw_970 B.2.2.2.2.1) dX8_command_318 ?_
                refine lv_iload_n B.1 B.2.1 dX8_command_321 rfl (lv_at hl 7 rfl) ?_
                refine c_S_I (own := RX8) (As := [.ref (zA Z (a0 + 3)), .int x1]) (rest := [.long 1, .long (x6.toInt64)]) B hH (cy_X8_cells B.2.2.2.2.1) (ct_X8_cells B.2.2.2.2.2.2.2 l (a0 + 3) x1 h53 _ _ (kf_8_4 (k0)) hw) ⟨⟨rfl, rfl⟩, Nat.le_of_ble_eq_true rfl, Nat.le_of_ble_eq_true rfl, Nat.zero_le _, Nat.zero_le _⟩ (tw_1063 B.2.2.2.2.1) rfl hl.1 rfl (Nat.le_of_ble_eq_true rfl) dX8_command_322 ?_
                clear hw hH
                intro r57 h56 H locs hw hH
                refine lv_i2l B.1 B.2.1 dX8_command_325 rfl ?_
                refine c_S_I (own := RX8) (As := [.long (x6.toInt64), .long 1, .long (r57.toInt64)]) (rest := []) B hH (cy_X8_in B.2.2.2.2.1) (ct_X8_in B.2.2.2.2.2.2.2 l (x6.toInt64) 1 (r57.toInt64) h56 _ _  hw) ⟨⟨rfl, rfl⟩, Nat.le_of_ble_eq_true rfl, Nat.le_of_ble_eq_true rfl, Nat.zero_le _, Nat.zero_le _⟩ (tw_1010 B.2.2.2.2.1) rfl hl.1 rfl (Nat.le_of_ble_eq_true rfl) dX8_command_326 ?_
                clear hw hH
                intro r59 h58 H locs hw hH
                refine lv_if_eq (tgt := 349) B.1 B.2.1 dX8_command_329 (by decide) (fun c60 => ?_) (fun c60 => ?_)
                · replace hw := hw.1 c60
                  refine lv_iconst (v := 0) B.1 B.2.1 dX8_command_349 (by decide) ?_
                  exact e_z B hr (by decide) hH hw dX8_command_350
                · replace hw := hw.2 c60
                  refine lv_aload_n B.1 B.2.1 dX8_command_332 rfl (lv_at hl 8 rfl) ?_
                  refine r_get B hH (own := RX8) (kd_n B (k0) (by decide) (by decide)) (ct_8 (k0)) rfl (ul_8 B.2.2.2.2.1) 4 (by decide) rfl (tw_970 B.2.2.2.2.1) dX8_command_333 ?_
                  refine lv_iload_n B.1 B.2.1 dX8_command_336 rfl (lv_at hl 7 rfl) ?_
                  refine lv_iload B.1 B.2.1 dX8_command_337 (lv_at hl 2 rfl) ?_
                  refine c_S_I (own := RX8) (As := [.ref (zA Z (a0 + 3)), .int x1, .int x6]) (rest := []) B hH (cy_X8_recordOn B.2.2.2.2.1) (ct_X8_recordOn B.2.2.2.2.2.2.2 l (a0 + 3) x1 x6 h58 _ _ (kf_8_4 (k0)) hw) ⟨⟨rfl, rfl⟩, Nat.le_of_ble_eq_true rfl, Nat.le_of_ble_eq_true rfl, Nat.zero_le _, Nat.zero_le _⟩ (tw_1129 B.2.2.2.2.1) rfl hl.1 rfl (Nat.le_of_ble_eq_true rfl) dX8_command_339 ?_
                  clear hw hH
                  intro r62 h61 H locs hw hH
                  refine lv_if_lt (tgt := 349) B.1 B.2.1 dX8_command_342 (by decide) (fun c63 => ?_) (fun c63 => ?_)
                  · replace hw := hw.1 c63
                    refine lv_iconst (v := 0) B.1 B.2.1 dX8_command_349 (by decide) ?_
                    exact e_z B hr (by decide) hH hw dX8_command_350
                  · replace hw := hw.2 c63
                    refine lv_iconst (v := 1) B.1 B.2.1 dX8_command_345 (by decide) ?_
                    refine lv_goto (tgt := 350) B.1 B.2.1 dX8_command_346 (by decide) ?_
                    exact e_z B hr (by decide) hH hw dX8_command_350
          · by_cases c64 : (a1 = 6)
            · replace hw := hw.2.2.2.2.2.1 c64
              refine lv_tableIn (off := 291) (tgt := 351) B.1 B.2.1 dX8_command_60 (by rw [c64]; decide) (by rw [c64]; decide) (by rw [c64]; rfl) (by decide) ?_
              refine lv_iload_n B.1 B.2.1 dX8_command_351 rfl (lv_at hl 10 rfl) ?_
              refine lv_bipush (v := 100) B.1 B.2.1 dX8_command_352 (by decide) ?_
              refine lv_icmp_ge (tgt := 373) B.1 B.2.1 dX8_command_354 (by decide) (fun c65 => ?_) (fun c65 => ?_)
              · replace hw := hw.1 c65
                refine lv_iconst (v := 0) B.1 B.2.1 dX8_command_373 (by decide) ?_
                exact e_z B hr (by decide) hH hw dX8_command_374
              · replace hw := hw.2 c65
                refine lv_aload_n B.1 B.2.1 dX8_command_357 rfl (lv_at hl 8 rfl) ?_
                refine r_get B hH (own := RX8) (kd_n B (k0) (by decide) (by decide)) (ct_8 (k0)) rfl (ul_8 B.2.2.2.2.1) 4 (by decide) rfl (tw_970 B.2.2.2.2.1) dX8_command_358 ?_
                refine lv_lconst (v := 0) B.1 B.2.1 dX8_command_361 (by decide) ?_
                refine c_S_I (own := RX8) (As := [.ref (zA Z (a0 + 3)), .long 0]) (rest := []) B hH (cy_X8_soundLater B.2.2.2.2.1) (ct_X8_soundLater B.2.2.2.2.2.2.2 l (a0 + 3) 0 h _ _ (kf_8_4 (k0)) hw) ⟨⟨rfl, rfl⟩, Nat.le_of_ble_eq_true rfl, Nat.le_of_ble_eq_true rfl, Nat.zero_le _, Nat.zero_le _⟩ (tw_1114 B.2.2.2.2.1) rfl hl.1 rfl (Nat.le_of_ble_eq_true rfl) dX8_command_362 ?_
                clear hw hH
                intro r67 h66 H locs hw hH
                refine lv_iload_n B.1 B.2.1 dX8_command_365 rfl (lv_at hl 10 rfl) ?_
                refine lv_icmp_lt (tgt := 373) B.1 B.2.1 dX8_command_366 (by decide) (fun c68 => ?_) (fun c68 => ?_)
                · replace hw := hw.1 c68
                  refine lv_iconst (v := 0) B.1 B.2.1 dX8_command_373 (by decide) ?_
                  exact e_z B hr (by decide) hH hw dX8_command_374
                · replace hw := hw.2 c68
                  refine lv_iconst (v := 1) B.1 B.2.1 dX8_command_369 (by decide) ?_
                  refine lv_goto (tgt := 374) B.1 B.2.1 dX8_command_370 (by decide) ?_
                  exact e_z B hr (by decide) hH hw dX8_command_374
            · by_cases c69 : (a1 = 7)
              · replace hw := hw.2.2.2.2.2.2.1 c69
                refine lv_tableIn (off := 315) (tgt := 375) B.1 B.2.1 dX8_command_60 (by rw [c69]; decide) (by rw [c69]; decide) (by rw [c69]; rfl) (by decide) ?_
                refine lv_iload B.1 B.2.1 dX8_command_375 (lv_at hl 0 rfl) ?_
                refine lv_sipush (v := 1000) B.1 B.2.1 dX8_command_377 (by decide) ?_
                refine lv_icmp_ge (tgt := 412) B.1 B.2.1 dX8_command_380 (by decide) (fun c70 => ?_) (fun c70 => ?_)
                · replace hw := hw.1 c70
                  refine lv_iconst (v := 0) B.1 B.2.1 dX8_command_412 (by decide) ?_
                  exact e_z B hr (by decide) hH hw dX8_command_413
                · replace hw := hw.2 c70
                  refine lv_aload_n B.1 B.2.1 dX8_command_383 rfl (lv_at hl 8 rfl) ?_
                  refine r_get B hH (own := RX8) (kd_n B (k0) (by decide) (by decide)) (ct_8 (k0)) rfl (ul_8 B.2.2.2.2.1) 4 (by decide) rfl (tw_970 B.2.2.2.2.1) dX8_command_384 ?_
                  refine lv_iload_n B.1 B.2.1 dX8_command_387 rfl (lv_at hl 7 rfl) ?_
                  refine c_S_I (own := RX8) (As := [.ref (zA Z (a0 + 3)), .int x1]) (rest := []) B hH (cy_X8_isLoop B.2.2.2.2.1) (ct_X8_isLoop B.2.2.2.2.2.2.2 l (a0 + 3) x1 h _ _ (kf_8_4 (k0)) hw) ⟨⟨rfl, rfl⟩, Nat.le_of_ble_eq_true rfl, Nat.le_of_ble_eq_true rfl, Nat.zero_le _, Nat.zero_le _⟩ (tw_1083 B.2.2.2.2.1) rfl hl.1 rfl (Nat.le_of_ble_eq_true rfl) dX8_command_388 ?_
                  clear hw hH
                  intro r72 h71 H locs hw hH
                  refine lv_if_eq (tgt := 412) B.1 B.2.1 dX8_command_391 (by decide) (fun c73 => ?_) (fun c73 => ?_)
                  · replace hw := hw.1 c73
                    refine lv_iconst (v := 0) B.1 B.2.1 dX8_command_412 (by decide) ?_
                    exact e_z B hr (by decide) hH hw dX8_command_413
                  · replace hw := hw.2 c73
                    refine lv_aload_n B.1 B.2.1 dX8_command_394 rfl (lv_at hl 8 rfl) ?_
                    refine r_get B hH (own := RX8) (kd_n B (k0) (by decide) (by decide)) (ct_8 (k0)) rfl (ul_8 B.2.2.2.2.1) 4 (by decide) rfl (tw_970 B.2.2.2.2.1) dX8_command_395 ?_
                    refine lv_iload_n B.1 B.2.1 dX8_command_398 rfl (lv_at hl 7 rfl) ?_
                    refine lv_iconst (v := 3) B.1 B.2.1 dX8_command_399 (by decide) ?_
                    refine c_S_I (own := RX8) (As := [.ref (zA Z (a0 + 3)), .int x1, .int 3]) (rest := []) B hH (cy_X8_of B.2.2.2.2.1) (ct_X8_of B.2.2.2.2.2.2.2 l (a0 + 3) x1 3 h71 _ _ (kf_8_4 (k0)) hw) ⟨⟨rfl, rfl⟩, Nat.le_of_ble_eq_true rfl, Nat.le_of_ble_eq_true rfl, Nat.zero_le _, Nat.zero_le _⟩ (tw_1098 B.2.2.2.2.1) rfl hl.1 rfl (Nat.le_of_ble_eq_true rfl) dX8_command_400 ?_
                    clear hw hH
                    intro r75 h74 H locs hw hH
                    refine lv_iload B.1 B.2.1 dX8_command_403 (lv_at hl 0 rfl) ?_
                    refine lv_icmp_ne (tgt := 412) B.1 B.2.1 dX8_command_405 (by decide) (fun c76 => ?_) (fun c76 => ?_)
                    · replace hw := hw.1 c76
                      refine lv_iconst (v := 0) B.1 B.2.1 dX8_command_412 (by decide) ?_
                      exact e_z B hr (by decide) hH hw dX8_command_413
                    · replace hw := hw.2 c76
                      refine lv_iconst (v := 1) B.1 B.2.1 dX8_command_408 (by decide) ?_
                      refine lv_goto (tgt := 413) B.1 B.2.1 dX8_command_409 (by decide) ?_
                      exact e_z B hr (by decide) hH hw dX8_command_413
              · by_cases c77 : (a1 = 8)
                · replace hw := hw.2.2.2.2.2.2.2.1 c77
                  refine lv_tableIn (off := 354) (tgt := 414) B.1 B.2.1 dX8_command_60 (by rw [c77]; decide) (by rw [c77]; decide) (by rw [c77]; rfl) (by decide) ?_
                  refine lv_iload_n B.1 B.2.1 dX8_command_414 rfl (lv_at hl 10 rfl) ?_
                  refine lv_sipush (v := 10000) B.1 B.2.1 dX8_command_415 (by decide) ?_
                  refine x_irem B dX8_command_418 (by decide) ?_
                  refine lv_if_ne (tgt := 439) B.1 B.2.1 dX8_command_419 (by decide) (fun c78 => ?_) (fun c78 => ?_)
                  · replace hw := hw.1 c78
                    refine lv_iconst (v := 0) B.1 B.2.1 dX8_command_439 (by decide) ?_
                    exact e_z B hr (by decide) hH hw dX8_command_440
                  · replace hw := hw.2 c78
                    refine lv_aload_n B.1 B.2.1 dX8_command_422 rfl (lv_at hl 8 rfl) ?_
                    refine r_get B hH (own := RX8) (kd_n B (k0) (by decide) (by decide)) (ct_8 (k0)) rfl (ul_8 B.2.2.2.2.1) 4 (by decide) rfl (tw_970 B.2.2.2.2.1) dX8_command_423 ?_
                    refine lv_iload_n B.1 B.2.1 dX8_command_426 rfl (lv_at hl 7 rfl) ?_
                    refine lv_iload B.1 B.2.1 dX8_command_427 (lv_at hl 6 rfl) ?_
                    refine c_S_I (own := RX8) (As := [.ref (zA Z (a0 + 3)), .int x1, .int x2]) (rest := []) B hH (cy_X8_meetNow B.2.2.2.2.1) (ct_X8_meetNow B.2.2.2.2.2.2.2 l (a0 + 3) x1 x2 h _ _ (kf_8_4 (k0)) hw) ⟨⟨rfl, rfl⟩, Nat.le_of_ble_eq_true rfl, Nat.le_of_ble_eq_true rfl, Nat.zero_le _, Nat.zero_le _⟩ (tw_1284 B.2.2.2.2.1) rfl hl.1 rfl (Nat.le_of_ble_eq_true rfl) dX8_command_429 ?_
                    clear hw hH
                    intro r80 h79 H locs hw hH
                    refine lv_if_eq (tgt := 439) B.1 B.2.1 dX8_command_432 (by decide) (fun c81 => ?_) (fun c81 => ?_)
                    · replace hw := hw.1 c81
                      refine lv_iconst (v := 0) B.1 B.2.1 dX8_command_439 (by decide) ?_
                      exact e_z B hr (by decide) hH hw dX8_command_440
                    · replace hw := hw.2 c81
                      refine lv_iconst (v := 1) B.1 B.2.1 dX8_command_435 (by decide) ?_
                      refine lv_goto (tgt := 440) B.1 B.2.1 dX8_command_436 (by decide) ?_
                      exact e_z B hr (by decide) hH hw dX8_command_440
                · by_cases c82 : (a1 = 9)
                  · replace hw := hw.2.2.2.2.2.2.2.2.1 c82
                    refine lv_tableIn (off := 381) (tgt := 441) B.1 B.2.1 dX8_command_60 (by rw [c82]; decide) (by rw [c82]; decide) (by rw [c82]; rfl) (by decide) ?_
                    refine lv_iload B.1 B.2.1 dX8_command_441 (lv_at hl 0 rfl) ?_
                    refine lv_sipush (v := 1000) B.1 B.2.1 dX8_command_443 (by decide) ?_
                    refine lv_icmp_ge (tgt := 487) B.1 B.2.1 dX8_command_446 (by decide) (fun c83 => ?_) (fun c83 => ?_)
                    · replace hw := hw.1 c83
                      refine lv_iconst (v := 0) B.1 B.2.1 dX8_command_487 (by decide) ?_
                      exact e_z B hr (by decide) hH hw dX8_command_488
                    · replace hw := hw.2 c83
                      refine lv_aload_n B.1 B.2.1 dX8_command_449 rfl (lv_at hl 8 rfl) ?_
                      refine r_get B hH (own := RX8) (kd_n B (k0) (by decide) (by decide)) (ct_8 (k0)) rfl (ul_8 B.2.2.2.2.1) 4 (by decide) rfl (tw_970 B.2.2.2.2.1) dX8_command_450 ?_
                      refine lv_iload_n B.1 B.2.1 dX8_command_453 rfl (lv_at hl 7 rfl) ?_
                      refine lv_iload B.1 B.2.1 dX8_command_454 (lv_at hl 0 rfl) ?_
                      refine lv_bipush (v := 10) B.1 B.2.1 dX8_command_456 (by decide) ?_
                      refine lv_idiv B.1 B.2.1 dX8_command_458 (by decide) ?_
                      refine c_S_I (own := RX8) (As := [.ref (zA Z (a0 + 3)), .int x1, .int (x8 / 10)]) (rest := []) B hH (cy_X8_isCell B.2.2.2.2.1) (ct_X8_isCell B.2.2.2.2.2.2.2 l (a0 + 3) x1 (x8 / 10) h _ _ (kf_8_4 (k0)) hw) ⟨⟨rfl, rfl⟩, Nat.le_of_ble_eq_true rfl, Nat.le_of_ble_eq_true rfl, Nat.zero_le _, Nat.zero_le _⟩ (tw_1057 B.2.2.2.2.1) rfl hl.1 rfl (Nat.le_of_ble_eq_true rfl) dX8_command_459 ?_
                      clear hw hH
                      intro r85 h84 H locs hw hH
                      refine lv_if_eq (tgt := 487) B.1 B.2.1 dX8_command_462 (by decide) (fun c86 => ?_) (fun c86 => ?_)
                      · replace hw := hw.1 c86
                        refine lv_iconst (v := 0) B.1 B.2.1 dX8_command_487 (by decide) ?_
                        exact e_z B hr (by decide) hH hw dX8_command_488
                      · replace hw := hw.2 c86
                        refine lv_aload_n B.1 B.2.1 dX8_command_465 rfl (lv_at hl 8 rfl) ?_
                        refine r_get B hH (own := RX8) (kd_n B (k0) (by decide) (by decide)) (ct_8 (k0)) rfl (ul_8 B.2.2.2.2.1) 4 (by decide) rfl (tw_970 B.2.2.2.2.1) dX8_command_466 ?_
                        refine lv_iload_n B.1 B.2.1 dX8_command_469 rfl (lv_at hl 7 rfl) ?_
                        refine lv_iload B.1 B.2.1 dX8_command_470 (lv_at hl 0 rfl) ?_
                        refine lv_bipush (v := 10) B.1 B.2.1 dX8_command_472 (by decide) ?_
                        refine lv_idiv B.1 B.2.1 dX8_command_474 (by decide) ?_
                        refine c_S_I (own := RX8) (As := [.ref (zA Z (a0 + 3)), .int x1, .int (x8 / 10)]) (rest := []) B hH (cy_X8_soundAt B.2.2.2.2.1) (ct_X8_soundAt B.2.2.2.2.2.2.2 l (a0 + 3) x1 (x8 / 10) h84 _ _ (kf_8_4 (k0)) hw) ⟨⟨rfl, rfl⟩, Nat.le_of_ble_eq_true rfl, Nat.le_of_ble_eq_true rfl, Nat.zero_le _, Nat.zero_le _⟩ (tw_1095 B.2.2.2.2.1) rfl hl.1 rfl (Nat.le_of_ble_eq_true rfl) dX8_command_475 ?_
                        clear hw hH
                        intro r88 h87 H locs hw hH
                        refine lv_iload B.1 B.2.1 dX8_command_478 (lv_at hl 1 rfl) ?_
                        refine lv_icmp_ne (tgt := 487) B.1 B.2.1 dX8_command_480 (by decide) (fun c89 => ?_) (fun c89 => ?_)
                        · replace hw := hw.1 c89
                          refine lv_iconst (v := 0) B.1 B.2.1 dX8_command_487 (by decide) ?_
                          exact e_z B hr (by decide) hH hw dX8_command_488
                        · replace hw := hw.2 c89
                          refine lv_iconst (v := 1) B.1 B.2.1 dX8_command_483 (by decide) ?_
                          refine lv_goto (tgt := 488) B.1 B.2.1 dX8_command_484 (by decide) ?_
                          exact e_z B hr (by decide) hH hw dX8_command_488
                  · replace hw := hw.2.2.2.2.2.2.2.2.2 c9 c16 c29 c39 c51 c64 c69 c77 c82
                    have t1 := lv_neT (x := a1) (k := 1) (a := 1) c9 (by decide)
                    have t2 := lv_neT (x := a1) (k := 2) (a := 2) c16 (by decide)
                    have t3 := lv_neT (x := a1) (k := 3) (a := 3) c29 (by decide)
                    have t4 := lv_neT (x := a1) (k := 4) (a := 4) c39 (by decide)
                    have t5 := lv_neT (x := a1) (k := 5) (a := 5) c51 (by decide)
                    have t6 := lv_neT (x := a1) (k := 6) (a := 6) c64 (by decide)
                    have t7 := lv_neT (x := a1) (k := 7) (a := 7) c69 (by decide)
                    have t8 := lv_neT (x := a1) (k := 8) (a := 8) c77 (by decide)
                    have t9 := lv_neT (x := a1) (k := 9) (a := 9) c82 (by decide)
                    refine lv_tableOut (tgt := 489) B.1 B.2.1 dX8_command_60 (by omega) (by decide) ?_
                    refine lv_iconst (v := 0) B.1 B.2.1 dX8_command_489 (by decide) ?_
                    exact e_z B hr (by decide) hH hw dX8_command_490
theorem cy_X8_runScript {s : State} {args : Array Value} (hG : GG s) : CYV s args yX8_runScript cX8_runScript 8 (some .int) 2 := CYV.of hG (fun _ _ hG => tw_1276 hG) (tw_8 hG) (tw_1274 hG) (tw_1275 hG) (by decide +kernel)
set_option maxRecDepth 100000 in
set_option maxHeartbeats 4000000 in
theorem ct_X8_runScript {Z : ZT} (hZ : ZO Z) (l : Launch) (a0 : Nat) (a1 : Int32) (a2 : Int64) (h : PH) (sz : Nat) (Q : Int32 → PH → Prop) (k0 : kd a0 = 8) (hw : wp_X8_runScript a0 a1 a2 h Q) : MI Z l yX8_runScript cX8_runScript 8 (some .int) ({ frames := 7, cells := 0, slots := 0, locals := 167 } : Room) h sz [.ref (zA Z a0), .int a1, .long a2] Q := by
  refine open_M hZ (by decide +kernel) (by exact Nat.le_of_ble_eq_true rfl) ?_
  intro p e s m below meth c B hr hsz ls hl hH
  subst hsz
  have hl : lv_has ls 8 [(0, .ref (zA Z a0)), (1, .int a1), (2, .long a2)] := hl
  unfold wp_X8_runScript at hw
  have L86 : ∀ (b0 : Nat) (b1 : Int32) (b2 : Int64), kd b0 = 8 → ∀ (n : Nat) (b4 : Int64) (b6 : Int32) (h : PH), ∀ (H : Heap) (locs : List Loc) (ls : Array Slot), wp_X8_runScript_b86 b0 b1 b2 Q n b4 b6 h → HH Z s h H locs → lv_has ls 8 [(0, .ref (zA Z b0)), (1, .int b1), (2, .long b2), (4, .long b4), (6, .int b6)] → W p l e ({ frames := 7, cells := 0, slots := 0, locals := 167 } : Room) s m ([.ref (zA Z a0), .int a1, .long a2]).toArray below meth c H locs 0 0 (MQ below (va_Qi Q (BZ Z) (fr Z s.heap.size)) ([.ref (zA Z a0), .int a1, .long a2]).toArray s 0 0 (fr Z s.heap.size)) (F0 m 86 ls []) := by
    intro b0 b1 b2 kb0 n
    induction n with
    | zero => intro b4 b6 h H locs ls hw hH hl; exact absurd hw id
    | succ n ih =>
      intro b4 b6 h H locs ls hw hH hl
      unfold wp_X8_runScript_b86 at hw
      refine lv_iload B.1 B.2.1 dX8_runScript_86 (lv_at hl 4 rfl) ?_
      refine lv_iload_n B.1 B.2.1 dX8_runScript_88 rfl (lv_at hl 1 rfl) ?_
      refine lv_icmp_ge (tgt := 137) B.1 B.2.1 dX8_runScript_89 (by decide) (fun c9 => ?_) (fun c9 => ?_)
      · replace hw := hw.1 c9
        refine lv_iconst (v := (-1)) B.1 B.2.1 dX8_runScript_137 (by decide) ?_
        exact e_i B hr hH hw dX8_runScript_138
      · replace hw := hw.2 c9
        refine lv_lload B.1 B.2.1 dX8_runScript_92 (lv_at hl 3 rfl) ?_
        refine lv_ldc2 (own := RX8) B.1 B.2.1 B.2.2.2.1 (tw_1277 B.2.2.2.2.1) dX8_runScript_94 ?_
        refine lv_ldiv B.1 B.2.1 dX8_runScript_97 (by decide) ?_
        refine lv_topl (fun x10 ex10 => ?_)
        replace hw := hw x10 ex10
        refine lv_lstore (lv' := [(4, .long x10), (0, .ref (zA Z b0)), (1, .int b1), (2, .long b2), (6, .int b6)]) B.1 B.2.1 dX8_runScript_98 hl (by decide) (by first | rfl | simp [va_re_cat, Value.category]) ?_
        clear hl
        intro ls hl
        refine lv_lload_n B.1 B.2.1 dX8_runScript_100 rfl (lv_at hl 3 rfl) ?_
        refine lv_lload B.1 B.2.1 dX8_runScript_101 (lv_at hl 0 rfl) ?_
        have q11 := hw.1
        replace hw := hw.2
        refine lv_ldiv B.1 B.2.1 dX8_runScript_103 q11 ?_
        refine lv_ldc2 (own := RX8) B.1 B.2.1 B.2.2.2.1 (tw_1277 B.2.2.2.2.1) dX8_runScript_104 ?_
        refine x_lrem B dX8_runScript_107 (by decide) ?_
        refine lv_l2i B.1 B.2.1 dX8_runScript_108 rfl ?_
        refine lv_topi (fun x12 ex12 => ?_)
        replace hw := hw x12 ex12
        refine lv_istore (lv' := [(7, .int x12), (4, .long x10), (0, .ref (zA Z b0)), (1, .int b1), (2, .long b2), (6, .int b6)]) B.1 B.2.1 dX8_runScript_109 hl (by decide) (by first | rfl | simp [va_re_cat, Value.category]) ?_
        clear hl
        intro ls hl
        refine lv_aload_n B.1 B.2.1 dX8_runScript_111 rfl (lv_at hl 2 rfl) ?_
        refine lv_iload B.1 B.2.1 dX8_runScript_112 (lv_at hl 0 rfl) ?_
        refine lv_ldc (own := RX8) B.1 B.2.1 B.2.2.2.1 (tw_1278 B.2.2.2.2.1) dX8_runScript_114 ?_
        refine lv_idiv B.1 B.2.1 dX8_runScript_116 (by decide) ?_
        refine lv_iload B.1 B.2.1 dX8_runScript_117 (lv_at hl 0 rfl) ?_
        refine lv_ldc (own := RX8) B.1 B.2.1 B.2.2.2.1 (tw_1278 B.2.2.2.2.1) dX8_runScript_119 ?_
        refine x_irem B dX8_runScript_121 (by decide) ?_
        refine c_V_I (own := RX8) (As := [.int (x12 / 1000000), .int (jirem x12 1000000)]) (rest := []) B hH (cy_X8_command B.2.2.2.2.1) (ct_X8_command B.2.2.2.2.2.2.2 l b0 (x12 / 1000000) (jirem x12 1000000) h _ _ (kb0) hw) ⟨⟨rfl, rfl⟩, Nat.le_of_ble_eq_true rfl, Nat.le_of_ble_eq_true rfl, Nat.zero_le _, Nat.zero_le _⟩ (rv_8 B hH (kb0)) (tw_1279 B.2.2.2.2.1) rfl hl.1 rfl (Nat.le_of_ble_eq_true rfl) dX8_runScript_122 ?_
        clear hw hH
        intro r14 h13 H locs hw hH
        refine lv_if_ne (tgt := 131) B.1 B.2.1 dX8_runScript_125 (by decide) (fun c15 => ?_) (fun c15 => ?_)
        · replace hw := hw.1 c15
          obtain ⟨x16, ex16⟩ : ∃ y : Int32, y = b6 + 1 := ⟨_, rfl⟩
          replace hw := hw x16 ex16
          refine lv_iinc (v := x16) (lv' := [(6, .int x16), (7, .int x12), (4, .long x10), (0, .ref (zA Z b0)), (1, .int b1), (2, .long b2)]) B.1 B.2.1 dX8_runScript_131 hl (k := 5) rfl (by rw [ex16]; rfl) (by decide) (by first | rfl | simp [va_re_cat, Value.category]) ?_
          clear hl
          intro ls hl
          refine lv_goto (tgt := 86) B.1 B.2.1 dX8_runScript_134 (by decide) ?_
          exact ih x10 x16 h13  _ _ _ hw hH (lv_sub hl [3, 4, 5, 2, 0] rfl)
        · replace hw := hw.2 c15
          refine lv_iload B.1 B.2.1 dX8_runScript_128 (lv_at hl 5 rfl) ?_
          exact e_i B hr hH hw dX8_runScript_130
  have L6 : ∀ (b0 : Nat) (b1 : Int32) (b2 : Int64), kd b0 = 8 → ∀ (n : Nat) (b4 : Int64) (b6 : Int32) (h : PH), ∀ (H : Heap) (locs : List Loc) (ls : Array Slot), wp_X8_runScript_b6 b0 b1 b2 Q n b4 b6 h → HH Z s h H locs → lv_has ls 8 [(0, .ref (zA Z b0)), (1, .int b1), (2, .long b2), (4, .long b4), (6, .int b6)] → W p l e ({ frames := 7, cells := 0, slots := 0, locals := 167 } : Room) s m ([.ref (zA Z a0), .int a1, .long a2]).toArray below meth c H locs 0 0 (MQ below (va_Qi Q (BZ Z) (fr Z s.heap.size)) ([.ref (zA Z a0), .int a1, .long a2]).toArray s 0 0 (fr Z s.heap.size)) (F0 m 6 ls []) := by
    intro b0 b1 b2 kb0 n
    induction n with
    | zero => intro b4 b6 h H locs ls hw hH hl; exact absurd hw id
    | succ n ih =>
      intro b4 b6 h H locs ls hw hH hl
      unfold wp_X8_runScript_b6 at hw
      refine lv_iload B.1 B.2.1 dX8_runScript_6 (lv_at hl 4 rfl) ?_
      refine lv_iload_n B.1 B.2.1 dX8_runScript_8 rfl (lv_at hl 1 rfl) ?_
      refine lv_icmp_ge (tgt := 32) B.1 B.2.1 dX8_runScript_9 (by decide) (fun c1 => ?_) (fun c1 => ?_)
      · replace hw := hw.1 c1
        refine lv_aload_n B.1 B.2.1 dX8_runScript_32 rfl (lv_at hl 0 rfl) ?_
        refine lv_iload_n B.1 B.2.1 dX8_runScript_33 rfl (lv_at hl 1 rfl) ?_
        refine lv_i2l B.1 B.2.1 dX8_runScript_34 rfl ?_
        refine lv_lconst (v := 1) B.1 B.2.1 dX8_runScript_35 (by decide) ?_
        refine lv_ldc2 (own := RX8) B.1 B.2.1 B.2.2.2.1 (tw_1169 B.2.2.2.2.1) dX8_runScript_36 ?_
        refine c_S_I (own := RX8) (As := [.long (b1.toInt64), .long 1, .long 2]) (rest := [.ref (zA Z b0)]) B hH (cy_X8_in B.2.2.2.2.1) (ct_X8_in B.2.2.2.2.2.2.2 l (b1.toInt64) 1 2 h _ _  hw) ⟨⟨rfl, rfl⟩, Nat.le_of_ble_eq_true rfl, Nat.le_of_ble_eq_true rfl, Nat.zero_le _, Nat.zero_le _⟩ (tw_1010 B.2.2.2.2.1) rfl hl.1 rfl (Nat.le_of_ble_eq_true rfl) dX8_runScript_39 ?_
        clear hw hH
        intro r3 h2 H locs hw hH
        refine lv_if_eq (tgt := 61) B.1 B.2.1 dX8_runScript_42 (by decide) (fun c4 => ?_) (fun c4 => ?_)
        · replace hw := hw.1 c4
          refine lv_iconst (v := 1) B.1 B.2.1 dX8_runScript_61 (by decide) ?_
          refine c_V_I (own := RX8) (As := [.int 1]) (rest := []) B hH (cy_X8_refused B.2.2.2.2.1) (ct_X8_refused B.2.2.2.2.2.2.2 l b0 1 h2 _ _ (kb0) hw) ⟨⟨rfl, rfl⟩, Nat.le_of_ble_eq_true rfl, Nat.le_of_ble_eq_true rfl, Nat.zero_le _, Nat.zero_le _⟩ (rv_8 B hH (kb0)) (tw_1013 B.2.2.2.2.1) rfl hl.1 rfl (Nat.le_of_ble_eq_true rfl) dX8_runScript_62 ?_
          clear hw hH
          intro r6 h5 H locs hw hH
          refine lv_if_eq (tgt := 70) B.1 B.2.1 dX8_runScript_65 (by decide) (fun c7 => ?_) (fun c7 => ?_)
          · replace hw := hw.1 c7
            refine lv_aload_n B.1 B.2.1 dX8_runScript_70 rfl (lv_at hl 0 rfl) ?_
            refine r_get B hH (own := RX8) (kd_n B (kb0) (by decide) (by decide)) (ct_8 (kb0)) rfl (ul_8 B.2.2.2.2.1) 3 (by decide) rfl (tw_969 B.2.2.2.2.1) dX8_runScript_71 ?_
            refine lv_iconst (v := 0) B.1 B.2.1 dX8_runScript_74 (by decide) ?_
            refine lv_aload_n B.1 B.2.1 dX8_runScript_75 rfl (lv_at hl 0 rfl) ?_
            refine r_get B hH (own := RX8) (kd_n B (kb0) (by decide) (by decide)) (ct_8 (kb0)) rfl (ul_8 B.2.2.2.2.1) 4 (by decide) rfl (tw_970 B.2.2.2.2.1) dX8_runScript_76 ?_
            refine lv_iconst (v := 0) B.1 B.2.1 dX8_runScript_79 (by decide) ?_
            refine c_S_V (own := RX8) (As := [.ref (zA Z (b0 + 2)), .int 0, .ref (zA Z (b0 + 3)), .int 0]) (rest := []) B hH (cy_X8_copyState B.2.2.2.2.1) (ct_X8_copyState B.2.2.2.2.2.2.2 l (b0 + 2) 0 (b0 + 3) 0 h5 _ _ (kf_8_3 (kb0)) (kf_8_4 (kb0)) hw) ⟨⟨rfl, rfl⟩, Nat.le_of_ble_eq_true rfl, Nat.le_of_ble_eq_true rfl, Nat.zero_le _, Nat.zero_le _⟩ (tw_1136 B.2.2.2.2.1) rfl hl.1 rfl (Nat.le_of_ble_eq_true rfl) dX8_runScript_80 ?_
            clear hw hH
            intro h8 H locs hw hH
            refine lv_iconst (v := 0) B.1 B.2.1 dX8_runScript_83 (by decide) ?_
            refine lv_istore (lv' := [(6, .int 0), (0, .ref (zA Z b0)), (1, .int b1), (2, .long b2), (4, .long b4)]) B.1 B.2.1 dX8_runScript_84 hl (by decide) (by first | rfl | simp [va_re_cat, Value.category]) ?_
            clear hl
            intro ls hl
            obtain ⟨n17, hw⟩ := hw
            exact L86 b0 b1 b2 (kb0) n17 b4 0 h8  _ _ _ hw hH (lv_sub hl [1, 2, 3, 4, 0] rfl)
          · replace hw := hw.2 c7
            refine lv_iconst (v := 0) B.1 B.2.1 dX8_runScript_68 (by decide) ?_
            exact e_i B hr hH hw dX8_runScript_69
        · replace hw := hw.2 c4
          refine lv_lload_n B.1 B.2.1 dX8_runScript_45 rfl (lv_at hl 2 rfl) ?_
          refine lv_lconst (v := 0) B.1 B.2.1 dX8_runScript_46 (by decide) ?_
          refine lv_lload B.1 B.2.1 dX8_runScript_47 (lv_at hl 3 rfl) ?_
          refine lv_lconst (v := 1) B.1 B.2.1 dX8_runScript_49 (by decide) ?_
          refine lv_lsub B.1 B.2.1 dX8_runScript_50 ?_
          refine c_S_I (own := RX8) (As := [.long b2, .long 0, .long (b4 - 1)]) (rest := [.ref (zA Z b0)]) B hH (cy_X8_in B.2.2.2.2.1) (ct_X8_in B.2.2.2.2.2.2.2 l b2 0 (b4 - 1) h2 _ _  hw) ⟨⟨rfl, rfl⟩, Nat.le_of_ble_eq_true rfl, Nat.le_of_ble_eq_true rfl, Nat.zero_le _, Nat.zero_le _⟩ (tw_1010 B.2.2.2.2.1) rfl hl.1 rfl (Nat.le_of_ble_eq_true rfl) dX8_runScript_51 ?_
          clear hw hH
          intro r19 h18 H locs hw hH
          refine lv_if_eq (tgt := 61) B.1 B.2.1 dX8_runScript_54 (by decide) (fun c20 => ?_) (fun c20 => ?_)
          · replace hw := hw.1 c20
            refine lv_iconst (v := 1) B.1 B.2.1 dX8_runScript_61 (by decide) ?_
            refine c_V_I (own := RX8) (As := [.int 1]) (rest := []) B hH (cy_X8_refused B.2.2.2.2.1) (ct_X8_refused B.2.2.2.2.2.2.2 l b0 1 h18 _ _ (kb0) hw) ⟨⟨rfl, rfl⟩, Nat.le_of_ble_eq_true rfl, Nat.le_of_ble_eq_true rfl, Nat.zero_le _, Nat.zero_le _⟩ (rv_8 B hH (kb0)) (tw_1013 B.2.2.2.2.1) rfl hl.1 rfl (Nat.le_of_ble_eq_true rfl) dX8_runScript_62 ?_
            clear hw hH
            intro r22 h21 H locs hw hH
            refine lv_if_eq (tgt := 70) B.1 B.2.1 dX8_runScript_65 (by decide) (fun c23 => ?_) (fun c23 => ?_)
            · replace hw := hw.1 c23
              refine lv_aload_n B.1 B.2.1 dX8_runScript_70 rfl (lv_at hl 0 rfl) ?_
              refine r_get B hH (own := RX8) (kd_n B (kb0) (by decide) (by decide)) (ct_8 (kb0)) rfl (ul_8 B.2.2.2.2.1) 3 (by decide) rfl (tw_969 B.2.2.2.2.1) dX8_runScript_71 ?_
              refine lv_iconst (v := 0) B.1 B.2.1 dX8_runScript_74 (by decide) ?_
              refine lv_aload_n B.1 B.2.1 dX8_runScript_75 rfl (lv_at hl 0 rfl) ?_
              refine r_get B hH (own := RX8) (kd_n B (kb0) (by decide) (by decide)) (ct_8 (kb0)) rfl (ul_8 B.2.2.2.2.1) 4 (by decide) rfl (tw_970 B.2.2.2.2.1) dX8_runScript_76 ?_
              refine lv_iconst (v := 0) B.1 B.2.1 dX8_runScript_79 (by decide) ?_
              refine c_S_V (own := RX8) (As := [.ref (zA Z (b0 + 2)), .int 0, .ref (zA Z (b0 + 3)), .int 0]) (rest := []) B hH (cy_X8_copyState B.2.2.2.2.1) (ct_X8_copyState B.2.2.2.2.2.2.2 l (b0 + 2) 0 (b0 + 3) 0 h21 _ _ (kf_8_3 (kb0)) (kf_8_4 (kb0)) hw) ⟨⟨rfl, rfl⟩, Nat.le_of_ble_eq_true rfl, Nat.le_of_ble_eq_true rfl, Nat.zero_le _, Nat.zero_le _⟩ (tw_1136 B.2.2.2.2.1) rfl hl.1 rfl (Nat.le_of_ble_eq_true rfl) dX8_runScript_80 ?_
              clear hw hH
              intro h24 H locs hw hH
              refine lv_iconst (v := 0) B.1 B.2.1 dX8_runScript_83 (by decide) ?_
              refine lv_istore (lv' := [(6, .int 0), (0, .ref (zA Z b0)), (1, .int b1), (2, .long b2), (4, .long b4)]) B.1 B.2.1 dX8_runScript_84 hl (by decide) (by first | rfl | simp [va_re_cat, Value.category]) ?_
              clear hl
              intro ls hl
              obtain ⟨n25, hw⟩ := hw
              exact L86 b0 b1 b2 (kb0) n25 b4 0 h24  _ _ _ hw hH (lv_sub hl [1, 2, 3, 4, 0] rfl)
            · replace hw := hw.2 c23
              refine lv_iconst (v := 0) B.1 B.2.1 dX8_runScript_68 (by decide) ?_
              exact e_i B hr hH hw dX8_runScript_69
          · replace hw := hw.2 c20
            refine lv_iconst (v := 0) B.1 B.2.1 dX8_runScript_57 (by decide) ?_
            refine lv_goto (tgt := 62) B.1 B.2.1 dX8_runScript_58 (by decide) ?_
            refine c_V_I (own := RX8) (As := [.int 0]) (rest := []) B hH (cy_X8_refused B.2.2.2.2.1) (ct_X8_refused B.2.2.2.2.2.2.2 l b0 0 h18 _ _ (kb0) hw) ⟨⟨rfl, rfl⟩, Nat.le_of_ble_eq_true rfl, Nat.le_of_ble_eq_true rfl, Nat.zero_le _, Nat.zero_le _⟩ (rv_8 B hH (kb0)) (tw_1013 B.2.2.2.2.1) rfl hl.1 rfl (Nat.le_of_ble_eq_true rfl) dX8_runScript_62 ?_
            clear hw hH
            intro r27 h26 H locs hw hH
            refine lv_if_eq (tgt := 70) B.1 B.2.1 dX8_runScript_65 (by decide) (fun c28 => ?_) (fun c28 => ?_)
            · replace hw := hw.1 c28
              refine lv_aload_n B.1 B.2.1 dX8_runScript_70 rfl (lv_at hl 0 rfl) ?_
              refine r_get B hH (own := RX8) (kd_n B (kb0) (by decide) (by decide)) (ct_8 (kb0)) rfl (ul_8 B.2.2.2.2.1) 3 (by decide) rfl (tw_969 B.2.2.2.2.1) dX8_runScript_71 ?_
              refine lv_iconst (v := 0) B.1 B.2.1 dX8_runScript_74 (by decide) ?_
              refine lv_aload_n B.1 B.2.1 dX8_runScript_75 rfl (lv_at hl 0 rfl) ?_
              refine r_get B hH (own := RX8) (kd_n B (kb0) (by decide) (by decide)) (ct_8 (kb0)) rfl (ul_8 B.2.2.2.2.1) 4 (by decide) rfl (tw_970 B.2.2.2.2.1) dX8_runScript_76 ?_
              refine lv_iconst (v := 0) B.1 B.2.1 dX8_runScript_79 (by decide) ?_
              refine c_S_V (own := RX8) (As := [.ref (zA Z (b0 + 2)), .int 0, .ref (zA Z (b0 + 3)), .int 0]) (rest := []) B hH (cy_X8_copyState B.2.2.2.2.1) (ct_X8_copyState B.2.2.2.2.2.2.2 l (b0 + 2) 0 (b0 + 3) 0 h26 _ _ (kf_8_3 (kb0)) (kf_8_4 (kb0)) hw) ⟨⟨rfl, rfl⟩, Nat.le_of_ble_eq_true rfl, Nat.le_of_ble_eq_true rfl, Nat.zero_le _, Nat.zero_le _⟩ (tw_1136 B.2.2.2.2.1) rfl hl.1 rfl (Nat.le_of_ble_eq_true rfl) dX8_runScript_80 ?_
              clear hw hH
              intro h29 H locs hw hH
              refine lv_iconst (v := 0) B.1 B.2.1 dX8_runScript_83 (by decide) ?_
              refine lv_istore (lv' := [(6, .int 0), (0, .ref (zA Z b0)), (1, .int b1), (2, .long b2), (4, .long b4)]) B.1 B.2.1 dX8_runScript_84 hl (by decide) (by first | rfl | simp [va_re_cat, Value.category]) ?_
              clear hl
              intro ls hl
              obtain ⟨n30, hw⟩ := hw
              exact L86 b0 b1 b2 (kb0) n30 b4 0 h29  _ _ _ hw hH (lv_sub hl [1, 2, 3, 4, 0] rfl)
            · replace hw := hw.2 c28
              refine lv_iconst (v := 0) B.1 B.2.1 dX8_runScript_68 (by decide) ?_
              exact e_i B hr hH hw dX8_runScript_69
      · replace hw := hw.2 c1
        refine lv_iload B.1 B.2.1 dX8_runScript_12 (lv_at hl 4 rfl) ?_
        refine lv_iconst (v := 2) B.1 B.2.1 dX8_runScript_14 (by decide) ?_
        refine lv_icmp_ge (tgt := 32) B.1 B.2.1 dX8_runScript_15 (by decide) (fun c31 => ?_) (fun c31 => ?_)
        · replace hw := hw.1 c31
          refine lv_aload_n B.1 B.2.1 dX8_runScript_32 rfl (lv_at hl 0 rfl) ?_
          refine lv_iload_n B.1 B.2.1 dX8_runScript_33 rfl (lv_at hl 1 rfl) ?_
          refine lv_i2l B.1 B.2.1 dX8_runScript_34 rfl ?_
          refine lv_lconst (v := 1) B.1 B.2.1 dX8_runScript_35 (by decide) ?_
          refine lv_ldc2 (own := RX8) B.1 B.2.1 B.2.2.2.1 (tw_1169 B.2.2.2.2.1) dX8_runScript_36 ?_
          refine c_S_I (own := RX8) (As := [.long (b1.toInt64), .long 1, .long 2]) (rest := [.ref (zA Z b0)]) B hH (cy_X8_in B.2.2.2.2.1) (ct_X8_in B.2.2.2.2.2.2.2 l (b1.toInt64) 1 2 h _ _  hw) ⟨⟨rfl, rfl⟩, Nat.le_of_ble_eq_true rfl, Nat.le_of_ble_eq_true rfl, Nat.zero_le _, Nat.zero_le _⟩ (tw_1010 B.2.2.2.2.1) rfl hl.1 rfl (Nat.le_of_ble_eq_true rfl) dX8_runScript_39 ?_
          clear hw hH
          intro r33 h32 H locs hw hH
          refine lv_if_eq (tgt := 61) B.1 B.2.1 dX8_runScript_42 (by decide) (fun c34 => ?_) (fun c34 => ?_)
          · replace hw := hw.1 c34
            refine lv_iconst (v := 1) B.1 B.2.1 dX8_runScript_61 (by decide) ?_
            refine c_V_I (own := RX8) (As := [.int 1]) (rest := []) B hH (cy_X8_refused B.2.2.2.2.1) (ct_X8_refused B.2.2.2.2.2.2.2 l b0 1 h32 _ _ (kb0) hw) ⟨⟨rfl, rfl⟩, Nat.le_of_ble_eq_true rfl, Nat.le_of_ble_eq_true rfl, Nat.zero_le _, Nat.zero_le _⟩ (rv_8 B hH (kb0)) (tw_1013 B.2.2.2.2.1) rfl hl.1 rfl (Nat.le_of_ble_eq_true rfl) dX8_runScript_62 ?_
            clear hw hH
            intro r36 h35 H locs hw hH
            refine lv_if_eq (tgt := 70) B.1 B.2.1 dX8_runScript_65 (by decide) (fun c37 => ?_) (fun c37 => ?_)
            · replace hw := hw.1 c37
              refine lv_aload_n B.1 B.2.1 dX8_runScript_70 rfl (lv_at hl 0 rfl) ?_
              refine r_get B hH (own := RX8) (kd_n B (kb0) (by decide) (by decide)) (ct_8 (kb0)) rfl (ul_8 B.2.2.2.2.1) 3 (by decide) rfl (tw_969 B.2.2.2.2.1) dX8_runScript_71 ?_
              refine lv_iconst (v := 0) B.1 B.2.1 dX8_runScript_74 (by decide) ?_
              refine lv_aload_n B.1 B.2.1 dX8_runScript_75 rfl (lv_at hl 0 rfl) ?_
              refine r_get B hH (own := RX8) (kd_n B (kb0) (by decide) (by decide)) (ct_8 (kb0)) rfl (ul_8 B.2.2.2.2.1) 4 (by decide) rfl (tw_970 B.2.2.2.2.1) dX8_runScript_76 ?_
              refine lv_iconst (v := 0) B.1 B.2.1 dX8_runScript_79 (by decide) ?_
              refine c_S_V (own := RX8) (As := [.ref (zA Z (b0 + 2)), .int 0, .ref (zA Z (b0 + 3)), .int 0]) (rest := []) B hH (cy_X8_copyState B.2.2.2.2.1) (ct_X8_copyState B.2.2.2.2.2.2.2 l (b0 + 2) 0 (b0 + 3) 0 h35 _ _ (kf_8_3 (kb0)) (kf_8_4 (kb0)) hw) ⟨⟨rfl, rfl⟩, Nat.le_of_ble_eq_true rfl, Nat.le_of_ble_eq_true rfl, Nat.zero_le _, Nat.zero_le _⟩ (tw_1136 B.2.2.2.2.1) rfl hl.1 rfl (Nat.le_of_ble_eq_true rfl) dX8_runScript_80 ?_
              clear hw hH
              intro h38 H locs hw hH
              refine lv_iconst (v := 0) B.1 B.2.1 dX8_runScript_83 (by decide) ?_
              refine lv_istore (lv' := [(6, .int 0), (0, .ref (zA Z b0)), (1, .int b1), (2, .long b2), (4, .long b4)]) B.1 B.2.1 dX8_runScript_84 hl (by decide) (by first | rfl | simp [va_re_cat, Value.category]) ?_
              clear hl
              intro ls hl
              obtain ⟨n39, hw⟩ := hw
              exact L86 b0 b1 b2 (kb0) n39 b4 0 h38  _ _ _ hw hH (lv_sub hl [1, 2, 3, 4, 0] rfl)
            · replace hw := hw.2 c37
              refine lv_iconst (v := 0) B.1 B.2.1 dX8_runScript_68 (by decide) ?_
              exact e_i B hr hH hw dX8_runScript_69
          · replace hw := hw.2 c34
            refine lv_lload_n B.1 B.2.1 dX8_runScript_45 rfl (lv_at hl 2 rfl) ?_
            refine lv_lconst (v := 0) B.1 B.2.1 dX8_runScript_46 (by decide) ?_
            refine lv_lload B.1 B.2.1 dX8_runScript_47 (lv_at hl 3 rfl) ?_
            refine lv_lconst (v := 1) B.1 B.2.1 dX8_runScript_49 (by decide) ?_
            refine lv_lsub B.1 B.2.1 dX8_runScript_50 ?_
            refine c_S_I (own := RX8) (As := [.long b2, .long 0, .long (b4 - 1)]) (rest := [.ref (zA Z b0)]) B hH (cy_X8_in B.2.2.2.2.1) (ct_X8_in B.2.2.2.2.2.2.2 l b2 0 (b4 - 1) h32 _ _  hw) ⟨⟨rfl, rfl⟩, Nat.le_of_ble_eq_true rfl, Nat.le_of_ble_eq_true rfl, Nat.zero_le _, Nat.zero_le _⟩ (tw_1010 B.2.2.2.2.1) rfl hl.1 rfl (Nat.le_of_ble_eq_true rfl) dX8_runScript_51 ?_
            clear hw hH
            intro r41 h40 H locs hw hH
            refine lv_if_eq (tgt := 61) B.1 B.2.1 dX8_runScript_54 (by decide) (fun c42 => ?_) (fun c42 => ?_)
            · replace hw := hw.1 c42
              refine lv_iconst (v := 1) B.1 B.2.1 dX8_runScript_61 (by decide) ?_
              refine c_V_I (own := RX8) (As := [.int 1]) (rest := []) B hH (cy_X8_refused B.2.2.2.2.1) (ct_X8_refused B.2.2.2.2.2.2.2 l b0 1 h40 _ _ (kb0) hw) ⟨⟨rfl, rfl⟩, Nat.le_of_ble_eq_true rfl, Nat.le_of_ble_eq_true rfl, Nat.zero_le _, Nat.zero_le _⟩ (rv_8 B hH (kb0)) (tw_1013 B.2.2.2.2.1) rfl hl.1 rfl (Nat.le_of_ble_eq_true rfl) dX8_runScript_62 ?_
              clear hw hH
              intro r44 h43 H locs hw hH
              refine lv_if_eq (tgt := 70) B.1 B.2.1 dX8_runScript_65 (by decide) (fun c45 => ?_) (fun c45 => ?_)
              · replace hw := hw.1 c45
                refine lv_aload_n B.1 B.2.1 dX8_runScript_70 rfl (lv_at hl 0 rfl) ?_
                refine r_get B hH (own := RX8) (kd_n B (kb0) (by decide) (by decide)) (ct_8 (kb0)) rfl (ul_8 B.2.2.2.2.1) 3 (by decide) rfl (tw_969 B.2.2.2.2.1) dX8_runScript_71 ?_
                refine lv_iconst (v := 0) B.1 B.2.1 dX8_runScript_74 (by decide) ?_
                refine lv_aload_n B.1 B.2.1 dX8_runScript_75 rfl (lv_at hl 0 rfl) ?_
                refine r_get B hH (own := RX8) (kd_n B (kb0) (by decide) (by decide)) (ct_8 (kb0)) rfl (ul_8 B.2.2.2.2.1) 4 (by decide) rfl (tw_970 B.2.2.2.2.1) dX8_runScript_76 ?_
                refine lv_iconst (v := 0) B.1 B.2.1 dX8_runScript_79 (by decide) ?_
                refine c_S_V (own := RX8) (As := [.ref (zA Z (b0 + 2)), .int 0, .ref (zA Z (b0 + 3)), .int 0]) (rest := []) B hH (cy_X8_copyState B.2.2.2.2.1) (ct_X8_copyState B.2.2.2.2.2.2.2 l (b0 + 2) 0 (b0 + 3) 0 h43 _ _ (kf_8_3 (kb0)) (kf_8_4 (kb0)) hw) ⟨⟨rfl, rfl⟩, Nat.le_of_ble_eq_true rfl, Nat.le_of_ble_eq_true rfl, Nat.zero_le _, Nat.zero_le _⟩ (tw_1136 B.2.2.2.2.1) rfl hl.1 rfl (Nat.le_of_ble_eq_true rfl) dX8_runScript_80 ?_
                clear hw hH
                intro h46 H locs hw hH
                refine lv_iconst (v := 0) B.1 B.2.1 dX8_runScript_83 (by decide) ?_
                refine lv_istore (lv' := [(6, .int 0), (0, .ref (zA Z b0)), (1, .int b1), (2, .long b2), (4, .long b4)]) B.1 B.2.1 dX8_runScript_84 hl (by decide) (by first | rfl | simp [va_re_cat, Value.category]) ?_
                clear hl
                intro ls hl
                obtain ⟨n47, hw⟩ := hw
                exact L86 b0 b1 b2 (kb0) n47 b4 0 h46  _ _ _ hw hH (lv_sub hl [1, 2, 3, 4, 0] rfl)
              · replace hw := hw.2 c45
                refine lv_iconst (v := 0) B.1 B.2.1 dX8_runScript_68 (by decide) ?_
                exact e_i B hr hH hw dX8_runScript_69
            · replace hw := hw.2 c42
              refine lv_iconst (v := 0) B.1 B.2.1 dX8_runScript_57 (by decide) ?_
              refine lv_goto (tgt := 62) B.1 B.2.1 dX8_runScript_58 (by decide) ?_
              refine c_V_I (own := RX8) (As := [.int 0]) (rest := []) B hH (cy_X8_refused B.2.2.2.2.1) (ct_X8_refused B.2.2.2.2.2.2.2 l b0 0 h40 _ _ (kb0) hw) ⟨⟨rfl, rfl⟩, Nat.le_of_ble_eq_true rfl, Nat.le_of_ble_eq_true rfl, Nat.zero_le _, Nat.zero_le _⟩ (rv_8 B hH (kb0)) (tw_1013 B.2.2.2.2.1) rfl hl.1 rfl (Nat.le_of_ble_eq_true rfl) dX8_runScript_62 ?_
              clear hw hH
              intro r49 h48 H locs hw hH
              refine lv_if_eq (tgt := 70) B.1 B.2.1 dX8_runScript_65 (by decide) (fun c50 => ?_) (fun c50 => ?_)
              · replace hw := hw.1 c50
                refine lv_aload_n B.1 B.2.1 dX8_runScript_70 rfl (lv_at hl 0 rfl) ?_
                refine r_get B hH (own := RX8) (kd_n B (kb0) (by decide) (by decide)) (ct_8 (kb0)) rfl (ul_8 B.2.2.2.2.1) 3 (by decide) rfl (tw_969 B.2.2.2.2.1) dX8_runScript_71 ?_
                refine lv_iconst (v := 0) B.1 B.2.1 dX8_runScript_74 (by decide) ?_
                refine lv_aload_n B.1 B.2.1 dX8_runScript_75 rfl (lv_at hl 0 rfl) ?_
                refine r_get B hH (own := RX8) (kd_n B (kb0) (by decide) (by decide)) (ct_8 (kb0)) rfl (ul_8 B.2.2.2.2.1) 4 (by decide) rfl (tw_970 B.2.2.2.2.1) dX8_runScript_76 ?_
                refine lv_iconst (v := 0) B.1 B.2.1 dX8_runScript_79 (by decide) ?_
                refine c_S_V (own := RX8) (As := [.ref (zA Z (b0 + 2)), .int 0, .ref (zA Z (b0 + 3)), .int 0]) (rest := []) B hH (cy_X8_copyState B.2.2.2.2.1) (ct_X8_copyState B.2.2.2.2.2.2.2 l (b0 + 2) 0 (b0 + 3) 0 h48 _ _ (kf_8_3 (kb0)) (kf_8_4 (kb0)) hw) ⟨⟨rfl, rfl⟩, Nat.le_of_ble_eq_true rfl, Nat.le_of_ble_eq_true rfl, Nat.zero_le _, Nat.zero_le _⟩ (tw_1136 B.2.2.2.2.1) rfl hl.1 rfl (Nat.le_of_ble_eq_true rfl) dX8_runScript_80 ?_
                clear hw hH
                intro h51 H locs hw hH
                refine lv_iconst (v := 0) B.1 B.2.1 dX8_runScript_83 (by decide) ?_
                refine lv_istore (lv' := [(6, .int 0), (0, .ref (zA Z b0)), (1, .int b1), (2, .long b2), (4, .long b4)]) B.1 B.2.1 dX8_runScript_84 hl (by decide) (by first | rfl | simp [va_re_cat, Value.category]) ?_
                clear hl
                intro ls hl
                obtain ⟨n52, hw⟩ := hw
                exact L86 b0 b1 b2 (kb0) n52 b4 0 h51  _ _ _ hw hH (lv_sub hl [1, 2, 3, 4, 0] rfl)
              · replace hw := hw.2 c50
                refine lv_iconst (v := 0) B.1 B.2.1 dX8_runScript_68 (by decide) ?_
                exact e_i B hr hH hw dX8_runScript_69
        · replace hw := hw.2 c31
          refine lv_lload B.1 B.2.1 dX8_runScript_18 (lv_at hl 3 rfl) ?_
          refine lv_ldc2 (own := RX8) B.1 B.2.1 B.2.2.2.1 (tw_1277 B.2.2.2.2.1) dX8_runScript_20 ?_
          refine lv_lmul B.1 B.2.1 dX8_runScript_23 ?_
          refine lv_topl (fun x53 ex53 => ?_)
          replace hw := hw x53 ex53
          refine lv_lstore (lv' := [(4, .long x53), (0, .ref (zA Z b0)), (1, .int b1), (2, .long b2), (6, .int b6)]) B.1 B.2.1 dX8_runScript_24 hl (by decide) (by first | rfl | simp [va_re_cat, Value.category]) ?_
          clear hl
          intro ls hl
          obtain ⟨x54, ex54⟩ : ∃ y : Int32, y = b6 + 1 := ⟨_, rfl⟩
          replace hw := hw x54 ex54
          refine lv_iinc (v := x54) (lv' := [(6, .int x54), (4, .long x53), (0, .ref (zA Z b0)), (1, .int b1), (2, .long b2)]) B.1 B.2.1 dX8_runScript_26 hl (k := 4) rfl (by rw [ex54]; rfl) (by decide) (by first | rfl | simp [va_re_cat, Value.category]) ?_
          clear hl
          intro ls hl
          refine lv_goto (tgt := 6) B.1 B.2.1 dX8_runScript_29 (by decide) ?_
          exact ih x53 x54 h  _ _ _ hw hH (lv_sub hl [2, 3, 4, 1, 0] rfl)
  refine lv_lconst (v := 1) B.1 B.2.1 dX8_runScript_0 (by decide) ?_
  refine lv_lstore (lv' := [(4, .long 1), (0, .ref (zA Z a0)), (1, .int a1), (2, .long a2)]) B.1 B.2.1 dX8_runScript_1 hl (by decide) (by first | rfl | simp [va_re_cat, Value.category]) ?_
  clear hl
  intro ls hl
  refine lv_iconst (v := 0) B.1 B.2.1 dX8_runScript_3 (by decide) ?_
  refine lv_istore (lv' := [(6, .int 0), (4, .long 1), (0, .ref (zA Z a0)), (1, .int a1), (2, .long a2)]) B.1 B.2.1 dX8_runScript_4 hl (by decide) (by first | rfl | simp [va_re_cat, Value.category]) ?_
  clear hl
  intro ls hl
  obtain ⟨n55, hw⟩ := hw
  exact L6 a0 a1 a2 (k0) n55 1 0 h  _ _ _ hw hH (lv_sub hl [2, 3, 4, 1, 0] rfl)
theorem cy_X8_turnReel {s : State} {args : Array Value} (hG : GG s) : CYS s args yX8_turnReel cX8_turnReel 5 none 3 := CYS.of hG (fun _ _ hG => tw_1295 hG) (tw_8 hG) (tw_1294 hG) (by decide +kernel)
set_option maxRecDepth 100000 in
set_option maxHeartbeats 4000000 in
theorem ct_X8_turnReel {Z : ZT} (hZ : ZO Z) (l : Launch) (a0 : Nat) (a1 : Int32) (a2 : Int32) (h : PH) (sz : Nat) (Q : PH → Prop) (k0 : kd a0 = 10) (hw : wp_X8_turnReel a0 a1 a2 h Q) : MV Z l yX8_turnReel cX8_turnReel 5 none ({ frames := 4, cells := 0, slots := 0, locals := 95 } : Room) h sz [.ref (zA Z a0), .int a1, .int a2] Q := by
  refine open_M hZ (by decide +kernel) (by exact Nat.le_of_ble_eq_true rfl) ?_
  intro p e s m below meth c B hr hsz ls hl hH
  subst hsz
  have hl : lv_has ls 5 [(0, .ref (zA Z a0)), (1, .int a1), (2, .int a2)] := hl
  unfold wp_X8_turnReel at hw
  refine lv_iload_n B.1 B.2.1 dX8_turnReel_0 rfl (lv_at hl 1 rfl) ?_
  refine lv_if_ne (tgt := 25) B.1 B.2.1 dX8_turnReel_1 (by decide) (fun c1 => ?_) (fun c1 => ?_)
  · replace hw := hw.1 c1
    refine lv_iload_n B.1 B.2.1 dX8_turnReel_25 rfl (lv_at hl 1 rfl) ?_
    refine lv_iconst (v := 1) B.1 B.2.1 dX8_turnReel_26 (by decide) ?_
    refine lv_icmp_ne (tgt := 45) B.1 B.2.1 dX8_turnReel_27 (by decide) (fun c2 => ?_) (fun c2 => ?_)
    · replace hw := hw.1 c2
      refine lv_iload_n B.1 B.2.1 dX8_turnReel_45 rfl (lv_at hl 1 rfl) ?_
      refine lv_iconst (v := 5) B.1 B.2.1 dX8_turnReel_46 (by decide) ?_
      refine lv_icmp_ge (tgt := 114) B.1 B.2.1 dX8_turnReel_47 (by decide) (fun c3 => ?_) (fun c3 => ?_)
      · replace hw := hw.1 c3
        refine lv_iload_n B.1 B.2.1 dX8_turnReel_114 rfl (lv_at hl 1 rfl) ?_
        refine lv_bipush (v := 9) B.1 B.2.1 dX8_turnReel_115 (by decide) ?_
        refine lv_icmp_ge (tgt := 195) B.1 B.2.1 dX8_turnReel_117 (by decide) (fun c4 => ?_) (fun c4 => ?_)
        · replace hw := hw.1 c4
          exact e_v B hr hH hw dX8_turnReel_195
        · replace hw := hw.2 c4
          refine lv_iload_n B.1 B.2.1 dX8_turnReel_120 rfl (lv_at hl 2 rfl) ?_
          refine lv_bipush (v := 16) B.1 B.2.1 dX8_turnReel_121 (by decide) ?_
          refine lv_idiv B.1 B.2.1 dX8_turnReel_123 (by decide) ?_
          refine lv_bipush (v := 61) B.1 B.2.1 dX8_turnReel_124 (by decide) ?_
          refine x_irem B dX8_turnReel_126 (by decide) ?_
          refine lv_topi (fun x5 ex5 => ?_)
          replace hw := hw x5 ex5
          refine lv_istore_n (lv' := [(3, .int x5), (0, .ref (zA Z a0)), (1, .int a1), (2, .int a2)]) B.1 B.2.1 dX8_turnReel_127 rfl hl (by decide) (by first | rfl | simp [va_re_cat, Value.category]) ?_
          clear hl
          intro ls hl
          refine lv_iload_n B.1 B.2.1 dX8_turnReel_128 rfl (lv_at hl 0 rfl) ?_
          refine lv_iconst (v := 1) B.1 B.2.1 dX8_turnReel_129 (by decide) ?_
          refine lv_iadd B.1 B.2.1 dX8_turnReel_130 ?_
          refine lv_iload_n B.1 B.2.1 dX8_turnReel_131 rfl (lv_at hl 3 rfl) ?_
          refine lv_sipush (v := 1024) B.1 B.2.1 dX8_turnReel_132 (by decide) ?_
          refine lv_idiv B.1 B.2.1 dX8_turnReel_135 (by decide) ?_
          refine lv_bipush (v := 20) B.1 B.2.1 dX8_turnReel_136 (by decide) ?_
          refine x_irem B dX8_turnReel_138 (by decide) ?_
          refine lv_iadd B.1 B.2.1 dX8_turnReel_139 ?_
          refine lv_topi (fun x6 ex6 => ?_)
          replace hw := hw x6 ex6
          refine lv_istore (lv' := [(4, .int x6), (3, .int x5), (0, .ref (zA Z a0)), (1, .int a1), (2, .int a2)]) B.1 B.2.1 dX8_turnReel_140 hl (by decide) (by first | rfl | simp [va_re_cat, Value.category]) ?_
          clear hl
          intro ls hl
          refine lv_aload_n B.1 B.2.1 dX8_turnReel_142 rfl (lv_at hl 2 rfl) ?_
          refine lv_iload_n B.1 B.2.1 dX8_turnReel_143 rfl (lv_at hl 4 rfl) ?_
          refine lv_iconst (v := 4) B.1 B.2.1 dX8_turnReel_144 (by decide) ?_
          refine x_irem B dX8_turnReel_145 (by decide) ?_
          refine c_S_I (own := RX8) (As := [.ref (zA Z a0), .int (jirem a2 4)]) (rest := []) B hH (cy_X8_isLoop B.2.2.2.2.1) (ct_X8_isLoop B.2.2.2.2.2.2.2 l a0 (jirem a2 4) h _ _ (k0) hw) ⟨⟨rfl, rfl⟩, Nat.le_of_ble_eq_true rfl, Nat.le_of_ble_eq_true rfl, Nat.zero_le _, Nat.zero_le _⟩ (tw_1083 B.2.2.2.2.1) rfl hl.1 rfl (Nat.le_of_ble_eq_true rfl) dX8_turnReel_146 ?_
          clear hw hH
          intro r8 h7 H locs hw hH
          refine lv_if_eq (tgt := 195) B.1 B.2.1 dX8_turnReel_149 (by decide) (fun c9 => ?_) (fun c9 => ?_)
          · replace hw := hw.1 c9
            exact e_v B hr hH hw dX8_turnReel_195
          · replace hw := hw.2 c9
            refine lv_aload_n B.1 B.2.1 dX8_turnReel_152 rfl (lv_at hl 2 rfl) ?_
            refine lv_iload_n B.1 B.2.1 dX8_turnReel_153 rfl (lv_at hl 4 rfl) ?_
            refine lv_iconst (v := 4) B.1 B.2.1 dX8_turnReel_154 (by decide) ?_
            refine lv_idiv B.1 B.2.1 dX8_turnReel_155 (by decide) ?_
            refine lv_iconst (v := 3) B.1 B.2.1 dX8_turnReel_156 (by decide) ?_
            refine x_irem B dX8_turnReel_157 (by decide) ?_
            refine lv_iload_n B.1 B.2.1 dX8_turnReel_158 rfl (lv_at hl 1 rfl) ?_
            refine c_S_I (own := RX8) (As := [.ref (zA Z a0), .int (jirem (a2 / 4) 3), .int x5]) (rest := []) B hH (cy_X8_isPlace B.2.2.2.2.1) (ct_X8_isPlace B.2.2.2.2.2.2.2 l a0 (jirem (a2 / 4) 3) x5 h7 _ _ (k0) hw) ⟨⟨rfl, rfl⟩, Nat.le_of_ble_eq_true rfl, Nat.le_of_ble_eq_true rfl, Nat.zero_le _, Nat.zero_le _⟩ (tw_1086 B.2.2.2.2.1) rfl hl.1 rfl (Nat.le_of_ble_eq_true rfl) dX8_turnReel_159 ?_
            clear hw hH
            intro r11 h10 H locs hw hH
            refine lv_if_eq (tgt := 195) B.1 B.2.1 dX8_turnReel_162 (by decide) (fun c12 => ?_) (fun c12 => ?_)
            · replace hw := hw.1 c12
              exact e_v B hr hH hw dX8_turnReel_195
            · replace hw := hw.2 c12
              refine lv_aload_n B.1 B.2.1 dX8_turnReel_165 rfl (lv_at hl 2 rfl) ?_
              refine lv_iload_n B.1 B.2.1 dX8_turnReel_166 rfl (lv_at hl 4 rfl) ?_
              refine lv_iconst (v := 4) B.1 B.2.1 dX8_turnReel_167 (by decide) ?_
              refine lv_idiv B.1 B.2.1 dX8_turnReel_168 (by decide) ?_
              refine lv_iconst (v := 3) B.1 B.2.1 dX8_turnReel_169 (by decide) ?_
              refine x_irem B dX8_turnReel_170 (by decide) ?_
              refine lv_iload B.1 B.2.1 dX8_turnReel_171 (lv_at hl 0 rfl) ?_
              refine c_S_I (own := RX8) (As := [.ref (zA Z a0), .int (jirem (a2 / 4) 3), .int x6]) (rest := []) B hH (cy_X8_isPlace B.2.2.2.2.1) (ct_X8_isPlace B.2.2.2.2.2.2.2 l a0 (jirem (a2 / 4) 3) x6 h10 _ _ (k0) hw) ⟨⟨rfl, rfl⟩, Nat.le_of_ble_eq_true rfl, Nat.le_of_ble_eq_true rfl, Nat.zero_le _, Nat.zero_le _⟩ (tw_1086 B.2.2.2.2.1) rfl hl.1 rfl (Nat.le_of_ble_eq_true rfl) dX8_turnReel_173 ?_
              clear hw hH
              intro r14 h13 H locs hw hH
              refine lv_if_eq (tgt := 195) B.1 B.2.1 dX8_turnReel_176 (by decide) (fun c15 => ?_) (fun c15 => ?_)
              · replace hw := hw.1 c15
                exact e_v B hr hH hw dX8_turnReel_195
              · replace hw := hw.2 c15
                refine lv_aload_n B.1 B.2.1 dX8_turnReel_179 rfl (lv_at hl 2 rfl) ?_
                refine lv_iload_n B.1 B.2.1 dX8_turnReel_180 rfl (lv_at hl 4 rfl) ?_
                refine lv_iconst (v := 4) B.1 B.2.1 dX8_turnReel_181 (by decide) ?_
                refine x_irem B dX8_turnReel_182 (by decide) ?_
                refine lv_iload_n B.1 B.2.1 dX8_turnReel_183 rfl (lv_at hl 4 rfl) ?_
                refine lv_iconst (v := 4) B.1 B.2.1 dX8_turnReel_184 (by decide) ?_
                refine lv_idiv B.1 B.2.1 dX8_turnReel_185 (by decide) ?_
                refine lv_iconst (v := 3) B.1 B.2.1 dX8_turnReel_186 (by decide) ?_
                refine x_irem B dX8_turnReel_187 (by decide) ?_
                refine lv_iload_n B.1 B.2.1 dX8_turnReel_188 rfl (lv_at hl 1 rfl) ?_
                refine lv_iload B.1 B.2.1 dX8_turnReel_189 (lv_at hl 0 rfl) ?_
                refine c_S_I (own := RX8) (As := [.ref (zA Z a0), .int (jirem a2 4), .int (jirem (a2 / 4) 3), .int x5, .int x6]) (rest := []) B hH (cy_X8_spliceOn B.2.2.2.2.1) (ct_X8_spliceOn B.2.2.2.2.2.2.2 l a0 (jirem a2 4) (jirem (a2 / 4) 3) x5 x6 h13 _ _ (k0) hw) ⟨⟨rfl, rfl⟩, Nat.le_of_ble_eq_true rfl, Nat.le_of_ble_eq_true rfl, Nat.zero_le _, Nat.zero_le _⟩ (tw_1101 B.2.2.2.2.1) rfl hl.1 rfl (Nat.le_of_ble_eq_true rfl) dX8_turnReel_191 ?_
                clear hw hH
                intro r17 h16 H locs hw hH
                refine lv_pop B.1 B.2.1 dX8_turnReel_194 rfl ?_
                exact e_v B hr hH hw dX8_turnReel_195
      · replace hw := hw.2 c3
        refine lv_iload_n B.1 B.2.1 dX8_turnReel_50 rfl (lv_at hl 2 rfl) ?_
        refine lv_iconst (v := 4) B.1 B.2.1 dX8_turnReel_51 (by decide) ?_
        refine lv_idiv B.1 B.2.1 dX8_turnReel_52 (by decide) ?_
        refine lv_bipush (v := 60) B.1 B.2.1 dX8_turnReel_53 (by decide) ?_
        refine x_irem B dX8_turnReel_55 (by decide) ?_
        refine lv_topi (fun x18 ex18 => ?_)
        replace hw := hw x18 ex18
        refine lv_istore_n (lv' := [(3, .int x18), (0, .ref (zA Z a0)), (1, .int a1), (2, .int a2)]) B.1 B.2.1 dX8_turnReel_56 rfl hl (by decide) (by first | rfl | simp [va_re_cat, Value.category]) ?_
        clear hl
        intro ls hl
        refine lv_iload_n B.1 B.2.1 dX8_turnReel_57 rfl (lv_at hl 0 rfl) ?_
        refine lv_iload_n B.1 B.2.1 dX8_turnReel_58 rfl (lv_at hl 3 rfl) ?_
        refine lv_sipush (v := 256) B.1 B.2.1 dX8_turnReel_59 (by decide) ?_
        refine lv_idiv B.1 B.2.1 dX8_turnReel_62 (by decide) ?_
        refine lv_bipush (v := 8) B.1 B.2.1 dX8_turnReel_63 (by decide) ?_
        refine x_irem B dX8_turnReel_65 (by decide) ?_
        refine lv_iadd B.1 B.2.1 dX8_turnReel_66 ?_
        refine lv_topi (fun x19 ex19 => ?_)
        replace hw := hw x19 ex19
        refine lv_istore (lv' := [(4, .int x19), (3, .int x18), (0, .ref (zA Z a0)), (1, .int a1), (2, .int a2)]) B.1 B.2.1 dX8_turnReel_67 hl (by decide) (by first | rfl | simp [va_re_cat, Value.category]) ?_
        clear hl
        intro ls hl
        refine lv_aload_n B.1 B.2.1 dX8_turnReel_69 rfl (lv_at hl 2 rfl) ?_
        refine lv_iload_n B.1 B.2.1 dX8_turnReel_70 rfl (lv_at hl 4 rfl) ?_
        refine lv_iconst (v := 3) B.1 B.2.1 dX8_turnReel_71 (by decide) ?_
        refine x_irem B dX8_turnReel_72 (by decide) ?_
        refine lv_iload_n B.1 B.2.1 dX8_turnReel_73 rfl (lv_at hl 1 rfl) ?_
        refine c_S_I (own := RX8) (As := [.ref (zA Z a0), .int (jirem a2 3), .int x18]) (rest := []) B hH (cy_X8_isCell B.2.2.2.2.1) (ct_X8_isCell B.2.2.2.2.2.2.2 l a0 (jirem a2 3) x18 h _ _ (k0) hw) ⟨⟨rfl, rfl⟩, Nat.le_of_ble_eq_true rfl, Nat.le_of_ble_eq_true rfl, Nat.zero_le _, Nat.zero_le _⟩ (tw_1057 B.2.2.2.2.1) rfl hl.1 rfl (Nat.le_of_ble_eq_true rfl) dX8_turnReel_74 ?_
        clear hw hH
        intro r21 h20 H locs hw hH
        refine lv_if_eq (tgt := 111) B.1 B.2.1 dX8_turnReel_77 (by decide) (fun c22 => ?_) (fun c22 => ?_)
        · replace hw := hw.1 c22
          refine lv_goto (tgt := 195) B.1 B.2.1 dX8_turnReel_111 (by decide) ?_
          exact e_v B hr hH hw dX8_turnReel_195
        · replace hw := hw.2 c22
          refine lv_aload_n B.1 B.2.1 dX8_turnReel_80 rfl (lv_at hl 2 rfl) ?_
          refine lv_iload_n B.1 B.2.1 dX8_turnReel_81 rfl (lv_at hl 4 rfl) ?_
          refine lv_iconst (v := 3) B.1 B.2.1 dX8_turnReel_82 (by decide) ?_
          refine x_irem B dX8_turnReel_83 (by decide) ?_
          refine lv_iload B.1 B.2.1 dX8_turnReel_84 (lv_at hl 0 rfl) ?_
          refine c_S_I (own := RX8) (As := [.ref (zA Z a0), .int (jirem a2 3), .int x19]) (rest := []) B hH (cy_X8_isCell B.2.2.2.2.1) (ct_X8_isCell B.2.2.2.2.2.2.2 l a0 (jirem a2 3) x19 h20 _ _ (k0) hw) ⟨⟨rfl, rfl⟩, Nat.le_of_ble_eq_true rfl, Nat.le_of_ble_eq_true rfl, Nat.zero_le _, Nat.zero_le _⟩ (tw_1057 B.2.2.2.2.1) rfl hl.1 rfl (Nat.le_of_ble_eq_true rfl) dX8_turnReel_86 ?_
          clear hw hH
          intro r24 h23 H locs hw hH
          refine lv_if_eq (tgt := 111) B.1 B.2.1 dX8_turnReel_89 (by decide) (fun c25 => ?_) (fun c25 => ?_)
          · replace hw := hw.1 c25
            refine lv_goto (tgt := 195) B.1 B.2.1 dX8_turnReel_111 (by decide) ?_
            exact e_v B hr hH hw dX8_turnReel_195
          · replace hw := hw.2 c25
            refine lv_aload_n B.1 B.2.1 dX8_turnReel_92 rfl (lv_at hl 2 rfl) ?_
            refine lv_iload_n B.1 B.2.1 dX8_turnReel_93 rfl (lv_at hl 4 rfl) ?_
            refine lv_iconst (v := 3) B.1 B.2.1 dX8_turnReel_94 (by decide) ?_
            refine x_irem B dX8_turnReel_95 (by decide) ?_
            refine lv_iload_n B.1 B.2.1 dX8_turnReel_96 rfl (lv_at hl 1 rfl) ?_
            refine lv_iload B.1 B.2.1 dX8_turnReel_97 (lv_at hl 0 rfl) ?_
            refine lv_iload_n B.1 B.2.1 dX8_turnReel_99 rfl (lv_at hl 4 rfl) ?_
            refine lv_sipush (v := 2048) B.1 B.2.1 dX8_turnReel_100 (by decide) ?_
            refine lv_idiv B.1 B.2.1 dX8_turnReel_103 (by decide) ?_
            refine lv_bipush (v := 10) B.1 B.2.1 dX8_turnReel_104 (by decide) ?_
            refine x_irem B dX8_turnReel_106 (by decide) ?_
            refine c_S_I (own := RX8) (As := [.ref (zA Z a0), .int (jirem a2 3), .int x18, .int x19, .int (jirem (a2 / 2048) 10)]) (rest := []) B hH (cy_X8_paintOn B.2.2.2.2.1) (ct_X8_paintOn B.2.2.2.2.2.2.2 l a0 (jirem a2 3) x18 x19 (jirem (a2 / 2048) 10) h23 _ _ (k0) hw) ⟨⟨rfl, rfl⟩, Nat.le_of_ble_eq_true rfl, Nat.le_of_ble_eq_true rfl, Nat.zero_le _, Nat.zero_le _⟩ (tw_1066 B.2.2.2.2.1) rfl hl.1 rfl (Nat.le_of_ble_eq_true rfl) dX8_turnReel_107 ?_
            clear hw hH
            intro r27 h26 H locs hw hH
            refine lv_pop B.1 B.2.1 dX8_turnReel_110 rfl ?_
            refine lv_goto (tgt := 195) B.1 B.2.1 dX8_turnReel_111 (by decide) ?_
            exact e_v B hr hH hw dX8_turnReel_195
    · replace hw := hw.2 c2
      refine lv_aload_n B.1 B.2.1 dX8_turnReel_30 rfl (lv_at hl 0 rfl) ?_
      refine lv_iconst (v := 1) B.1 B.2.1 dX8_turnReel_31 (by decide) ?_
      have q28 := hw.1
      replace hw := hw.2
      refine r_iald B hH (k0) q28 dX8_turnReel_32 ?_
      refine lv_iconst (v := 4) B.1 B.2.1 dX8_turnReel_33 (by decide) ?_
      refine lv_icmp_ge (tgt := 195) B.1 B.2.1 dX8_turnReel_34 (by decide) (fun c29 => ?_) (fun c29 => ?_)
      · replace hw := hw.1 c29
        exact e_v B hr hH hw dX8_turnReel_195
      · replace hw := hw.2 c29
        refine lv_aload_n B.1 B.2.1 dX8_turnReel_37 rfl (lv_at hl 0 rfl) ?_
        refine c_S_I (own := RX8) (As := [.ref (zA Z a0)]) (rest := []) B hH (cy_X8_loopOn B.2.2.2.2.1) (ct_X8_loopOn B.2.2.2.2.2.2.2 l a0 h _ _ (k0) hw) ⟨⟨rfl, rfl⟩, Nat.le_of_ble_eq_true rfl, Nat.le_of_ble_eq_true rfl, Nat.zero_le _, Nat.zero_le _⟩ (tw_1069 B.2.2.2.2.1) rfl hl.1 rfl (Nat.le_of_ble_eq_true rfl) dX8_turnReel_38 ?_
        clear hw hH
        intro r31 h30 H locs hw hH
        refine lv_pop B.1 B.2.1 dX8_turnReel_41 rfl ?_
        refine lv_goto (tgt := 195) B.1 B.2.1 dX8_turnReel_42 (by decide) ?_
        exact e_v B hr hH hw dX8_turnReel_195
  · replace hw := hw.2 c1
    refine lv_aload_n B.1 B.2.1 dX8_turnReel_4 rfl (lv_at hl 0 rfl) ?_
    refine lv_iconst (v := 0) B.1 B.2.1 dX8_turnReel_5 (by decide) ?_
    have q32 := hw.1
    replace hw := hw.2
    refine r_iald B hH (k0) q32 dX8_turnReel_6 ?_
    refine lv_iconst (v := 3) B.1 B.2.1 dX8_turnReel_7 (by decide) ?_
    refine lv_icmp_ge (tgt := 195) B.1 B.2.1 dX8_turnReel_8 (by decide) (fun c33 => ?_) (fun c33 => ?_)
    · replace hw := hw.1 c33
      exact e_v B hr hH hw dX8_turnReel_195
    · replace hw := hw.2 c33
      refine lv_aload_n B.1 B.2.1 dX8_turnReel_11 rfl (lv_at hl 0 rfl) ?_
      refine lv_iconst (v := 2) B.1 B.2.1 dX8_turnReel_12 (by decide) ?_
      refine lv_iload_n B.1 B.2.1 dX8_turnReel_13 rfl (lv_at hl 2 rfl) ?_
      refine lv_bipush (v := 59) B.1 B.2.1 dX8_turnReel_14 (by decide) ?_
      refine x_irem B dX8_turnReel_16 (by decide) ?_
      refine lv_iadd B.1 B.2.1 dX8_turnReel_17 ?_
      refine c_S_I (own := RX8) (As := [.ref (zA Z a0), .int (2 + (jirem a2 59))]) (rest := []) B hH (cy_X8_reelOn B.2.2.2.2.1) (ct_X8_reelOn B.2.2.2.2.2.2.2 l a0 (2 + (jirem a2 59)) h _ _ (k0) hw) ⟨⟨rfl, rfl⟩, Nat.le_of_ble_eq_true rfl, Nat.le_of_ble_eq_true rfl, Nat.zero_le _, Nat.zero_le _⟩ (tw_1038 B.2.2.2.2.1) rfl hl.1 rfl (Nat.le_of_ble_eq_true rfl) dX8_turnReel_18 ?_
      clear hw hH
      intro r35 h34 H locs hw hH
      refine lv_pop B.1 B.2.1 dX8_turnReel_21 rfl ?_
      refine lv_goto (tgt := 195) B.1 B.2.1 dX8_turnReel_22 (by decide) ?_
      exact e_v B hr hH hw dX8_turnReel_195
theorem cy_X8_turnLoop {s : State} {args : Array Value} (hG : GG s) : CYS s args yX8_turnLoop cX8_turnLoop 4 none 3 := CYS.of hG (fun _ _ hG => tw_1298 hG) (tw_8 hG) (tw_1297 hG) (by decide +kernel)
set_option maxRecDepth 100000 in
set_option maxHeartbeats 4000000 in
theorem ct_X8_turnLoop {Z : ZT} (hZ : ZO Z) (l : Launch) (a0 : Nat) (a1 : Int32) (a2 : Int32) (h : PH) (sz : Nat) (Q : PH → Prop) (k0 : kd a0 = 10) (hw : wp_X8_turnLoop a0 a1 a2 h Q) : MV Z l yX8_turnLoop cX8_turnLoop 4 none ({ frames := 6, cells := 0, slots := 0, locals := 137 } : Room) h sz [.ref (zA Z a0), .int a1, .int a2] Q := by
  refine open_M hZ (by decide +kernel) (by exact Nat.le_of_ble_eq_true rfl) ?_
  intro p e s m below meth c B hr hsz ls hl hH
  subst hsz
  have hl : lv_has ls 4 [(0, .ref (zA Z a0)), (1, .int a1), (2, .int a2)] := hl
  unfold wp_X8_turnLoop at hw
  refine lv_iload_n B.1 B.2.1 dX8_turnLoop_0 rfl (lv_at hl 2 rfl) ?_
  refine lv_iconst (v := 4) B.1 B.2.1 dX8_turnLoop_1 (by decide) ?_
  refine x_irem B dX8_turnLoop_2 (by decide) ?_
  refine lv_topi (fun x1 ex1 => ?_)
  replace hw := hw x1 ex1
  refine lv_istore_n (lv' := [(3, .int x1), (0, .ref (zA Z a0)), (1, .int a1), (2, .int a2)]) B.1 B.2.1 dX8_turnLoop_3 rfl hl (by decide) (by first | rfl | simp [va_re_cat, Value.category]) ?_
  clear hl
  intro ls hl
  refine lv_iload_n B.1 B.2.1 dX8_turnLoop_4 rfl (lv_at hl 2 rfl) ?_
  refine lv_bipush (v := 11) B.1 B.2.1 dX8_turnLoop_5 (by decide) ?_
  refine lv_icmp_ne (tgt := 57) B.1 B.2.1 dX8_turnLoop_7 (by decide) (fun c2 => ?_) (fun c2 => ?_)
  · replace hw := hw.1 c2
    refine lv_aload_n B.1 B.2.1 dX8_turnLoop_57 rfl (lv_at hl 1 rfl) ?_
    refine lv_iload_n B.1 B.2.1 dX8_turnLoop_58 rfl (lv_at hl 0 rfl) ?_
    refine c_S_I (own := RX8) (As := [.ref (zA Z a0), .int x1]) (rest := []) B hH (cy_X8_isLoop B.2.2.2.2.1) (ct_X8_isLoop B.2.2.2.2.2.2.2 l a0 x1 h _ _ (k0) hw) ⟨⟨rfl, rfl⟩, Nat.le_of_ble_eq_true rfl, Nat.le_of_ble_eq_true rfl, Nat.zero_le _, Nat.zero_le _⟩ (tw_1083 B.2.2.2.2.1) rfl hl.1 rfl (Nat.le_of_ble_eq_true rfl) dX8_turnLoop_59 ?_
    clear hw hH
    intro r4 h3 H locs hw hH
    refine lv_if_ne (tgt := 66) B.1 B.2.1 dX8_turnLoop_62 (by decide) (fun c5 => ?_) (fun c5 => ?_)
    · replace hw := hw.1 c5
      refine lv_iload_n B.1 B.2.1 dX8_turnLoop_66 rfl (lv_at hl 2 rfl) ?_
      refine lv_bipush (v := 9) B.1 B.2.1 dX8_turnLoop_67 (by decide) ?_
      refine lv_icmp_ne (tgt := 98) B.1 B.2.1 dX8_turnLoop_69 (by decide) (fun c6 => ?_) (fun c6 => ?_)
      · replace hw := hw.1 c6
        refine lv_iload_n B.1 B.2.1 dX8_turnLoop_98 rfl (lv_at hl 3 rfl) ?_
        refine lv_bipush (v := 8) B.1 B.2.1 dX8_turnLoop_99 (by decide) ?_
        refine lv_idiv B.1 B.2.1 dX8_turnLoop_101 (by decide) ?_
        refine lv_iconst (v := 2) B.1 B.2.1 dX8_turnLoop_102 (by decide) ?_
        refine x_irem B dX8_turnLoop_103 (by decide) ?_
        refine lv_if_ne (tgt := 130) B.1 B.2.1 dX8_turnLoop_104 (by decide) (fun c7 => ?_) (fun c7 => ?_)
        · replace hw := hw.1 c7
          refine lv_aload_n B.1 B.2.1 dX8_turnLoop_130 rfl (lv_at hl 1 rfl) ?_
          refine lv_iload_n B.1 B.2.1 dX8_turnLoop_131 rfl (lv_at hl 0 rfl) ?_
          refine lv_iconst (v := 0) B.1 B.2.1 dX8_turnLoop_132 (by decide) ?_
          refine c_S_I (own := RX8) (As := [.ref (zA Z a0), .int x1, .int 0]) (rest := []) B hH (cy_X8_of B.2.2.2.2.1) (ct_X8_of B.2.2.2.2.2.2.2 l a0 x1 0 h3 _ _ (k0) hw) ⟨⟨rfl, rfl⟩, Nat.le_of_ble_eq_true rfl, Nat.le_of_ble_eq_true rfl, Nat.zero_le _, Nat.zero_le _⟩ (tw_1098 B.2.2.2.2.1) rfl hl.1 rfl (Nat.le_of_ble_eq_true rfl) dX8_turnLoop_133 ?_
          clear hw hH
          intro r9 h8 H locs hw hH
          refine lv_if_le (tgt := 145) B.1 B.2.1 dX8_turnLoop_136 (by decide) (fun c10 => ?_) (fun c10 => ?_)
          · replace hw := hw.1 c10
            exact e_v B hr hH hw dX8_turnLoop_145
          · replace hw := hw.2 c10
            refine lv_aload_n B.1 B.2.1 dX8_turnLoop_139 rfl (lv_at hl 1 rfl) ?_
            refine lv_iload_n B.1 B.2.1 dX8_turnLoop_140 rfl (lv_at hl 0 rfl) ?_
            refine c_S_I (own := RX8) (As := [.ref (zA Z a0), .int x1]) (rest := []) B hH (cy_X8_unspliceOn B.2.2.2.2.1) (ct_X8_unspliceOn B.2.2.2.2.2.2.2 l a0 x1 h8 _ _ (k0) hw) ⟨⟨rfl, rfl⟩, Nat.le_of_ble_eq_true rfl, Nat.le_of_ble_eq_true rfl, Nat.zero_le _, Nat.zero_le _⟩ (tw_1217 B.2.2.2.2.1) rfl hl.1 rfl (Nat.le_of_ble_eq_true rfl) dX8_turnLoop_141 ?_
            clear hw hH
            intro r12 h11 H locs hw hH
            refine lv_pop B.1 B.2.1 dX8_turnLoop_144 rfl ?_
            exact e_v B hr hH hw dX8_turnLoop_145
        · replace hw := hw.2 c7
          refine lv_aload_n B.1 B.2.1 dX8_turnLoop_107 rfl (lv_at hl 1 rfl) ?_
          refine lv_iload_n B.1 B.2.1 dX8_turnLoop_108 rfl (lv_at hl 0 rfl) ?_
          refine lv_iload_n B.1 B.2.1 dX8_turnLoop_109 rfl (lv_at hl 3 rfl) ?_
          refine lv_iconst (v := 4) B.1 B.2.1 dX8_turnLoop_110 (by decide) ?_
          refine lv_idiv B.1 B.2.1 dX8_turnLoop_111 (by decide) ?_
          refine lv_iconst (v := 2) B.1 B.2.1 dX8_turnLoop_112 (by decide) ?_
          refine x_irem B dX8_turnLoop_113 (by decide) ?_
          refine lv_iconst (v := 1) B.1 B.2.1 dX8_turnLoop_114 (by decide) ?_
          refine lv_icmp_ne (tgt := 122) B.1 B.2.1 dX8_turnLoop_115 (by decide) (fun c13 => ?_) (fun c13 => ?_)
          · replace hw := hw.1 c13
            refine lv_iconst (v := 0) B.1 B.2.1 dX8_turnLoop_122 (by decide) ?_
            refine c_S_I (own := RX8) (As := [.ref (zA Z a0), .int x1, .int 0]) (rest := []) B hH (cy_X8_muteOn B.2.2.2.2.1) (ct_X8_muteOn B.2.2.2.2.2.2.2 l a0 x1 0 h3 _ _ (k0) hw) ⟨⟨rfl, rfl⟩, Nat.le_of_ble_eq_true rfl, Nat.le_of_ble_eq_true rfl, Nat.zero_le _, Nat.zero_le _⟩ (tw_1111 B.2.2.2.2.1) rfl hl.1 rfl (Nat.le_of_ble_eq_true rfl) dX8_turnLoop_123 ?_
            clear hw hH
            intro r15 h14 H locs hw hH
            refine lv_pop B.1 B.2.1 dX8_turnLoop_126 rfl ?_
            refine lv_goto (tgt := 145) B.1 B.2.1 dX8_turnLoop_127 (by decide) ?_
            exact e_v B hr hH hw dX8_turnLoop_145
          · replace hw := hw.2 c13
            refine lv_iconst (v := 1) B.1 B.2.1 dX8_turnLoop_118 (by decide) ?_
            refine lv_goto (tgt := 123) B.1 B.2.1 dX8_turnLoop_119 (by decide) ?_
            refine c_S_I (own := RX8) (As := [.ref (zA Z a0), .int x1, .int 1]) (rest := []) B hH (cy_X8_muteOn B.2.2.2.2.1) (ct_X8_muteOn B.2.2.2.2.2.2.2 l a0 x1 1 h3 _ _ (k0) hw) ⟨⟨rfl, rfl⟩, Nat.le_of_ble_eq_true rfl, Nat.le_of_ble_eq_true rfl, Nat.zero_le _, Nat.zero_le _⟩ (tw_1111 B.2.2.2.2.1) rfl hl.1 rfl (Nat.le_of_ble_eq_true rfl) dX8_turnLoop_123 ?_
            clear hw hH
            intro r17 h16 H locs hw hH
            refine lv_pop B.1 B.2.1 dX8_turnLoop_126 rfl ?_
            refine lv_goto (tgt := 145) B.1 B.2.1 dX8_turnLoop_127 (by decide) ?_
            exact e_v B hr hH hw dX8_turnLoop_145
      · replace hw := hw.2 c6
        refine lv_aload_n B.1 B.2.1 dX8_turnLoop_72 rfl (lv_at hl 1 rfl) ?_
        refine lv_iload_n B.1 B.2.1 dX8_turnLoop_73 rfl (lv_at hl 0 rfl) ?_
        refine lv_iconst (v := 1) B.1 B.2.1 dX8_turnLoop_74 (by decide) ?_
        refine lv_iload_n B.1 B.2.1 dX8_turnLoop_75 rfl (lv_at hl 3 rfl) ?_
        refine lv_iconst (v := 4) B.1 B.2.1 dX8_turnLoop_76 (by decide) ?_
        refine lv_idiv B.1 B.2.1 dX8_turnLoop_77 (by decide) ?_
        refine lv_bipush (v := 9) B.1 B.2.1 dX8_turnLoop_78 (by decide) ?_
        refine x_irem B dX8_turnLoop_80 (by decide) ?_
        refine lv_iadd B.1 B.2.1 dX8_turnLoop_81 ?_
        refine lv_iconst (v := 1) B.1 B.2.1 dX8_turnLoop_82 (by decide) ?_
        refine lv_iload_n B.1 B.2.1 dX8_turnLoop_83 rfl (lv_at hl 3 rfl) ?_
        refine lv_bipush (v := 64) B.1 B.2.1 dX8_turnLoop_84 (by decide) ?_
        refine lv_idiv B.1 B.2.1 dX8_turnLoop_86 (by decide) ?_
        refine lv_bipush (v := 9) B.1 B.2.1 dX8_turnLoop_87 (by decide) ?_
        refine x_irem B dX8_turnLoop_89 (by decide) ?_
        refine lv_iadd B.1 B.2.1 dX8_turnLoop_90 ?_
        refine c_S_I (own := RX8) (As := [.ref (zA Z a0), .int x1, .int (1 + (jirem (a2 / 4) 9)), .int (1 + (jirem (a2 / 64) 9))]) (rest := []) B hH (cy_X8_speedOn B.2.2.2.2.1) (ct_X8_speedOn B.2.2.2.2.2.2.2 l a0 x1 (1 + (jirem (a2 / 4) 9)) (1 + (jirem (a2 / 64) 9)) h3 _ _ (k0) hw) ⟨⟨rfl, rfl⟩, Nat.le_of_ble_eq_true rfl, Nat.le_of_ble_eq_true rfl, Nat.zero_le _, Nat.zero_le _⟩ (tw_1108 B.2.2.2.2.1) rfl hl.1 rfl (Nat.le_of_ble_eq_true rfl) dX8_turnLoop_91 ?_
        clear hw hH
        intro r19 h18 H locs hw hH
        refine lv_pop B.1 B.2.1 dX8_turnLoop_94 rfl ?_
        refine lv_goto (tgt := 145) B.1 B.2.1 dX8_turnLoop_95 (by decide) ?_
        exact e_v B hr hH hw dX8_turnLoop_145
    · replace hw := hw.2 c5
      exact e_v B hr hH hw dX8_turnLoop_65
  · replace hw := hw.2 c2
    refine lv_aload_n B.1 B.2.1 dX8_turnLoop_10 rfl (lv_at hl 1 rfl) ?_
    refine lv_iload_n B.1 B.2.1 dX8_turnLoop_11 rfl (lv_at hl 3 rfl) ?_
    refine lv_iconst (v := 3) B.1 B.2.1 dX8_turnLoop_12 (by decide) ?_
    refine x_irem B dX8_turnLoop_13 (by decide) ?_
    refine c_S_I (own := RX8) (As := [.ref (zA Z a0), .int (jirem a2 3)]) (rest := []) B hH (cy_X8_isReel B.2.2.2.2.1) (ct_X8_isReel B.2.2.2.2.2.2.2 l a0 (jirem a2 3) h _ _ (k0) hw) ⟨⟨rfl, rfl⟩, Nat.le_of_ble_eq_true rfl, Nat.le_of_ble_eq_true rfl, Nat.zero_le _, Nat.zero_le _⟩ (tw_1060 B.2.2.2.2.1) rfl hl.1 rfl (Nat.le_of_ble_eq_true rfl) dX8_turnLoop_14 ?_
    clear hw hH
    intro r21 h20 H locs hw hH
    refine lv_if_eq (tgt := 145) B.1 B.2.1 dX8_turnLoop_17 (by decide) (fun c22 => ?_) (fun c22 => ?_)
    · replace hw := hw.1 c22
      exact e_v B hr hH hw dX8_turnLoop_145
    · replace hw := hw.2 c22
      refine lv_iconst (v := 1) B.1 B.2.1 dX8_turnLoop_20 (by decide) ?_
      refine lv_iload_n B.1 B.2.1 dX8_turnLoop_21 rfl (lv_at hl 3 rfl) ?_
      refine lv_iconst (v := 4) B.1 B.2.1 dX8_turnLoop_22 (by decide) ?_
      refine lv_idiv B.1 B.2.1 dX8_turnLoop_23 (by decide) ?_
      refine lv_bipush (v := 40) B.1 B.2.1 dX8_turnLoop_24 (by decide) ?_
      refine x_irem B dX8_turnLoop_26 (by decide) ?_
      refine lv_iadd B.1 B.2.1 dX8_turnLoop_27 ?_
      refine lv_aload_n B.1 B.2.1 dX8_turnLoop_28 rfl (lv_at hl 1 rfl) ?_
      refine lv_iload_n B.1 B.2.1 dX8_turnLoop_29 rfl (lv_at hl 3 rfl) ?_
      refine lv_iconst (v := 3) B.1 B.2.1 dX8_turnLoop_30 (by decide) ?_
      refine x_irem B dX8_turnLoop_31 (by decide) ?_
      refine c_S_I (own := RX8) (As := [.ref (zA Z a0), .int (jirem a2 3)]) (rest := [.int (1 + (jirem (a2 / 4) 40))]) B hH (cy_X8_cells B.2.2.2.2.1) (ct_X8_cells B.2.2.2.2.2.2.2 l a0 (jirem a2 3) h20 _ _ (k0) hw) ⟨⟨rfl, rfl⟩, Nat.le_of_ble_eq_true rfl, Nat.le_of_ble_eq_true rfl, Nat.zero_le _, Nat.zero_le _⟩ (tw_1063 B.2.2.2.2.1) rfl hl.1 rfl (Nat.le_of_ble_eq_true rfl) dX8_turnLoop_32 ?_
      clear hw hH
      intro r24 h23 H locs hw hH
      refine lv_icmp_gt (tgt := 145) B.1 B.2.1 dX8_turnLoop_35 (by decide) (fun c25 => ?_) (fun c25 => ?_)
      · replace hw := hw.1 c25
        exact e_v B hr hH hw dX8_turnLoop_145
      · replace hw := hw.2 c25
        refine lv_aload_n B.1 B.2.1 dX8_turnLoop_38 rfl (lv_at hl 1 rfl) ?_
        refine lv_iload_n B.1 B.2.1 dX8_turnLoop_39 rfl (lv_at hl 3 rfl) ?_
        refine lv_iconst (v := 3) B.1 B.2.1 dX8_turnLoop_40 (by decide) ?_
        refine x_irem B dX8_turnLoop_41 (by decide) ?_
        refine lv_iconst (v := 1) B.1 B.2.1 dX8_turnLoop_42 (by decide) ?_
        refine lv_iload_n B.1 B.2.1 dX8_turnLoop_43 rfl (lv_at hl 3 rfl) ?_
        refine lv_iconst (v := 4) B.1 B.2.1 dX8_turnLoop_44 (by decide) ?_
        refine lv_idiv B.1 B.2.1 dX8_turnLoop_45 (by decide) ?_
        refine lv_bipush (v := 40) B.1 B.2.1 dX8_turnLoop_46 (by decide) ?_
        refine x_irem B dX8_turnLoop_48 (by decide) ?_
        refine lv_iadd B.1 B.2.1 dX8_turnLoop_49 ?_
        refine c_S_I (own := RX8) (As := [.ref (zA Z a0), .int (jirem a2 3), .int (1 + (jirem (a2 / 4) 40))]) (rest := []) B hH (cy_X8_recordOn B.2.2.2.2.1) (ct_X8_recordOn B.2.2.2.2.2.2.2 l a0 (jirem a2 3) (1 + (jirem (a2 / 4) 40)) h23 _ _ (k0) hw) ⟨⟨rfl, rfl⟩, Nat.le_of_ble_eq_true rfl, Nat.le_of_ble_eq_true rfl, Nat.zero_le _, Nat.zero_le _⟩ (tw_1129 B.2.2.2.2.1) rfl hl.1 rfl (Nat.le_of_ble_eq_true rfl) dX8_turnLoop_50 ?_
        clear hw hH
        intro r27 h26 H locs hw hH
        refine lv_pop B.1 B.2.1 dX8_turnLoop_53 rfl ?_
        refine lv_goto (tgt := 145) B.1 B.2.1 dX8_turnLoop_54 (by decide) ?_
        exact e_v B hr hH hw dX8_turnLoop_145
theorem cy_X8_simulate {s : State} {args : Array Value} (hG : GG s) : CYV s args yX8_simulate cX8_simulate 10 (some .int) 2 := CYV.of hG (fun _ _ hG => tw_1290 hG) (tw_8 hG) (tw_1288 hG) (tw_1289 hG) (by decide +kernel)
set_option maxRecDepth 100000 in
set_option maxHeartbeats 4000000 in
theorem ct_X8_simulate {Z : ZT} (hZ : ZO Z) (l : Launch) (a0 : Nat) (a1 : Int64) (a3 : Int32) (h : PH) (sz : Nat) (Q : Int32 → PH → Prop) (k0 : kd a0 = 8) (hw : wp_X8_simulate a0 a1 a3 h Q) : MI Z l yX8_simulate cX8_simulate 10 (some .int) ({ frames := 7, cells := 0, slots := 0, locals := 160 } : Room) h sz [.ref (zA Z a0), .long a1, .int a3] Q := by
  refine open_M hZ (by decide +kernel) (by exact Nat.le_of_ble_eq_true rfl) ?_
  intro p e s m below meth c B hr hsz ls hl hH
  subst hsz
  have hl : lv_has ls 10 [(0, .ref (zA Z a0)), (1, .long a1), (3, .int a3)] := hl
  unfold wp_X8_simulate at hw
  have L45 : ∀ (b0 : Nat) (b3 : Int32), kd b0 = 8 → ∀ (n : Nat) (b4 : Int64) (b6 : Int32) (h : PH), ∀ (H : Heap) (locs : List Loc) (ls : Array Slot), wp_X8_simulate_b45 b0 b3 Q n b4 b6 h → HH Z s h H locs → lv_has ls 10 [(0, .ref (zA Z b0)), (3, .int b3), (4, .long b4), (6, .int b6)] → W p l e ({ frames := 7, cells := 0, slots := 0, locals := 160 } : Room) s m ([.ref (zA Z a0), .long a1, .int a3]).toArray below meth c H locs 0 0 (MQ below (va_Qi Q (BZ Z) (fr Z s.heap.size)) ([.ref (zA Z a0), .long a1, .int a3]).toArray s 0 0 (fr Z s.heap.size)) (F0 m 45 ls []) := by
    intro b0 b3 kb0 n
    induction n with
    | zero => intro b4 b6 h H locs ls hw hH hl; exact absurd hw id
    | succ n ih =>
      intro b4 b6 h H locs ls hw hH hl
      unfold wp_X8_simulate_b45 at hw
      refine lv_iload B.1 B.2.1 dX8_simulate_45 (lv_at hl 3 rfl) ?_
      refine lv_iload_n B.1 B.2.1 dX8_simulate_47 rfl (lv_at hl 1 rfl) ?_
      refine lv_icmp_ge (tgt := 148) B.1 B.2.1 dX8_simulate_48 (by decide) (fun c8 => ?_) (fun c8 => ?_)
      · replace hw := hw.1 c8
        refine lv_sipush (v := 1000) B.1 B.2.1 dX8_simulate_148 (by decide) ?_
        refine lv_aload_n B.1 B.2.1 dX8_simulate_151 rfl (lv_at hl 0 rfl) ?_
        refine r_get B hH (own := RX8) (kd_n B (kb0) (by decide) (by decide)) (ct_8 (kb0)) rfl (ul_8 B.2.2.2.2.1) 4 (by decide) rfl (tw_970 B.2.2.2.2.1) dX8_simulate_152 ?_
        refine c_S_I (own := RX8) (As := [.ref (zA Z (b0 + 3))]) (rest := [.int 1000]) B hH (cy_X8_allCells B.2.2.2.2.1) (ct_X8_allCells B.2.2.2.2.2.2.2 l (b0 + 3) h _ _ (kf_8_4 (kb0)) hw) ⟨⟨rfl, rfl⟩, Nat.le_of_ble_eq_true rfl, Nat.le_of_ble_eq_true rfl, Nat.zero_le _, Nat.zero_le _⟩ (tw_1144 B.2.2.2.2.1) rfl hl.1 rfl (Nat.le_of_ble_eq_true rfl) dX8_simulate_155 ?_
        clear hw hH
        intro r10 h9 H locs hw hH
        refine lv_imul B.1 B.2.1 dX8_simulate_158 ?_
        refine lv_aload_n B.1 B.2.1 dX8_simulate_159 rfl (lv_at hl 0 rfl) ?_
        refine r_get B hH (own := RX8) (kd_n B (kb0) (by decide) (by decide)) (ct_8 (kb0)) rfl (ul_8 B.2.2.2.2.1) 4 (by decide) rfl (tw_970 B.2.2.2.2.1) dX8_simulate_160 ?_
        refine lv_lconst (v := 0) B.1 B.2.1 dX8_simulate_163 (by decide) ?_
        refine c_S_I (own := RX8) (As := [.ref (zA Z (b0 + 3)), .long 0]) (rest := [.int (1000 * r10)]) B hH (cy_X8_soundLater B.2.2.2.2.1) (ct_X8_soundLater B.2.2.2.2.2.2.2 l (b0 + 3) 0 h9 _ _ (kf_8_4 (kb0)) hw) ⟨⟨rfl, rfl⟩, Nat.le_of_ble_eq_true rfl, Nat.le_of_ble_eq_true rfl, Nat.zero_le _, Nat.zero_le _⟩ (tw_1114 B.2.2.2.2.1) rfl hl.1 rfl (Nat.le_of_ble_eq_true rfl) dX8_simulate_164 ?_
        clear hw hH
        intro r12 h11 H locs hw hH
        refine lv_iadd B.1 B.2.1 dX8_simulate_167 ?_
        exact e_i B hr hH hw dX8_simulate_168
      · replace hw := hw.2 c8
        refine lv_lload B.1 B.2.1 dX8_simulate_51 (lv_at hl 2 rfl) ?_
        refine lv_ldc2 (own := RX8) B.1 B.2.1 B.2.2.2.1 (tw_1291 B.2.2.2.2.1) dX8_simulate_53 ?_
        refine lv_lmul B.1 B.2.1 dX8_simulate_56 ?_
        refine lv_ldc2 (own := RX8) B.1 B.2.1 B.2.2.2.1 (tw_1292 B.2.2.2.2.1) dX8_simulate_57 ?_
        refine lv_ladd B.1 B.2.1 dX8_simulate_60 ?_
        refine lv_topl (fun x13 ex13 => ?_)
        replace hw := hw x13 ex13
        refine lv_lstore (lv' := [(4, .long x13), (0, .ref (zA Z b0)), (3, .int b3), (6, .int b6)]) B.1 B.2.1 dX8_simulate_61 hl (by decide) (by first | rfl | simp [va_re_cat, Value.category]) ?_
        clear hl
        intro ls hl
        refine lv_lload B.1 B.2.1 dX8_simulate_63 (lv_at hl 0 rfl) ?_
        refine lv_bipush (v := 33) B.1 B.2.1 dX8_simulate_65 (by decide) ?_
        refine lv_lushr (v := jlushr x13 33) B.1 B.2.1 dX8_simulate_67 rfl ?_
        refine lv_l2i B.1 B.2.1 dX8_simulate_68 rfl ?_
        refine lv_topi (fun x14 ex14 => ?_)
        replace hw := hw x14 ex14
        refine lv_istore (lv' := [(7, .int x14), (4, .long x13), (0, .ref (zA Z b0)), (3, .int b3), (6, .int b6)]) B.1 B.2.1 dX8_simulate_69 hl (by decide) (by first | rfl | simp [va_re_cat, Value.category]) ?_
        clear hl
        intro ls hl
        refine lv_iload B.1 B.2.1 dX8_simulate_71 (lv_at hl 0 rfl) ?_
        refine lv_bipush (v := 16) B.1 B.2.1 dX8_simulate_73 (by decide) ?_
        refine lv_idiv B.1 B.2.1 dX8_simulate_75 (by decide) ?_
        refine lv_topi (fun x15 ex15 => ?_)
        replace hw := hw x15 ex15
        refine lv_istore (lv' := [(8, .int x15), (7, .int x14), (4, .long x13), (0, .ref (zA Z b0)), (3, .int b3), (6, .int b6)]) B.1 B.2.1 dX8_simulate_76 hl (by decide) (by first | rfl | simp [va_re_cat, Value.category]) ?_
        clear hl
        intro ls hl
        refine lv_iload B.1 B.2.1 dX8_simulate_78 (lv_at hl 1 rfl) ?_
        refine lv_bipush (v := 16) B.1 B.2.1 dX8_simulate_80 (by decide) ?_
        refine x_irem B dX8_simulate_82 (by decide) ?_
        refine lv_topi (fun x16 ex16 => ?_)
        replace hw := hw x16 ex16
        refine lv_istore (lv' := [(9, .int x16), (8, .int x15), (7, .int x14), (4, .long x13), (0, .ref (zA Z b0)), (3, .int b3), (6, .int b6)]) B.1 B.2.1 dX8_simulate_83 hl (by decide) (by first | rfl | simp [va_re_cat, Value.category]) ?_
        clear hl
        intro ls hl
        refine lv_iload B.1 B.2.1 dX8_simulate_85 (lv_at hl 0 rfl) ?_
        refine lv_bipush (v := 9) B.1 B.2.1 dX8_simulate_87 (by decide) ?_
        refine lv_icmp_ge (tgt := 106) B.1 B.2.1 dX8_simulate_89 (by decide) (fun c17 => ?_) (fun c17 => ?_)
        · replace hw := hw.1 c17
          refine lv_iload B.1 B.2.1 dX8_simulate_106 (lv_at hl 0 rfl) ?_
          refine lv_bipush (v := 12) B.1 B.2.1 dX8_simulate_108 (by decide) ?_
          refine lv_icmp_ge (tgt := 127) B.1 B.2.1 dX8_simulate_110 (by decide) (fun c18 => ?_) (fun c18 => ?_)
          · replace hw := hw.1 c18
            refine lv_aload_n B.1 B.2.1 dX8_simulate_127 rfl (lv_at hl 4 rfl) ?_
            refine r_get B hH (own := RX8) (kd_n B (kb0) (by decide) (by decide)) (ct_8 (kb0)) rfl (ul_8 B.2.2.2.2.1) 4 (by decide) rfl (tw_970 B.2.2.2.2.1) dX8_simulate_128 ?_
            refine lv_iconst (v := 1) B.1 B.2.1 dX8_simulate_131 (by decide) ?_
            refine lv_iload B.1 B.2.1 dX8_simulate_132 (lv_at hl 1 rfl) ?_
            refine lv_bipush (v := 50) B.1 B.2.1 dX8_simulate_134 (by decide) ?_
            refine x_irem B dX8_simulate_136 (by decide) ?_
            refine lv_iadd B.1 B.2.1 dX8_simulate_137 ?_
            refine c_S_I (own := RX8) (As := [.ref (zA Z (b0 + 3)), .int (1 + (jirem x15 50))]) (rest := []) B hH (cy_X8_goOn B.2.2.2.2.1) (ct_X8_goOn B.2.2.2.2.2.2.2 l (b0 + 3) (1 + (jirem x15 50)) h _ _ (kf_8_4 (kb0)) hw) ⟨⟨rfl, rfl⟩, Nat.le_of_ble_eq_true rfl, Nat.le_of_ble_eq_true rfl, Nat.zero_le _, Nat.zero_le _⟩ (tw_1126 B.2.2.2.2.1) rfl hl.1 rfl (Nat.le_of_ble_eq_true rfl) dX8_simulate_138 ?_
            clear hw hH
            intro r20 h19 H locs hw hH
            refine lv_pop B.1 B.2.1 dX8_simulate_141 rfl ?_
            obtain ⟨x21, ex21⟩ : ∃ y : Int32, y = b6 + 1 := ⟨_, rfl⟩
            replace hw := hw x21 ex21
            refine lv_iinc (v := x21) (lv' := [(6, .int x21), (9, .int x16), (8, .int x15), (7, .int x14), (4, .long x13), (0, .ref (zA Z b0)), (3, .int b3)]) B.1 B.2.1 dX8_simulate_142 hl (k := 6) rfl (by rw [ex21]; rfl) (by decide) (by first | rfl | simp [va_re_cat, Value.category]) ?_
            clear hl
            intro ls hl
            refine lv_goto (tgt := 45) B.1 B.2.1 dX8_simulate_145 (by decide) ?_
            exact ih x13 x21 h19  _ _ _ hw hH (lv_sub hl [5, 6, 4, 0] rfl)
          · replace hw := hw.2 c18
            refine lv_aload_n B.1 B.2.1 dX8_simulate_113 rfl (lv_at hl 4 rfl) ?_
            refine r_get B hH (own := RX8) (kd_n B (kb0) (by decide) (by decide)) (ct_8 (kb0)) rfl (ul_8 B.2.2.2.2.1) 4 (by decide) rfl (tw_970 B.2.2.2.2.1) dX8_simulate_114 ?_
            refine lv_iload B.1 B.2.1 dX8_simulate_117 (lv_at hl 0 rfl) ?_
            refine lv_iload B.1 B.2.1 dX8_simulate_119 (lv_at hl 1 rfl) ?_
            refine c_S_V (own := RX8) (As := [.ref (zA Z (b0 + 3)), .int x16, .int x15]) (rest := []) B hH (cy_X8_turnLoop B.2.2.2.2.1) (ct_X8_turnLoop B.2.2.2.2.2.2.2 l (b0 + 3) x16 x15 h _ _ (kf_8_4 (kb0)) hw) ⟨⟨rfl, rfl⟩, Nat.le_of_ble_eq_true rfl, Nat.le_of_ble_eq_true rfl, Nat.zero_le _, Nat.zero_le _⟩ (tw_1296 B.2.2.2.2.1) rfl hl.1 rfl (Nat.le_of_ble_eq_true rfl) dX8_simulate_121 ?_
            clear hw hH
            intro h22 H locs hw hH
            refine lv_goto (tgt := 142) B.1 B.2.1 dX8_simulate_124 (by decide) ?_
            obtain ⟨x23, ex23⟩ : ∃ y : Int32, y = b6 + 1 := ⟨_, rfl⟩
            replace hw := hw x23 ex23
            refine lv_iinc (v := x23) (lv' := [(6, .int x23), (9, .int x16), (8, .int x15), (7, .int x14), (4, .long x13), (0, .ref (zA Z b0)), (3, .int b3)]) B.1 B.2.1 dX8_simulate_142 hl (k := 6) rfl (by rw [ex23]; rfl) (by decide) (by first | rfl | simp [va_re_cat, Value.category]) ?_
            clear hl
            intro ls hl
            refine lv_goto (tgt := 45) B.1 B.2.1 dX8_simulate_145 (by decide) ?_
            exact ih x13 x23 h22  _ _ _ hw hH (lv_sub hl [5, 6, 4, 0] rfl)
        · replace hw := hw.2 c17
          refine lv_aload_n B.1 B.2.1 dX8_simulate_92 rfl (lv_at hl 4 rfl) ?_
          refine r_get B hH (own := RX8) (kd_n B (kb0) (by decide) (by decide)) (ct_8 (kb0)) rfl (ul_8 B.2.2.2.2.1) 4 (by decide) rfl (tw_970 B.2.2.2.2.1) dX8_simulate_93 ?_
          refine lv_iload B.1 B.2.1 dX8_simulate_96 (lv_at hl 0 rfl) ?_
          refine lv_iload B.1 B.2.1 dX8_simulate_98 (lv_at hl 1 rfl) ?_
          refine c_S_V (own := RX8) (As := [.ref (zA Z (b0 + 3)), .int x16, .int x15]) (rest := []) B hH (cy_X8_turnReel B.2.2.2.2.1) (ct_X8_turnReel B.2.2.2.2.2.2.2 l (b0 + 3) x16 x15 h _ _ (kf_8_4 (kb0)) hw) ⟨⟨rfl, rfl⟩, Nat.le_of_ble_eq_true rfl, Nat.le_of_ble_eq_true rfl, Nat.zero_le _, Nat.zero_le _⟩ (tw_1293 B.2.2.2.2.1) rfl hl.1 rfl (Nat.le_of_ble_eq_true rfl) dX8_simulate_100 ?_
          clear hw hH
          intro h24 H locs hw hH
          refine lv_goto (tgt := 142) B.1 B.2.1 dX8_simulate_103 (by decide) ?_
          obtain ⟨x25, ex25⟩ : ∃ y : Int32, y = b6 + 1 := ⟨_, rfl⟩
          replace hw := hw x25 ex25
          refine lv_iinc (v := x25) (lv' := [(6, .int x25), (9, .int x16), (8, .int x15), (7, .int x14), (4, .long x13), (0, .ref (zA Z b0)), (3, .int b3)]) B.1 B.2.1 dX8_simulate_142 hl (k := 6) rfl (by rw [ex25]; rfl) (by decide) (by first | rfl | simp [va_re_cat, Value.category]) ?_
          clear hl
          intro ls hl
          refine lv_goto (tgt := 45) B.1 B.2.1 dX8_simulate_145 (by decide) ?_
          exact ih x13 x25 h24  _ _ _ hw hH (lv_sub hl [5, 6, 4, 0] rfl)
  refine lv_aload_n B.1 B.2.1 dX8_simulate_0 rfl (lv_at hl 0 rfl) ?_
  refine lv_iload_n B.1 B.2.1 dX8_simulate_1 rfl (lv_at hl 2 rfl) ?_
  refine lv_i2l B.1 B.2.1 dX8_simulate_2 rfl ?_
  refine lv_lconst (v := 1) B.1 B.2.1 dX8_simulate_3 (by decide) ?_
  refine lv_ldc2 (own := RX8) B.1 B.2.1 B.2.2.2.1 (tw_1196 B.2.2.2.2.1) dX8_simulate_4 ?_
  refine c_S_I (own := RX8) (As := [.long (a3.toInt64), .long 1, .long 60]) (rest := [.ref (zA Z a0)]) B hH (cy_X8_in B.2.2.2.2.1) (ct_X8_in B.2.2.2.2.2.2.2 l (a3.toInt64) 1 60 h _ _  hw) ⟨⟨rfl, rfl⟩, Nat.le_of_ble_eq_true rfl, Nat.le_of_ble_eq_true rfl, Nat.zero_le _, Nat.zero_le _⟩ (tw_1010 B.2.2.2.2.1) rfl hl.1 rfl (Nat.le_of_ble_eq_true rfl) dX8_simulate_7 ?_
  clear hw hH
  intro r2 h1 H locs hw hH
  refine lv_if_eq (tgt := 17) B.1 B.2.1 dX8_simulate_10 (by decide) (fun c3 => ?_) (fun c3 => ?_)
  · replace hw := hw.1 c3
    refine lv_iconst (v := 1) B.1 B.2.1 dX8_simulate_17 (by decide) ?_
    refine c_V_I (own := RX8) (As := [.int 1]) (rest := []) B hH (cy_X8_refused B.2.2.2.2.1) (ct_X8_refused B.2.2.2.2.2.2.2 l a0 1 h1 _ _ (k0) hw) ⟨⟨rfl, rfl⟩, Nat.le_of_ble_eq_true rfl, Nat.le_of_ble_eq_true rfl, Nat.zero_le _, Nat.zero_le _⟩ (rv_8 B hH (k0)) (tw_1013 B.2.2.2.2.1) rfl hl.1 rfl (Nat.le_of_ble_eq_true rfl) dX8_simulate_18 ?_
    clear hw hH
    intro r5 h4 H locs hw hH
    refine lv_if_eq (tgt := 26) B.1 B.2.1 dX8_simulate_21 (by decide) (fun c6 => ?_) (fun c6 => ?_)
    · replace hw := hw.1 c6
      refine lv_aload_n B.1 B.2.1 dX8_simulate_26 rfl (lv_at hl 0 rfl) ?_
      refine r_get B hH (own := RX8) (kd_n B (k0) (by decide) (by decide)) (ct_8 (k0)) rfl (ul_8 B.2.2.2.2.1) 3 (by decide) rfl (tw_969 B.2.2.2.2.1) dX8_simulate_27 ?_
      refine lv_iconst (v := 0) B.1 B.2.1 dX8_simulate_30 (by decide) ?_
      refine lv_aload_n B.1 B.2.1 dX8_simulate_31 rfl (lv_at hl 0 rfl) ?_
      refine r_get B hH (own := RX8) (kd_n B (k0) (by decide) (by decide)) (ct_8 (k0)) rfl (ul_8 B.2.2.2.2.1) 4 (by decide) rfl (tw_970 B.2.2.2.2.1) dX8_simulate_32 ?_
      refine lv_iconst (v := 0) B.1 B.2.1 dX8_simulate_35 (by decide) ?_
      refine c_S_V (own := RX8) (As := [.ref (zA Z (a0 + 2)), .int 0, .ref (zA Z (a0 + 3)), .int 0]) (rest := []) B hH (cy_X8_copyState B.2.2.2.2.1) (ct_X8_copyState B.2.2.2.2.2.2.2 l (a0 + 2) 0 (a0 + 3) 0 h4 _ _ (kf_8_3 (k0)) (kf_8_4 (k0)) hw) ⟨⟨rfl, rfl⟩, Nat.le_of_ble_eq_true rfl, Nat.le_of_ble_eq_true rfl, Nat.zero_le _, Nat.zero_le _⟩ (tw_1136 B.2.2.2.2.1) rfl hl.1 rfl (Nat.le_of_ble_eq_true rfl) dX8_simulate_36 ?_
      clear hw hH
      intro h7 H locs hw hH
      refine lv_lload_n B.1 B.2.1 dX8_simulate_39 rfl (lv_at hl 1 rfl) ?_
      refine lv_lstore (lv' := [(4, .long a1), (0, .ref (zA Z a0)), (1, .long a1), (3, .int a3)]) B.1 B.2.1 dX8_simulate_40 hl (by decide) (by first | rfl | simp [va_re_cat, Value.category]) ?_
      clear hl
      intro ls hl
      refine lv_iconst (v := 0) B.1 B.2.1 dX8_simulate_42 (by decide) ?_
      refine lv_istore (lv' := [(6, .int 0), (4, .long a1), (0, .ref (zA Z a0)), (1, .long a1), (3, .int a3)]) B.1 B.2.1 dX8_simulate_43 hl (by decide) (by first | rfl | simp [va_re_cat, Value.category]) ?_
      clear hl
      intro ls hl
      obtain ⟨n26, hw⟩ := hw
      exact L45 a0 a3 (k0) n26 a1 0 h7  _ _ _ hw hH (lv_sub hl [2, 4, 1, 0] rfl)
    · replace hw := hw.2 c6
      refine lv_iconst (v := 0) B.1 B.2.1 dX8_simulate_24 (by decide) ?_
      exact e_i B hr hH hw dX8_simulate_25
  · replace hw := hw.2 c3
    refine lv_iconst (v := 0) B.1 B.2.1 dX8_simulate_13 (by decide) ?_
    refine lv_goto (tgt := 18) B.1 B.2.1 dX8_simulate_14 (by decide) ?_
    refine c_V_I (own := RX8) (As := [.int 0]) (rest := []) B hH (cy_X8_refused B.2.2.2.2.1) (ct_X8_refused B.2.2.2.2.2.2.2 l a0 0 h1 _ _ (k0) hw) ⟨⟨rfl, rfl⟩, Nat.le_of_ble_eq_true rfl, Nat.le_of_ble_eq_true rfl, Nat.zero_le _, Nat.zero_le _⟩ (rv_8 B hH (k0)) (tw_1013 B.2.2.2.2.1) rfl hl.1 rfl (Nat.le_of_ble_eq_true rfl) dX8_simulate_18 ?_
    clear hw hH
    intro r28 h27 H locs hw hH
    refine lv_if_eq (tgt := 26) B.1 B.2.1 dX8_simulate_21 (by decide) (fun c29 => ?_) (fun c29 => ?_)
    · replace hw := hw.1 c29
      refine lv_aload_n B.1 B.2.1 dX8_simulate_26 rfl (lv_at hl 0 rfl) ?_
      refine r_get B hH (own := RX8) (kd_n B (k0) (by decide) (by decide)) (ct_8 (k0)) rfl (ul_8 B.2.2.2.2.1) 3 (by decide) rfl (tw_969 B.2.2.2.2.1) dX8_simulate_27 ?_
      refine lv_iconst (v := 0) B.1 B.2.1 dX8_simulate_30 (by decide) ?_
      refine lv_aload_n B.1 B.2.1 dX8_simulate_31 rfl (lv_at hl 0 rfl) ?_
      refine r_get B hH (own := RX8) (kd_n B (k0) (by decide) (by decide)) (ct_8 (k0)) rfl (ul_8 B.2.2.2.2.1) 4 (by decide) rfl (tw_970 B.2.2.2.2.1) dX8_simulate_32 ?_
      refine lv_iconst (v := 0) B.1 B.2.1 dX8_simulate_35 (by decide) ?_
      refine c_S_V (own := RX8) (As := [.ref (zA Z (a0 + 2)), .int 0, .ref (zA Z (a0 + 3)), .int 0]) (rest := []) B hH (cy_X8_copyState B.2.2.2.2.1) (ct_X8_copyState B.2.2.2.2.2.2.2 l (a0 + 2) 0 (a0 + 3) 0 h27 _ _ (kf_8_3 (k0)) (kf_8_4 (k0)) hw) ⟨⟨rfl, rfl⟩, Nat.le_of_ble_eq_true rfl, Nat.le_of_ble_eq_true rfl, Nat.zero_le _, Nat.zero_le _⟩ (tw_1136 B.2.2.2.2.1) rfl hl.1 rfl (Nat.le_of_ble_eq_true rfl) dX8_simulate_36 ?_
      clear hw hH
      intro h30 H locs hw hH
      refine lv_lload_n B.1 B.2.1 dX8_simulate_39 rfl (lv_at hl 1 rfl) ?_
      refine lv_lstore (lv' := [(4, .long a1), (0, .ref (zA Z a0)), (1, .long a1), (3, .int a3)]) B.1 B.2.1 dX8_simulate_40 hl (by decide) (by first | rfl | simp [va_re_cat, Value.category]) ?_
      clear hl
      intro ls hl
      refine lv_iconst (v := 0) B.1 B.2.1 dX8_simulate_42 (by decide) ?_
      refine lv_istore (lv' := [(6, .int 0), (4, .long a1), (0, .ref (zA Z a0)), (1, .long a1), (3, .int a3)]) B.1 B.2.1 dX8_simulate_43 hl (by decide) (by first | rfl | simp [va_re_cat, Value.category]) ?_
      clear hl
      intro ls hl
      obtain ⟨n31, hw⟩ := hw
      exact L45 a0 a3 (k0) n31 a1 0 h30  _ _ _ hw hH (lv_sub hl [2, 4, 1, 0] rfl)
    · replace hw := hw.2 c29
      refine lv_iconst (v := 0) B.1 B.2.1 dX8_simulate_24 (by decide) ?_
      exact e_i B hr hH hw dX8_simulate_25
theorem cy_X8_save {s : State} {args : Array Value} (hG : GG s) : CYV s args yX8_save cX8_save 2 (some .int) 1 := CYV.of hG (fun _ _ hG => tw_1302 hG) (tw_8 hG) (tw_1300 hG) (tw_1301 hG) (by decide +kernel)
set_option maxRecDepth 100000 in
set_option maxHeartbeats 4000000 in
theorem ct_X8_save {Z : ZT} (hZ : ZO Z) (l : Launch) (a0 : Nat) (a1 : Int32) (h : PH) (sz : Nat) (Q : Int32 → PH → Prop) (k0 : kd a0 = 8) (hw : wp_X8_save a0 a1 h Q) : MI Z l yX8_save cX8_save 2 (some .int) ({ frames := 1, cells := 0, slots := 0, locals := 25 } : Room) h sz [.ref (zA Z a0), .int a1] Q := by
  refine open_M hZ (by decide +kernel) (by exact Nat.le_of_ble_eq_true rfl) ?_
  intro p e s m below meth c B hr hsz ls hl hH
  subst hsz
  have hl : lv_has ls 2 [(0, .ref (zA Z a0)), (1, .int a1)] := hl
  unfold wp_X8_save at hw
  refine lv_aload_n B.1 B.2.1 dX8_save_0 rfl (lv_at hl 0 rfl) ?_
  refine lv_iload_n B.1 B.2.1 dX8_save_1 rfl (lv_at hl 1 rfl) ?_
  refine lv_i2l B.1 B.2.1 dX8_save_2 rfl ?_
  refine lv_lconst (v := 0) B.1 B.2.1 dX8_save_3 (by decide) ?_
  refine lv_lconst (v := 1) B.1 B.2.1 dX8_save_4 (by decide) ?_
  refine c_S_I (own := RX8) (As := [.long (a1.toInt64), .long 0, .long 1]) (rest := [.ref (zA Z a0)]) B hH (cy_X8_in B.2.2.2.2.1) (ct_X8_in B.2.2.2.2.2.2.2 l (a1.toInt64) 0 1 h _ _  hw) ⟨⟨rfl, rfl⟩, Nat.le_of_ble_eq_true rfl, Nat.le_of_ble_eq_true rfl, Nat.zero_le _, Nat.zero_le _⟩ (tw_1010 B.2.2.2.2.1) rfl hl.1 rfl (Nat.le_of_ble_eq_true rfl) dX8_save_5 ?_
  clear hw hH
  intro r2 h1 H locs hw hH
  refine lv_if_eq (tgt := 15) B.1 B.2.1 dX8_save_8 (by decide) (fun c3 => ?_) (fun c3 => ?_)
  · replace hw := hw.1 c3
    refine lv_iconst (v := 1) B.1 B.2.1 dX8_save_15 (by decide) ?_
    refine c_V_I (own := RX8) (As := [.int 1]) (rest := []) B hH (cy_X8_refused B.2.2.2.2.1) (ct_X8_refused B.2.2.2.2.2.2.2 l a0 1 h1 _ _ (k0) hw) ⟨⟨rfl, rfl⟩, Nat.le_of_ble_eq_true rfl, Nat.le_of_ble_eq_true rfl, Nat.zero_le _, Nat.zero_le _⟩ (rv_8 B hH (k0)) (tw_1013 B.2.2.2.2.1) rfl hl.1 rfl (Nat.le_of_ble_eq_true rfl) dX8_save_16 ?_
    clear hw hH
    intro r5 h4 H locs hw hH
    refine lv_if_eq (tgt := 24) B.1 B.2.1 dX8_save_19 (by decide) (fun c6 => ?_) (fun c6 => ?_)
    · replace hw := hw.1 c6
      refine lv_aload_n B.1 B.2.1 dX8_save_24 rfl (lv_at hl 0 rfl) ?_
      refine r_get B hH (own := RX8) (kd_n B (k0) (by decide) (by decide)) (ct_8 (k0)) rfl (ul_8 B.2.2.2.2.1) 3 (by decide) rfl (tw_969 B.2.2.2.2.1) dX8_save_25 ?_
      refine lv_iconst (v := 0) B.1 B.2.1 dX8_save_28 (by decide) ?_
      refine lv_aload_n B.1 B.2.1 dX8_save_29 rfl (lv_at hl 0 rfl) ?_
      refine r_get B hH (own := RX8) (kd_n B (k0) (by decide) (by decide)) (ct_8 (k0)) rfl (ul_8 B.2.2.2.2.1) 7 (by decide) rfl (tw_973 B.2.2.2.2.1) dX8_save_30 ?_
      refine lv_sipush (v := 427) B.1 B.2.1 dX8_save_33 (by decide) ?_
      refine lv_iload_n B.1 B.2.1 dX8_save_36 rfl (lv_at hl 1 rfl) ?_
      refine lv_imul B.1 B.2.1 dX8_save_37 ?_
      refine c_S_V (own := RX8) (As := [.ref (zA Z (a0 + 2)), .int 0, .ref (zA Z (a0 + 5)), .int (427 * a1)]) (rest := []) B hH (cy_X8_copyState B.2.2.2.2.1) (ct_X8_copyState B.2.2.2.2.2.2.2 l (a0 + 2) 0 (a0 + 5) (427 * a1) h4 _ _ (kf_8_3 (k0)) (kf_8_7 (k0)) hw) ⟨⟨rfl, rfl⟩, Nat.le_of_ble_eq_true rfl, Nat.le_of_ble_eq_true rfl, Nat.zero_le _, Nat.zero_le _⟩ (tw_1136 B.2.2.2.2.1) rfl hl.1 rfl (Nat.le_of_ble_eq_true rfl) dX8_save_38 ?_
      clear hw hH
      intro h7 H locs hw hH
      refine lv_aload_n B.1 B.2.1 dX8_save_41 rfl (lv_at hl 0 rfl) ?_
      refine r_get B hH (own := RX8) (kd_n B (k0) (by decide) (by decide)) (ct_8 (k0)) rfl (ul_8 B.2.2.2.2.1) 8 (by decide) rfl (tw_974 B.2.2.2.2.1) dX8_save_42 ?_
      refine lv_iload_n B.1 B.2.1 dX8_save_45 rfl (lv_at hl 1 rfl) ?_
      refine lv_iconst (v := 1) B.1 B.2.1 dX8_save_46 (by decide) ?_
      have q8 := hw.1
      replace hw := hw.2
      refine r_zast B hH (kf_8_8 (k0)) q8 (by decide) dX8_save_47 ?_
      clear hH
      intro H locs hH
      obtain ⟨h9, eh9⟩ : ∃ z : PH, z = up2 h7 (a0 + 6) a1.toNatClampNeg 1 := ⟨_, rfl⟩
      rw [← eh9] at hH
      replace hw := hw h9 eh9
      refine lv_aload_n B.1 B.2.1 dX8_save_48 rfl (lv_at hl 0 rfl) ?_
      refine r_get B hH (own := RX8) (kd_n B (k0) (by decide) (by decide)) (ct_8 (k0)) rfl (ul_8 B.2.2.2.2.1) 3 (by decide) rfl (tw_969 B.2.2.2.2.1) dX8_save_49 ?_
      refine lv_iconst (v := 2) B.1 B.2.1 dX8_save_52 (by decide) ?_
      have q10 := hw.1
      replace hw := hw.2
      refine r_iald B hH (kf_8_3 (k0)) q10 dX8_save_53 ?_
      exact e_i B hr hH hw dX8_save_54
    · replace hw := hw.2 c6
      refine lv_iconst (v := 0) B.1 B.2.1 dX8_save_22 (by decide) ?_
      exact e_i B hr hH hw dX8_save_23
  · replace hw := hw.2 c3
    refine lv_iconst (v := 0) B.1 B.2.1 dX8_save_11 (by decide) ?_
    refine lv_goto (tgt := 16) B.1 B.2.1 dX8_save_12 (by decide) ?_
    refine c_V_I (own := RX8) (As := [.int 0]) (rest := []) B hH (cy_X8_refused B.2.2.2.2.1) (ct_X8_refused B.2.2.2.2.2.2.2 l a0 0 h1 _ _ (k0) hw) ⟨⟨rfl, rfl⟩, Nat.le_of_ble_eq_true rfl, Nat.le_of_ble_eq_true rfl, Nat.zero_le _, Nat.zero_le _⟩ (rv_8 B hH (k0)) (tw_1013 B.2.2.2.2.1) rfl hl.1 rfl (Nat.le_of_ble_eq_true rfl) dX8_save_16 ?_
    clear hw hH
    intro r12 h11 H locs hw hH
    refine lv_if_eq (tgt := 24) B.1 B.2.1 dX8_save_19 (by decide) (fun c13 => ?_) (fun c13 => ?_)
    · replace hw := hw.1 c13
      refine lv_aload_n B.1 B.2.1 dX8_save_24 rfl (lv_at hl 0 rfl) ?_
      refine r_get B hH (own := RX8) (kd_n B (k0) (by decide) (by decide)) (ct_8 (k0)) rfl (ul_8 B.2.2.2.2.1) 3 (by decide) rfl (tw_969 B.2.2.2.2.1) dX8_save_25 ?_
      refine lv_iconst (v := 0) B.1 B.2.1 dX8_save_28 (by decide) ?_
      refine lv_aload_n B.1 B.2.1 dX8_save_29 rfl (lv_at hl 0 rfl) ?_
      refine r_get B hH (own := RX8) (kd_n B (k0) (by decide) (by decide)) (ct_8 (k0)) rfl (ul_8 B.2.2.2.2.1) 7 (by decide) rfl (tw_973 B.2.2.2.2.1) dX8_save_30 ?_
      refine lv_sipush (v := 427) B.1 B.2.1 dX8_save_33 (by decide) ?_
      refine lv_iload_n B.1 B.2.1 dX8_save_36 rfl (lv_at hl 1 rfl) ?_
      refine lv_imul B.1 B.2.1 dX8_save_37 ?_
      refine c_S_V (own := RX8) (As := [.ref (zA Z (a0 + 2)), .int 0, .ref (zA Z (a0 + 5)), .int (427 * a1)]) (rest := []) B hH (cy_X8_copyState B.2.2.2.2.1) (ct_X8_copyState B.2.2.2.2.2.2.2 l (a0 + 2) 0 (a0 + 5) (427 * a1) h11 _ _ (kf_8_3 (k0)) (kf_8_7 (k0)) hw) ⟨⟨rfl, rfl⟩, Nat.le_of_ble_eq_true rfl, Nat.le_of_ble_eq_true rfl, Nat.zero_le _, Nat.zero_le _⟩ (tw_1136 B.2.2.2.2.1) rfl hl.1 rfl (Nat.le_of_ble_eq_true rfl) dX8_save_38 ?_
      clear hw hH
      intro h14 H locs hw hH
      refine lv_aload_n B.1 B.2.1 dX8_save_41 rfl (lv_at hl 0 rfl) ?_
      refine r_get B hH (own := RX8) (kd_n B (k0) (by decide) (by decide)) (ct_8 (k0)) rfl (ul_8 B.2.2.2.2.1) 8 (by decide) rfl (tw_974 B.2.2.2.2.1) dX8_save_42 ?_
      refine lv_iload_n B.1 B.2.1 dX8_save_45 rfl (lv_at hl 1 rfl) ?_
      refine lv_iconst (v := 1) B.1 B.2.1 dX8_save_46 (by decide) ?_
      have q15 := hw.1
      replace hw := hw.2
      refine r_zast B hH (kf_8_8 (k0)) q15 (by decide) dX8_save_47 ?_
      clear hH
      intro H locs hH
      obtain ⟨h16, eh16⟩ : ∃ z : PH, z = up2 h14 (a0 + 6) a1.toNatClampNeg 1 := ⟨_, rfl⟩
      rw [← eh16] at hH
      replace hw := hw h16 eh16
      refine lv_aload_n B.1 B.2.1 dX8_save_48 rfl (lv_at hl 0 rfl) ?_
      refine r_get B hH (own := RX8) (kd_n B (k0) (by decide) (by decide)) (ct_8 (k0)) rfl (ul_8 B.2.2.2.2.1) 3 (by decide) rfl (tw_969 B.2.2.2.2.1) dX8_save_49 ?_
      refine lv_iconst (v := 2) B.1 B.2.1 dX8_save_52 (by decide) ?_
      have q17 := hw.1
      replace hw := hw.2
      refine r_iald B hH (kf_8_3 (k0)) q17 dX8_save_53 ?_
      exact e_i B hr hH hw dX8_save_54
    · replace hw := hw.2 c13
      refine lv_iconst (v := 0) B.1 B.2.1 dX8_save_22 (by decide) ?_
      exact e_i B hr hH hw dX8_save_23
theorem cy_X8_restore {s : State} {args : Array Value} (hG : GG s) : CYV s args yX8_restore cX8_restore 2 (some .int) 1 := CYV.of hG (fun _ _ hG => tw_1306 hG) (tw_8 hG) (tw_1304 hG) (tw_1305 hG) (by decide +kernel)
set_option maxRecDepth 100000 in
set_option maxHeartbeats 4000000 in
theorem ct_X8_restore {Z : ZT} (hZ : ZO Z) (l : Launch) (a0 : Nat) (a1 : Int32) (h : PH) (sz : Nat) (Q : Int32 → PH → Prop) (k0 : kd a0 = 8) (hw : wp_X8_restore a0 a1 h Q) : MI Z l yX8_restore cX8_restore 2 (some .int) ({ frames := 1, cells := 0, slots := 0, locals := 25 } : Room) h sz [.ref (zA Z a0), .int a1] Q := by
  refine open_M hZ (by decide +kernel) (by exact Nat.le_of_ble_eq_true rfl) ?_
  intro p e s m below meth c B hr hsz ls hl hH
  subst hsz
  have hl : lv_has ls 2 [(0, .ref (zA Z a0)), (1, .int a1)] := hl
  unfold wp_X8_restore at hw
  refine lv_aload_n B.1 B.2.1 dX8_restore_0 rfl (lv_at hl 0 rfl) ?_
  refine lv_iload_n B.1 B.2.1 dX8_restore_1 rfl (lv_at hl 1 rfl) ?_
  refine lv_i2l B.1 B.2.1 dX8_restore_2 rfl ?_
  refine lv_lconst (v := 0) B.1 B.2.1 dX8_restore_3 (by decide) ?_
  refine lv_lconst (v := 1) B.1 B.2.1 dX8_restore_4 (by decide) ?_
  refine c_S_I (own := RX8) (As := [.long (a1.toInt64), .long 0, .long 1]) (rest := [.ref (zA Z a0)]) B hH (cy_X8_in B.2.2.2.2.1) (ct_X8_in B.2.2.2.2.2.2.2 l (a1.toInt64) 0 1 h _ _  hw) ⟨⟨rfl, rfl⟩, Nat.le_of_ble_eq_true rfl, Nat.le_of_ble_eq_true rfl, Nat.zero_le _, Nat.zero_le _⟩ (tw_1010 B.2.2.2.2.1) rfl hl.1 rfl (Nat.le_of_ble_eq_true rfl) dX8_restore_5 ?_
  clear hw hH
  intro r2 h1 H locs hw hH
  refine lv_if_ne (tgt := 15) B.1 B.2.1 dX8_restore_8 (by decide) (fun c3 => ?_) (fun c3 => ?_)
  · replace hw := hw.1 c3
    refine lv_aload_n B.1 B.2.1 dX8_restore_15 rfl (lv_at hl 0 rfl) ?_
    refine r_get B hH (own := RX8) (kd_n B (k0) (by decide) (by decide)) (ct_8 (k0)) rfl (ul_8 B.2.2.2.2.1) 8 (by decide) rfl (tw_974 B.2.2.2.2.1) dX8_restore_16 ?_
    refine lv_iload_n B.1 B.2.1 dX8_restore_19 rfl (lv_at hl 1 rfl) ?_
    have q4 := hw.1
    replace hw := hw.2
    refine r_zald B hH (kf_8_8 (k0)) q4 dX8_restore_20 ?_
    refine lv_if_ne (tgt := 28) B.1 B.2.1 dX8_restore_21 (by decide) (fun c5 => ?_) (fun c5 => ?_)
    · replace hw := hw.1 c5
      refine lv_iconst (v := 0) B.1 B.2.1 dX8_restore_28 (by decide) ?_
      refine c_V_I (own := RX8) (As := [.int 0]) (rest := []) B hH (cy_X8_refused B.2.2.2.2.1) (ct_X8_refused B.2.2.2.2.2.2.2 l a0 0 h1 _ _ (k0) hw) ⟨⟨rfl, rfl⟩, Nat.le_of_ble_eq_true rfl, Nat.le_of_ble_eq_true rfl, Nat.zero_le _, Nat.zero_le _⟩ (rv_8 B hH (k0)) (tw_1013 B.2.2.2.2.1) rfl hl.1 rfl (Nat.le_of_ble_eq_true rfl) dX8_restore_29 ?_
      clear hw hH
      intro r7 h6 H locs hw hH
      refine lv_if_eq (tgt := 37) B.1 B.2.1 dX8_restore_32 (by decide) (fun c8 => ?_) (fun c8 => ?_)
      · replace hw := hw.1 c8
        refine lv_aload_n B.1 B.2.1 dX8_restore_37 rfl (lv_at hl 0 rfl) ?_
        refine r_get B hH (own := RX8) (kd_n B (k0) (by decide) (by decide)) (ct_8 (k0)) rfl (ul_8 B.2.2.2.2.1) 7 (by decide) rfl (tw_973 B.2.2.2.2.1) dX8_restore_38 ?_
        refine lv_sipush (v := 427) B.1 B.2.1 dX8_restore_41 (by decide) ?_
        refine lv_iload_n B.1 B.2.1 dX8_restore_44 rfl (lv_at hl 1 rfl) ?_
        refine lv_imul B.1 B.2.1 dX8_restore_45 ?_
        refine lv_aload_n B.1 B.2.1 dX8_restore_46 rfl (lv_at hl 0 rfl) ?_
        refine r_get B hH (own := RX8) (kd_n B (k0) (by decide) (by decide)) (ct_8 (k0)) rfl (ul_8 B.2.2.2.2.1) 3 (by decide) rfl (tw_969 B.2.2.2.2.1) dX8_restore_47 ?_
        refine lv_iconst (v := 0) B.1 B.2.1 dX8_restore_50 (by decide) ?_
        refine c_S_V (own := RX8) (As := [.ref (zA Z (a0 + 5)), .int (427 * a1), .ref (zA Z (a0 + 2)), .int 0]) (rest := []) B hH (cy_X8_copyState B.2.2.2.2.1) (ct_X8_copyState B.2.2.2.2.2.2.2 l (a0 + 5) (427 * a1) (a0 + 2) 0 h6 _ _ (kf_8_7 (k0)) (kf_8_3 (k0)) hw) ⟨⟨rfl, rfl⟩, Nat.le_of_ble_eq_true rfl, Nat.le_of_ble_eq_true rfl, Nat.zero_le _, Nat.zero_le _⟩ (tw_1136 B.2.2.2.2.1) rfl hl.1 rfl (Nat.le_of_ble_eq_true rfl) dX8_restore_51 ?_
        clear hw hH
        intro h9 H locs hw hH
        refine lv_aload_n B.1 B.2.1 dX8_restore_54 rfl (lv_at hl 0 rfl) ?_
        refine lv_iconst (v := 0) B.1 B.2.1 dX8_restore_55 (by decide) ?_
        refine r_put B hH (own := RX8) (kd_n B (k0) (by decide) (by decide)) (ct_8 (k0)) rfl (ul_8 B.2.2.2.2.1) tyX8 tyX8_ok nmX8 6 (by decide) (ty := .int) rfl rfl rfl rfl (Nat.le_of_ble_eq_true rfl) (cs_8_6 (k0)) (tw_972 B.2.2.2.2.1) dX8_restore_56 ?_
        clear hH
        intro H locs hH
        obtain ⟨h10, eh10⟩ : ∃ z : PH, z = up2 h9 a0 6 0 := ⟨_, rfl⟩
        rw [← eh10] at hH
        replace hw := hw h10 eh10
        refine lv_aload_n B.1 B.2.1 dX8_restore_59 rfl (lv_at hl 0 rfl) ?_
        refine r_get B hH (own := RX8) (kd_n B (k0) (by decide) (by decide)) (ct_8 (k0)) rfl (ul_8 B.2.2.2.2.1) 3 (by decide) rfl (tw_969 B.2.2.2.2.1) dX8_restore_60 ?_
        refine lv_iconst (v := 2) B.1 B.2.1 dX8_restore_63 (by decide) ?_
        have q11 := hw.1
        replace hw := hw.2
        refine r_iald B hH (kf_8_3 (k0)) q11 dX8_restore_64 ?_
        exact e_i B hr hH hw dX8_restore_65
      · replace hw := hw.2 c8
        refine lv_iconst (v := 0) B.1 B.2.1 dX8_restore_35 (by decide) ?_
        exact e_i B hr hH hw dX8_restore_36
    · replace hw := hw.2 c5
      refine lv_iconst (v := 2) B.1 B.2.1 dX8_restore_24 (by decide) ?_
      refine lv_goto (tgt := 29) B.1 B.2.1 dX8_restore_25 (by decide) ?_
      refine c_V_I (own := RX8) (As := [.int 2]) (rest := []) B hH (cy_X8_refused B.2.2.2.2.1) (ct_X8_refused B.2.2.2.2.2.2.2 l a0 2 h1 _ _ (k0) hw) ⟨⟨rfl, rfl⟩, Nat.le_of_ble_eq_true rfl, Nat.le_of_ble_eq_true rfl, Nat.zero_le _, Nat.zero_le _⟩ (rv_8 B hH (k0)) (tw_1013 B.2.2.2.2.1) rfl hl.1 rfl (Nat.le_of_ble_eq_true rfl) dX8_restore_29 ?_
      clear hw hH
      intro r13 h12 H locs hw hH
      refine lv_if_eq (tgt := 37) B.1 B.2.1 dX8_restore_32 (by decide) (fun c14 => ?_) (fun c14 => ?_)
      · replace hw := hw.1 c14
        refine lv_aload_n B.1 B.2.1 dX8_restore_37 rfl (lv_at hl 0 rfl) ?_
        refine r_get B hH (own := RX8) (kd_n B (k0) (by decide) (by decide)) (ct_8 (k0)) rfl (ul_8 B.2.2.2.2.1) 7 (by decide) rfl (tw_973 B.2.2.2.2.1) dX8_restore_38 ?_
        refine lv_sipush (v := 427) B.1 B.2.1 dX8_restore_41 (by decide) ?_
        refine lv_iload_n B.1 B.2.1 dX8_restore_44 rfl (lv_at hl 1 rfl) ?_
        refine lv_imul B.1 B.2.1 dX8_restore_45 ?_
        refine lv_aload_n B.1 B.2.1 dX8_restore_46 rfl (lv_at hl 0 rfl) ?_
        refine r_get B hH (own := RX8) (kd_n B (k0) (by decide) (by decide)) (ct_8 (k0)) rfl (ul_8 B.2.2.2.2.1) 3 (by decide) rfl (tw_969 B.2.2.2.2.1) dX8_restore_47 ?_
        refine lv_iconst (v := 0) B.1 B.2.1 dX8_restore_50 (by decide) ?_
        refine c_S_V (own := RX8) (As := [.ref (zA Z (a0 + 5)), .int (427 * a1), .ref (zA Z (a0 + 2)), .int 0]) (rest := []) B hH (cy_X8_copyState B.2.2.2.2.1) (ct_X8_copyState B.2.2.2.2.2.2.2 l (a0 + 5) (427 * a1) (a0 + 2) 0 h12 _ _ (kf_8_7 (k0)) (kf_8_3 (k0)) hw) ⟨⟨rfl, rfl⟩, Nat.le_of_ble_eq_true rfl, Nat.le_of_ble_eq_true rfl, Nat.zero_le _, Nat.zero_le _⟩ (tw_1136 B.2.2.2.2.1) rfl hl.1 rfl (Nat.le_of_ble_eq_true rfl) dX8_restore_51 ?_
        clear hw hH
        intro h15 H locs hw hH
        refine lv_aload_n B.1 B.2.1 dX8_restore_54 rfl (lv_at hl 0 rfl) ?_
        refine lv_iconst (v := 0) B.1 B.2.1 dX8_restore_55 (by decide) ?_
        refine r_put B hH (own := RX8) (kd_n B (k0) (by decide) (by decide)) (ct_8 (k0)) rfl (ul_8 B.2.2.2.2.1) tyX8 tyX8_ok nmX8 6 (by decide) (ty := .int) rfl rfl rfl rfl (Nat.le_of_ble_eq_true rfl) (cs_8_6 (k0)) (tw_972 B.2.2.2.2.1) dX8_restore_56 ?_
        clear hH
        intro H locs hH
        obtain ⟨h16, eh16⟩ : ∃ z : PH, z = up2 h15 a0 6 0 := ⟨_, rfl⟩
        rw [← eh16] at hH
        replace hw := hw h16 eh16
        refine lv_aload_n B.1 B.2.1 dX8_restore_59 rfl (lv_at hl 0 rfl) ?_
        refine r_get B hH (own := RX8) (kd_n B (k0) (by decide) (by decide)) (ct_8 (k0)) rfl (ul_8 B.2.2.2.2.1) 3 (by decide) rfl (tw_969 B.2.2.2.2.1) dX8_restore_60 ?_
        refine lv_iconst (v := 2) B.1 B.2.1 dX8_restore_63 (by decide) ?_
        have q17 := hw.1
        replace hw := hw.2
        refine r_iald B hH (kf_8_3 (k0)) q17 dX8_restore_64 ?_
        exact e_i B hr hH hw dX8_restore_65
      · replace hw := hw.2 c14
        refine lv_iconst (v := 0) B.1 B.2.1 dX8_restore_35 (by decide) ?_
        exact e_i B hr hH hw dX8_restore_36
  · replace hw := hw.2 c3
    refine lv_iconst (v := 1) B.1 B.2.1 dX8_restore_11 (by decide) ?_
    refine lv_goto (tgt := 29) B.1 B.2.1 dX8_restore_12 (by decide) ?_
    refine c_V_I (own := RX8) (As := [.int 1]) (rest := []) B hH (cy_X8_refused B.2.2.2.2.1) (ct_X8_refused B.2.2.2.2.2.2.2 l a0 1 h1 _ _ (k0) hw) ⟨⟨rfl, rfl⟩, Nat.le_of_ble_eq_true rfl, Nat.le_of_ble_eq_true rfl, Nat.zero_le _, Nat.zero_le _⟩ (rv_8 B hH (k0)) (tw_1013 B.2.2.2.2.1) rfl hl.1 rfl (Nat.le_of_ble_eq_true rfl) dX8_restore_29 ?_
    clear hw hH
    intro r19 h18 H locs hw hH
    refine lv_if_eq (tgt := 37) B.1 B.2.1 dX8_restore_32 (by decide) (fun c20 => ?_) (fun c20 => ?_)
    · replace hw := hw.1 c20
      refine lv_aload_n B.1 B.2.1 dX8_restore_37 rfl (lv_at hl 0 rfl) ?_
      refine r_get B hH (own := RX8) (kd_n B (k0) (by decide) (by decide)) (ct_8 (k0)) rfl (ul_8 B.2.2.2.2.1) 7 (by decide) rfl (tw_973 B.2.2.2.2.1) dX8_restore_38 ?_
      refine lv_sipush (v := 427) B.1 B.2.1 dX8_restore_41 (by decide) ?_
      refine lv_iload_n B.1 B.2.1 dX8_restore_44 rfl (lv_at hl 1 rfl) ?_
      refine lv_imul B.1 B.2.1 dX8_restore_45 ?_
      refine lv_aload_n B.1 B.2.1 dX8_restore_46 rfl (lv_at hl 0 rfl) ?_
      refine r_get B hH (own := RX8) (kd_n B (k0) (by decide) (by decide)) (ct_8 (k0)) rfl (ul_8 B.2.2.2.2.1) 3 (by decide) rfl (tw_969 B.2.2.2.2.1) dX8_restore_47 ?_
      refine lv_iconst (v := 0) B.1 B.2.1 dX8_restore_50 (by decide) ?_
      refine c_S_V (own := RX8) (As := [.ref (zA Z (a0 + 5)), .int (427 * a1), .ref (zA Z (a0 + 2)), .int 0]) (rest := []) B hH (cy_X8_copyState B.2.2.2.2.1) (ct_X8_copyState B.2.2.2.2.2.2.2 l (a0 + 5) (427 * a1) (a0 + 2) 0 h18 _ _ (kf_8_7 (k0)) (kf_8_3 (k0)) hw) ⟨⟨rfl, rfl⟩, Nat.le_of_ble_eq_true rfl, Nat.le_of_ble_eq_true rfl, Nat.zero_le _, Nat.zero_le _⟩ (tw_1136 B.2.2.2.2.1) rfl hl.1 rfl (Nat.le_of_ble_eq_true rfl) dX8_restore_51 ?_
      clear hw hH
      intro h21 H locs hw hH
      refine lv_aload_n B.1 B.2.1 dX8_restore_54 rfl (lv_at hl 0 rfl) ?_
      refine lv_iconst (v := 0) B.1 B.2.1 dX8_restore_55 (by decide) ?_
      refine r_put B hH (own := RX8) (kd_n B (k0) (by decide) (by decide)) (ct_8 (k0)) rfl (ul_8 B.2.2.2.2.1) tyX8 tyX8_ok nmX8 6 (by decide) (ty := .int) rfl rfl rfl rfl (Nat.le_of_ble_eq_true rfl) (cs_8_6 (k0)) (tw_972 B.2.2.2.2.1) dX8_restore_56 ?_
      clear hH
      intro H locs hH
      obtain ⟨h22, eh22⟩ : ∃ z : PH, z = up2 h21 a0 6 0 := ⟨_, rfl⟩
      rw [← eh22] at hH
      replace hw := hw h22 eh22
      refine lv_aload_n B.1 B.2.1 dX8_restore_59 rfl (lv_at hl 0 rfl) ?_
      refine r_get B hH (own := RX8) (kd_n B (k0) (by decide) (by decide)) (ct_8 (k0)) rfl (ul_8 B.2.2.2.2.1) 3 (by decide) rfl (tw_969 B.2.2.2.2.1) dX8_restore_60 ?_
      refine lv_iconst (v := 2) B.1 B.2.1 dX8_restore_63 (by decide) ?_
      have q23 := hw.1
      replace hw := hw.2
      refine r_iald B hH (kf_8_3 (k0)) q23 dX8_restore_64 ?_
      exact e_i B hr hH hw dX8_restore_65
    · replace hw := hw.2 c20
      refine lv_iconst (v := 0) B.1 B.2.1 dX8_restore_35 (by decide) ?_
      exact e_i B hr hH hw dX8_restore_36
