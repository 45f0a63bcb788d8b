theorem cy_X8_recordOn {s : State} {args : Array Value} (hG : GG s) : CYS s args yX8_recordOn cX8_recordOn 6 (some .int) 3 := CYS.of hG (fun _ _ hG => tw_1131 hG) (tw_8 hG) (tw_1130 hG) (by decide +kernel)
set_option maxRecDepth 100000 in
set_option maxHeartbeats 4000000 in
theorem ct_X8_recordOn {Z : ZT} (hZ : ZO Z) (l : Launch) (a0 : Nat) (a1 : Int32) (a2 : Int32) (h : PH) (sz : Nat) (Q : Int32 → PH → Prop) (k0 : kd a0 = 10) (hw : wp_X8_recordOn a0 a1 a2 h Q) : MI Z l yX8_recordOn cX8_recordOn 6 (some .int) ({ frames := 5, cells := 0, slots := 0, locals := 112 } : Room) h sz [.ref (zA Z a0), .int a1, .int a2] Q := by
  refine open_M hZ (by decide +kernel) (by exact Nat.le_of_ble_eq_true rfl) ?_
  intro p e s m below meth c B hr hsz ls hl hH
  subst hsz
  have hl : lv_has ls 6 [(0, .ref (zA Z a0)), (1, .int a1), (2, .int a2)] := hl
  unfold wp_X8_recordOn at hw
  have L5 : ∀ (b0 : Nat) (b1 : Int32) (b2 : Int32), kd b0 = 10 → ∀ (n : Nat) (b3 : Int32) (b4 : Int32) (h : PH), ∀ (H : Heap) (locs : List Loc) (ls : Array Slot), wp_X8_recordOn_b5 b0 b1 b2 Q n b3 b4 h → HH Z s h H locs → lv_has ls 6 [(0, .ref (zA Z b0)), (1, .int b1), (2, .int b2), (3, .int b3), (4, .int b4)] → W p l e ({ frames := 5, cells := 0, slots := 0, locals := 112 } : Room) s m ([.ref (zA Z a0), .int a1, .int a2]).toArray below meth c H locs 0 0 (MQ below (va_Qi Q (BZ Z) (fr Z s.heap.size)) ([.ref (zA Z a0), .int a1, .int a2]).toArray s 0 0 (fr Z s.heap.size)) (F0 m 5 ls []) := by
    intro b0 b1 b2 kb0 n
    induction n with
    | zero => intro b3 b4 h H locs ls hw hH hl; exact absurd hw id
    | succ n ih =>
      intro b3 b4 h H locs ls hw hH hl
      unfold wp_X8_recordOn_b5 at hw
      refine lv_iload B.1 B.2.1 dX8_recordOn_5 (lv_at hl 4 rfl) ?_
      refine lv_iload_n B.1 B.2.1 dX8_recordOn_7 rfl (lv_at hl 2 rfl) ?_
      refine lv_icmp_ge (tgt := 66) B.1 B.2.1 dX8_recordOn_8 (by decide) (fun c1 => ?_) (fun c1 => ?_)
      · replace hw := hw.1 c1
        refine lv_iload_n B.1 B.2.1 dX8_recordOn_66 rfl (lv_at hl 3 rfl) ?_
        exact e_i B hr hH hw dX8_recordOn_67
      · replace hw := hw.2 c1
        refine lv_aload_n B.1 B.2.1 dX8_recordOn_11 rfl (lv_at hl 0 rfl) ?_
        refine lv_lconst (v := 0) B.1 B.2.1 dX8_recordOn_12 (by decide) ?_
        refine c_S_I (own := RX8) (As := [.ref (zA Z b0), .long 0]) (rest := []) B hH (cy_X8_soundLater B.2.2.2.2.1) (ct_X8_soundLater B.2.2.2.2.2.2.2 l b0 0 h _ _ (kb0) hw) ⟨⟨rfl, rfl⟩, Nat.le_of_ble_eq_true rfl, Nat.le_of_ble_eq_true rfl, Nat.zero_le _, Nat.zero_le _⟩ (tw_1114 B.2.2.2.2.1) rfl hl.1 rfl (Nat.le_of_ble_eq_true rfl) dX8_recordOn_13 ?_
        clear hw hH
        intro r3 h2 H locs hw hH
        refine lv_istore (lv' := [(5, .int r3), (0, .ref (zA Z b0)), (1, .int b1), (2, .int b2), (3, .int b3), (4, .int b4)]) B.1 B.2.1 dX8_recordOn_16 hl (by decide) (by first | rfl | simp [va_re_cat, Value.category]) ?_
        clear hl
        intro ls hl
        refine lv_iload B.1 B.2.1 dX8_recordOn_18 (lv_at hl 0 rfl) ?_
        refine lv_bipush (v := 9) B.1 B.2.1 dX8_recordOn_20 (by decide) ?_
        refine lv_icmp_le (tgt := 30) B.1 B.2.1 dX8_recordOn_22 (by decide) (fun c4 => ?_) (fun c4 => ?_)
        · replace hw := hw.1 c4
          refine lv_iload B.1 B.2.1 dX8_recordOn_30 (lv_at hl 0 rfl) ?_
          refine lv_istore (lv' := [(5, .int r3), (0, .ref (zA Z b0)), (1, .int b1), (2, .int b2), (3, .int b3), (4, .int b4)]) B.1 B.2.1 dX8_recordOn_32 hl (by decide) (by first | rfl | simp [va_re_cat, Value.category]) ?_
          clear hl
          intro ls hl
          refine lv_aload_n B.1 B.2.1 dX8_recordOn_34 rfl (lv_at hl 1 rfl) ?_
          refine lv_iconst (v := 4) B.1 B.2.1 dX8_recordOn_35 (by decide) ?_
          refine lv_bipush (v := 61) B.1 B.2.1 dX8_recordOn_36 (by decide) ?_
          refine lv_iload_n B.1 B.2.1 dX8_recordOn_38 rfl (lv_at hl 2 rfl) ?_
          refine lv_imul B.1 B.2.1 dX8_recordOn_39 ?_
          refine lv_iadd B.1 B.2.1 dX8_recordOn_40 ?_
          refine lv_iconst (v := 1) B.1 B.2.1 dX8_recordOn_41 (by decide) ?_
          refine lv_iadd B.1 B.2.1 dX8_recordOn_42 ?_
          refine lv_iload B.1 B.2.1 dX8_recordOn_43 (lv_at hl 5 rfl) ?_
          refine lv_iadd B.1 B.2.1 dX8_recordOn_45 ?_
          refine lv_iload B.1 B.2.1 dX8_recordOn_46 (lv_at hl 0 rfl) ?_
          have q5 := hw.1
          replace hw := hw.2
          refine r_iast B hH (kb0) q5 dX8_recordOn_48 ?_
          clear hH
          intro H locs hH
          obtain ⟨h6, eh6⟩ : ∃ z : PH, z = up2 h2 b0 (((4 + (61 * b1)) + 1) + b4).toNatClampNeg r3 := ⟨_, rfl⟩
          rw [← eh6] at hH
          replace hw := hw h6 eh6
          refine lv_iload_n B.1 B.2.1 dX8_recordOn_49 rfl (lv_at hl 4 rfl) ?_
          refine lv_iload B.1 B.2.1 dX8_recordOn_50 (lv_at hl 0 rfl) ?_
          refine lv_iadd B.1 B.2.1 dX8_recordOn_52 ?_
          refine lv_topi (fun x7 ex7 => ?_)
          replace hw := hw x7 ex7
          refine lv_istore_n (lv' := [(3, .int x7), (5, .int r3), (0, .ref (zA Z b0)), (1, .int b1), (2, .int b2), (4, .int b4)]) B.1 B.2.1 dX8_recordOn_53 rfl hl (by decide) (by first | rfl | simp [va_re_cat, Value.category]) ?_
          clear hl
          intro ls hl
          refine lv_aload_n B.1 B.2.1 dX8_recordOn_54 rfl (lv_at hl 2 rfl) ?_
          refine lv_iconst (v := 1) B.1 B.2.1 dX8_recordOn_55 (by decide) ?_
          refine c_S_I (own := RX8) (As := [.ref (zA Z b0), .int 1]) (rest := []) B hH (cy_X8_goOn B.2.2.2.2.1) (ct_X8_goOn B.2.2.2.2.2.2.2 l b0 1 h6 _ _ (kb0) hw) ⟨⟨rfl, rfl⟩, Nat.le_of_ble_eq_true rfl, Nat.le_of_ble_eq_true rfl, Nat.zero_le _, Nat.zero_le _⟩ (tw_1126 B.2.2.2.2.1) rfl hl.1 rfl (Nat.le_of_ble_eq_true rfl) dX8_recordOn_56 ?_
          clear hw hH
          intro r9 h8 H locs hw hH
          refine lv_pop B.1 B.2.1 dX8_recordOn_59 rfl ?_
          obtain ⟨x10, ex10⟩ : ∃ y : Int32, y = b4 + 1 := ⟨_, rfl⟩
          replace hw := hw x10 ex10
          refine lv_iinc (v := x10) (lv' := [(4, .int x10), (3, .int x7), (5, .int r3), (0, .ref (zA Z b0)), (1, .int b1), (2, .int b2)]) B.1 B.2.1 dX8_recordOn_60 hl (k := 5) rfl (by rw [ex10]; rfl) (by decide) (by first | rfl | simp [va_re_cat, Value.category]) ?_
          clear hl
          intro ls hl
          refine lv_goto (tgt := 5) B.1 B.2.1 dX8_recordOn_63 (by decide) ?_
          exact ih x7 x10 h8  _ _ _ hw hH (lv_sub hl [3, 4, 5, 1, 0] rfl)
        · replace hw := hw.2 c4
          refine lv_bipush (v := 9) B.1 B.2.1 dX8_recordOn_25 (by decide) ?_
          refine lv_goto (tgt := 32) B.1 B.2.1 dX8_recordOn_27 (by decide) ?_
          refine lv_istore (lv' := [(5, .int 9), (0, .ref (zA Z b0)), (1, .int b1), (2, .int b2), (3, .int b3), (4, .int b4)]) B.1 B.2.1 dX8_recordOn_32 hl (by decide) (by first | rfl | simp [va_re_cat, Value.category]) ?_
          clear hl
          intro ls hl
          refine lv_aload_n B.1 B.2.1 dX8_recordOn_34 rfl (lv_at hl 1 rfl) ?_
          refine lv_iconst (v := 4) B.1 B.2.1 dX8_recordOn_35 (by decide) ?_
          refine lv_bipush (v := 61) B.1 B.2.1 dX8_recordOn_36 (by decide) ?_
          refine lv_iload_n B.1 B.2.1 dX8_recordOn_38 rfl (lv_at hl 2 rfl) ?_
          refine lv_imul B.1 B.2.1 dX8_recordOn_39 ?_
          refine lv_iadd B.1 B.2.1 dX8_recordOn_40 ?_
          refine lv_iconst (v := 1) B.1 B.2.1 dX8_recordOn_41 (by decide) ?_
          refine lv_iadd B.1 B.2.1 dX8_recordOn_42 ?_
          refine lv_iload B.1 B.2.1 dX8_recordOn_43 (lv_at hl 5 rfl) ?_
          refine lv_iadd B.1 B.2.1 dX8_recordOn_45 ?_
          refine lv_iload B.1 B.2.1 dX8_recordOn_46 (lv_at hl 0 rfl) ?_
          have q11 := hw.1
          replace hw := hw.2
          refine r_iast B hH (kb0) q11 dX8_recordOn_48 ?_
          clear hH
          intro H locs hH
          obtain ⟨h12, eh12⟩ : ∃ z : PH, z = up2 h2 b0 (((4 + (61 * b1)) + 1) + b4).toNatClampNeg 9 := ⟨_, rfl⟩
          rw [← eh12] at hH
          replace hw := hw h12 eh12
          refine lv_iload_n B.1 B.2.1 dX8_recordOn_49 rfl (lv_at hl 4 rfl) ?_
          refine lv_iload B.1 B.2.1 dX8_recordOn_50 (lv_at hl 0 rfl) ?_
          refine lv_iadd B.1 B.2.1 dX8_recordOn_52 ?_
          refine lv_topi (fun x13 ex13 => ?_)
          replace hw := hw x13 ex13
          refine lv_istore_n (lv' := [(3, .int x13), (5, .int 9), (0, .ref (zA Z b0)), (1, .int b1), (2, .int b2), (4, .int b4)]) B.1 B.2.1 dX8_recordOn_53 rfl hl (by decide) (by first | rfl | simp [va_re_cat, Value.category]) ?_
          clear hl
          intro ls hl
          refine lv_aload_n B.1 B.2.1 dX8_recordOn_54 rfl (lv_at hl 2 rfl) ?_
          refine lv_iconst (v := 1) B.1 B.2.1 dX8_recordOn_55 (by decide) ?_
          refine c_S_I (own := RX8) (As := [.ref (zA Z b0), .int 1]) (rest := []) B hH (cy_X8_goOn B.2.2.2.2.1) (ct_X8_goOn B.2.2.2.2.2.2.2 l b0 1 h12 _ _ (kb0) hw) ⟨⟨rfl, rfl⟩, Nat.le_of_ble_eq_true rfl, Nat.le_of_ble_eq_true rfl, Nat.zero_le _, Nat.zero_le _⟩ (tw_1126 B.2.2.2.2.1) rfl hl.1 rfl (Nat.le_of_ble_eq_true rfl) dX8_recordOn_56 ?_
          clear hw hH
          intro r15 h14 H locs hw hH
          refine lv_pop B.1 B.2.1 dX8_recordOn_59 rfl ?_
          obtain ⟨x16, ex16⟩ : ∃ y : Int32, y = b4 + 1 := ⟨_, rfl⟩
          replace hw := hw x16 ex16
          refine lv_iinc (v := x16) (lv' := [(4, .int x16), (3, .int x13), (5, .int 9), (0, .ref (zA Z b0)), (1, .int b1), (2, .int b2)]) B.1 B.2.1 dX8_recordOn_60 hl (k := 5) rfl (by rw [ex16]; rfl) (by decide) (by first | rfl | simp [va_re_cat, Value.category]) ?_
          clear hl
          intro ls hl
          refine lv_goto (tgt := 5) B.1 B.2.1 dX8_recordOn_63 (by decide) ?_
          exact ih x13 x16 h14  _ _ _ hw hH (lv_sub hl [3, 4, 5, 1, 0] rfl)
  refine lv_iconst (v := 0) B.1 B.2.1 dX8_recordOn_0 (by decide) ?_
  refine lv_istore_n (lv' := [(3, .int 0), (0, .ref (zA Z a0)), (1, .int a1), (2, .int a2)]) B.1 B.2.1 dX8_recordOn_1 rfl hl (by decide) (by first | rfl | simp [va_re_cat, Value.category]) ?_
  clear hl
  intro ls hl
  refine lv_iconst (v := 0) B.1 B.2.1 dX8_recordOn_2 (by decide) ?_
  refine lv_istore (lv' := [(4, .int 0), (3, .int 0), (0, .ref (zA Z a0)), (1, .int a1), (2, .int a2)]) B.1 B.2.1 dX8_recordOn_3 hl (by decide) (by first | rfl | simp [va_re_cat, Value.category]) ?_
  clear hl
  intro ls hl
  obtain ⟨n17, hw⟩ := hw
  exact L5 a0 a1 a2 (k0) n17 0 0 h  _ _ _ hw hH (lv_sub hl [2, 3, 4, 1, 0] rfl)
theorem cy_X8_append {s : State} {args : Array Value} (hG : GG s) : CYV s args yX8_append cX8_append 2 (some .int) 1 := CYV.of hG (fun _ _ hG => tw_1008 hG) (tw_8 hG) (tw_1006 hG) (tw_1007 hG) (by decide +kernel)
set_option maxRecDepth 100000 in
set_option maxHeartbeats 4000000 in
theorem ct_X8_append {Z : ZT} (hZ : ZO Z) (l : Launch) (a0 : Nat) (a1 : Int32) (h : PH) (sz : Nat) (Q : Int32 → PH → Prop) (k0 : kd a0 = 8) (hw : wp_X8_append a0 a1 h Q) : MI Z l yX8_append cX8_append 2 (some .int) ({ frames := 1, cells := 0, slots := 0, locals := 25 } : Room) h sz [.ref (zA Z a0), .int a1] Q := by
  refine open_M hZ (by decide +kernel) (by exact Nat.le_of_ble_eq_true rfl) ?_
  intro p e s m below meth c B hr hsz ls hl hH
  subst hsz
  have hl : lv_has ls 2 [(0, .ref (zA Z a0)), (1, .int a1)] := hl
  unfold wp_X8_append at hw
  refine lv_aload_n B.1 B.2.1 dX8_append_0 rfl (lv_at hl 0 rfl) ?_
  refine lv_iload_n B.1 B.2.1 dX8_append_1 rfl (lv_at hl 1 rfl) ?_
  refine lv_i2l B.1 B.2.1 dX8_append_2 rfl ?_
  refine lv_lconst (v := 0) B.1 B.2.1 dX8_append_3 (by decide) ?_
  refine lv_ldc2 (own := RX8) B.1 B.2.1 B.2.2.2.1 (tw_1009 B.2.2.2.2.1) dX8_append_4 ?_
  refine c_S_I (own := RX8) (As := [.long (a1.toInt64), .long 0, .long 255]) (rest := [.ref (zA Z a0)]) B hH (cy_X8_in B.2.2.2.2.1) (ct_X8_in B.2.2.2.2.2.2.2 l (a1.toInt64) 0 255 h _ _  hw) ⟨⟨rfl, rfl⟩, Nat.le_of_ble_eq_true rfl, Nat.le_of_ble_eq_true rfl, Nat.zero_le _, Nat.zero_le _⟩ (tw_1010 B.2.2.2.2.1) rfl hl.1 rfl (Nat.le_of_ble_eq_true rfl) dX8_append_7 ?_
  clear hw hH
  intro r2 h1 H locs hw hH
  refine lv_if_ne (tgt := 17) B.1 B.2.1 dX8_append_10 (by decide) (fun c3 => ?_) (fun c3 => ?_)
  · replace hw := hw.1 c3
    refine lv_aload_n B.1 B.2.1 dX8_append_17 rfl (lv_at hl 0 rfl) ?_
    refine r_get B hH (own := RX8) (kd_n B (k0) (by decide) (by decide)) (ct_8 (k0)) rfl (ul_8 B.2.2.2.2.1) 2 (by decide) rfl (tw_968 B.2.2.2.2.1) dX8_append_18 ?_
    refine lv_bipush (v := 120) B.1 B.2.1 dX8_append_21 (by decide) ?_
    refine lv_icmp_ne (tgt := 30) B.1 B.2.1 dX8_append_23 (by decide) (fun c4 => ?_) (fun c4 => ?_)
    · replace hw := hw.1 c4
      refine lv_iconst (v := 0) B.1 B.2.1 dX8_append_30 (by decide) ?_
      refine c_V_I (own := RX8) (As := [.int 0]) (rest := []) B hH (cy_X8_refused B.2.2.2.2.1) (ct_X8_refused B.2.2.2.2.2.2.2 l a0 0 h1 _ _ (k0) hw) ⟨⟨rfl, rfl⟩, Nat.le_of_ble_eq_true rfl, Nat.le_of_ble_eq_true rfl, Nat.zero_le _, Nat.zero_le _⟩ (rv_8 B hH (k0)) (tw_1013 B.2.2.2.2.1) rfl hl.1 rfl (Nat.le_of_ble_eq_true rfl) dX8_append_31 ?_
      clear hw hH
      intro r6 h5 H locs hw hH
      refine lv_if_eq (tgt := 39) B.1 B.2.1 dX8_append_34 (by decide) (fun c7 => ?_) (fun c7 => ?_)
      · replace hw := hw.1 c7
        refine lv_aload_n B.1 B.2.1 dX8_append_39 rfl (lv_at hl 0 rfl) ?_
        refine r_get B hH (own := RX8) (kd_n B (k0) (by decide) (by decide)) (ct_8 (k0)) rfl (ul_8 B.2.2.2.2.1) 1 (by decide) rfl (tw_967 B.2.2.2.2.1) dX8_append_40 ?_
        refine lv_aload_n B.1 B.2.1 dX8_append_43 rfl (lv_at hl 0 rfl) ?_
        refine r_get B hH (own := RX8) (kd_n B (k0) (by decide) (by decide)) (ct_8 (k0)) rfl (ul_8 B.2.2.2.2.1) 2 (by decide) rfl (tw_968 B.2.2.2.2.1) dX8_append_44 ?_
        refine lv_iload_n B.1 B.2.1 dX8_append_47 rfl (lv_at hl 1 rfl) ?_
        have q8 := hw.1
        replace hw := hw.2
        refine r_iast B hH (kf_8_1 (k0)) q8 dX8_append_48 ?_
        clear hH
        intro H locs hH
        obtain ⟨h9, eh9⟩ : ∃ z : PH, z = up2 h5 (a0 + 1) (h5 a0 2).toNatClampNeg a1 := ⟨_, rfl⟩
        rw [← eh9] at hH
        replace hw := hw h9 eh9
        refine lv_aload_n B.1 B.2.1 dX8_append_49 rfl (lv_at hl 0 rfl) ?_
        refine lv_dup B.1 B.2.1 dX8_append_50 rfl ?_
        refine r_get B hH (own := RX8) (kd_n B (k0) (by decide) (by decide)) (ct_8 (k0)) rfl (ul_8 B.2.2.2.2.1) 2 (by decide) rfl (tw_968 B.2.2.2.2.1) dX8_append_51 ?_
        refine lv_iconst (v := 1) B.1 B.2.1 dX8_append_54 (by decide) ?_
        refine lv_iadd B.1 B.2.1 dX8_append_55 ?_
        refine r_put B hH (own := RX8) (kd_n B (k0) (by decide) (by decide)) (ct_8 (k0)) rfl (ul_8 B.2.2.2.2.1) tyX8 tyX8_ok nmX8 2 (by decide) (ty := .int) rfl rfl rfl rfl (Nat.le_of_ble_eq_true rfl) (cs_8_2 (k0)) (tw_968 B.2.2.2.2.1) dX8_append_56 ?_
        clear hH
        intro H locs hH
        obtain ⟨h10, eh10⟩ : ∃ z : PH, z = up2 h9 a0 2 ((h9 a0 2) + 1) := ⟨_, rfl⟩
        rw [← eh10] at hH
        replace hw := hw h10 eh10
        refine lv_aload_n B.1 B.2.1 dX8_append_59 rfl (lv_at hl 0 rfl) ?_
        refine r_get B hH (own := RX8) (kd_n B (k0) (by decide) (by decide)) (ct_8 (k0)) rfl (ul_8 B.2.2.2.2.1) 2 (by decide) rfl (tw_968 B.2.2.2.2.1) dX8_append_60 ?_
        exact e_i B hr hH hw dX8_append_63
      · replace hw := hw.2 c7
        refine lv_iconst (v := 0) B.1 B.2.1 dX8_append_37 (by decide) ?_
        exact e_i B hr hH hw dX8_append_38
    · replace hw := hw.2 c4
      refine lv_iconst (v := 2) B.1 B.2.1 dX8_append_26 (by decide) ?_
      refine lv_goto (tgt := 31) B.1 B.2.1 dX8_append_27 (by decide) ?_
      refine c_V_I (own := RX8) (As := [.int 2]) (rest := []) B hH (cy_X8_refused B.2.2.2.2.1) (ct_X8_refused B.2.2.2.2.2.2.2 l a0 2 h1 _ _ (k0) hw) ⟨⟨rfl, rfl⟩, Nat.le_of_ble_eq_true rfl, Nat.le_of_ble_eq_true rfl, Nat.zero_le _, Nat.zero_le _⟩ (rv_8 B hH (k0)) (tw_1013 B.2.2.2.2.1) rfl hl.1 rfl (Nat.le_of_ble_eq_true rfl) dX8_append_31 ?_
      clear hw hH
      intro r12 h11 H locs hw hH
      refine lv_if_eq (tgt := 39) B.1 B.2.1 dX8_append_34 (by decide) (fun c13 => ?_) (fun c13 => ?_)
      · replace hw := hw.1 c13
        refine lv_aload_n B.1 B.2.1 dX8_append_39 rfl (lv_at hl 0 rfl) ?_
        refine r_get B hH (own := RX8) (kd_n B (k0) (by decide) (by decide)) (ct_8 (k0)) rfl (ul_8 B.2.2.2.2.1) 1 (by decide) rfl (tw_967 B.2.2.2.2.1) dX8_append_40 ?_
        refine lv_aload_n B.1 B.2.1 dX8_append_43 rfl (lv_at hl 0 rfl) ?_
        refine r_get B hH (own := RX8) (kd_n B (k0) (by decide) (by decide)) (ct_8 (k0)) rfl (ul_8 B.2.2.2.2.1) 2 (by decide) rfl (tw_968 B.2.2.2.2.1) dX8_append_44 ?_
        refine lv_iload_n B.1 B.2.1 dX8_append_47 rfl (lv_at hl 1 rfl) ?_
        have q14 := hw.1
        replace hw := hw.2
        refine r_iast B hH (kf_8_1 (k0)) q14 dX8_append_48 ?_
        clear hH
        intro H locs hH
        obtain ⟨h15, eh15⟩ : ∃ z : PH, z = up2 h11 (a0 + 1) (h11 a0 2).toNatClampNeg a1 := ⟨_, rfl⟩
        rw [← eh15] at hH
        replace hw := hw h15 eh15
        refine lv_aload_n B.1 B.2.1 dX8_append_49 rfl (lv_at hl 0 rfl) ?_
        refine lv_dup B.1 B.2.1 dX8_append_50 rfl ?_
        refine r_get B hH (own := RX8) (kd_n B (k0) (by decide) (by decide)) (ct_8 (k0)) rfl (ul_8 B.2.2.2.2.1) 2 (by decide) rfl (tw_968 B.2.2.2.2.1) dX8_append_51 ?_
        refine lv_iconst (v := 1) B.1 B.2.1 dX8_append_54 (by decide) ?_
        refine lv_iadd B.1 B.2.1 dX8_append_55 ?_
        refine r_put B hH (own := RX8) (kd_n B (k0) (by decide) (by decide)) (ct_8 (k0)) rfl (ul_8 B.2.2.2.2.1) tyX8 tyX8_ok nmX8 2 (by decide) (ty := .int) rfl rfl rfl rfl (Nat.le_of_ble_eq_true rfl) (cs_8_2 (k0)) (tw_968 B.2.2.2.2.1) dX8_append_56 ?_
        clear hH
        intro H locs hH
        obtain ⟨h16, eh16⟩ : ∃ z : PH, z = up2 h15 a0 2 ((h15 a0 2) + 1) := ⟨_, rfl⟩
        rw [← eh16] at hH
        replace hw := hw h16 eh16
        refine lv_aload_n B.1 B.2.1 dX8_append_59 rfl (lv_at hl 0 rfl) ?_
        refine r_get B hH (own := RX8) (kd_n B (k0) (by decide) (by decide)) (ct_8 (k0)) rfl (ul_8 B.2.2.2.2.1) 2 (by decide) rfl (tw_968 B.2.2.2.2.1) dX8_append_60 ?_
        exact e_i B hr hH hw dX8_append_63
      · replace hw := hw.2 c13
        refine lv_iconst (v := 0) B.1 B.2.1 dX8_append_37 (by decide) ?_
        exact e_i B hr hH hw dX8_append_38
  · replace hw := hw.2 c3
    refine lv_iconst (v := 1) B.1 B.2.1 dX8_append_13 (by decide) ?_
    refine lv_goto (tgt := 31) B.1 B.2.1 dX8_append_14 (by decide) ?_
    refine c_V_I (own := RX8) (As := [.int 1]) (rest := []) B hH (cy_X8_refused B.2.2.2.2.1) (ct_X8_refused B.2.2.2.2.2.2.2 l a0 1 h1 _ _ (k0) hw) ⟨⟨rfl, rfl⟩, Nat.le_of_ble_eq_true rfl, Nat.le_of_ble_eq_true rfl, Nat.zero_le _, Nat.zero_le _⟩ (rv_8 B hH (k0)) (tw_1013 B.2.2.2.2.1) rfl hl.1 rfl (Nat.le_of_ble_eq_true rfl) dX8_append_31 ?_
    clear hw hH
    intro r18 h17 H locs hw hH
    refine lv_if_eq (tgt := 39) B.1 B.2.1 dX8_append_34 (by decide) (fun c19 => ?_) (fun c19 => ?_)
    · replace hw := hw.1 c19
      refine lv_aload_n B.1 B.2.1 dX8_append_39 rfl (lv_at hl 0 rfl) ?_
      refine r_get B hH (own := RX8) (kd_n B (k0) (by decide) (by decide)) (ct_8 (k0)) rfl (ul_8 B.2.2.2.2.1) 1 (by decide) rfl (tw_967 B.2.2.2.2.1) dX8_append_40 ?_
      refine lv_aload_n B.1 B.2.1 dX8_append_43 rfl (lv_at hl 0 rfl) ?_
      refine r_get B hH (own := RX8) (kd_n B (k0) (by decide) (by decide)) (ct_8 (k0)) rfl (ul_8 B.2.2.2.2.1) 2 (by decide) rfl (tw_968 B.2.2.2.2.1) dX8_append_44 ?_
      refine lv_iload_n B.1 B.2.1 dX8_append_47 rfl (lv_at hl 1 rfl) ?_
      have q20 := hw.1
      replace hw := hw.2
      refine r_iast B hH (kf_8_1 (k0)) q20 dX8_append_48 ?_
      clear hH
      intro H locs hH
      obtain ⟨h21, eh21⟩ : ∃ z : PH, z = up2 h17 (a0 + 1) (h17 a0 2).toNatClampNeg a1 := ⟨_, rfl⟩
      rw [← eh21] at hH
      replace hw := hw h21 eh21
      refine lv_aload_n B.1 B.2.1 dX8_append_49 rfl (lv_at hl 0 rfl) ?_
      refine lv_dup B.1 B.2.1 dX8_append_50 rfl ?_
      refine r_get B hH (own := RX8) (kd_n B (k0) (by decide) (by decide)) (ct_8 (k0)) rfl (ul_8 B.2.2.2.2.1) 2 (by decide) rfl (tw_968 B.2.2.2.2.1) dX8_append_51 ?_
      refine lv_iconst (v := 1) B.1 B.2.1 dX8_append_54 (by decide) ?_
      refine lv_iadd B.1 B.2.1 dX8_append_55 ?_
      refine r_put B hH (own := RX8) (kd_n B (k0) (by decide) (by decide)) (ct_8 (k0)) rfl (ul_8 B.2.2.2.2.1) tyX8 tyX8_ok nmX8 2 (by decide) (ty := .int) rfl rfl rfl rfl (Nat.le_of_ble_eq_true rfl) (cs_8_2 (k0)) (tw_968 B.2.2.2.2.1) dX8_append_56 ?_
      clear hH
      intro H locs hH
      obtain ⟨h22, eh22⟩ : ∃ z : PH, z = up2 h21 a0 2 ((h21 a0 2) + 1) := ⟨_, rfl⟩
      rw [← eh22] at hH
      replace hw := hw h22 eh22
      refine lv_aload_n B.1 B.2.1 dX8_append_59 rfl (lv_at hl 0 rfl) ?_
      refine r_get B hH (own := RX8) (kd_n B (k0) (by decide) (by decide)) (ct_8 (k0)) rfl (ul_8 B.2.2.2.2.1) 2 (by decide) rfl (tw_968 B.2.2.2.2.1) dX8_append_60 ?_
      exact e_i B hr hH hw dX8_append_63
    · replace hw := hw.2 c19
      refine lv_iconst (v := 0) B.1 B.2.1 dX8_append_37 (by decide) ?_
      exact e_i B hr hH hw dX8_append_38
theorem cy_X8_clearText {s : State} {args : Array Value} (hG : GG s) : CYV s args yX8_clearText cX8_clearText 2 (some .int) 0 := CYV.of hG (fun _ _ hG => tw_1020 hG) (tw_8 hG) (tw_1018 hG) (tw_1019 hG) (by decide +kernel)
set_option maxRecDepth 100000 in
set_option maxHeartbeats 4000000 in
theorem ct_X8_clearText {Z : ZT} (hZ : ZO Z) (l : Launch) (a0 : Nat) (h : PH) (sz : Nat) (Q : Int32 → PH → Prop) (k0 : kd a0 = 8) (hw : wp_X8_clearText a0 h Q) : MI Z l yX8_clearText cX8_clearText 2 (some .int) ({ frames := 0, cells := 0, slots := 0, locals := 0 } : Room) h sz [.ref (zA Z a0)] Q := by
  refine open_M hZ (by decide +kernel) (by exact Nat.le_of_ble_eq_true rfl) ?_
  intro p e s m below meth c B hr hsz ls hl hH
  subst hsz
  have hl : lv_has ls 2 [(0, .ref (zA Z a0))] := hl
  unfold wp_X8_clearText at hw
  refine lv_aload_n B.1 B.2.1 dX8_clearText_0 rfl (lv_at hl 0 rfl) ?_
  refine lv_iconst (v := 0) B.1 B.2.1 dX8_clearText_1 (by decide) ?_
  refine r_put B hH (own := RX8) (kd_n B (k0) (by decide) (by decide)) (ct_8 (k0)) rfl (ul_8 B.2.2.2.2.1) tyX8 tyX8_ok nmX8 0 (by decide) (ty := .int) rfl rfl rfl rfl (Nat.le_of_ble_eq_true rfl) (cs_8_0 (k0)) (tw_966 B.2.2.2.2.1) dX8_clearText_2 ?_
  clear hH
  intro H locs hH
  obtain ⟨h1, eh1⟩ : ∃ z : PH, z = up2 h a0 0 0 := ⟨_, rfl⟩
  rw [← eh1] at hH
  replace hw := hw h1 eh1
  refine lv_aload_n B.1 B.2.1 dX8_clearText_5 rfl (lv_at hl 0 rfl) ?_
  refine r_get B hH (own := RX8) (kd_n B (k0) (by decide) (by decide)) (ct_8 (k0)) rfl (ul_8 B.2.2.2.2.1) 2 (by decide) rfl (tw_968 B.2.2.2.2.1) dX8_clearText_6 ?_
  refine lv_topi (fun x2 ex2 => ?_)
  replace hw := hw x2 ex2
  refine lv_istore_n (lv' := [(1, .int x2), (0, .ref (zA Z a0))]) B.1 B.2.1 dX8_clearText_9 rfl hl (by decide) (by first | rfl | simp [va_re_cat, Value.category]) ?_
  clear hl
  intro ls hl
  refine lv_aload_n B.1 B.2.1 dX8_clearText_10 rfl (lv_at hl 1 rfl) ?_
  refine lv_iconst (v := 0) B.1 B.2.1 dX8_clearText_11 (by decide) ?_
  refine r_put B hH (own := RX8) (kd_n B (k0) (by decide) (by decide)) (ct_8 (k0)) rfl (ul_8 B.2.2.2.2.1) tyX8 tyX8_ok nmX8 2 (by decide) (ty := .int) rfl rfl rfl rfl (Nat.le_of_ble_eq_true rfl) (cs_8_2 (k0)) (tw_968 B.2.2.2.2.1) dX8_clearText_12 ?_
  clear hH
  intro H locs hH
  obtain ⟨h3, eh3⟩ : ∃ z : PH, z = up2 h1 a0 2 0 := ⟨_, rfl⟩
  rw [← eh3] at hH
  replace hw := hw h3 eh3
  refine lv_iload_n B.1 B.2.1 dX8_clearText_15 rfl (lv_at hl 0 rfl) ?_
  exact e_i B hr hH hw dX8_clearText_16
theorem cy_X8_figures {s : State} {args : Array Value} (hG : GG s) : CYV s args yX8_figures cX8_figures 9 (some .int) 4 := CYV.of hG (fun _ _ hG => tw_1036 hG) (tw_8 hG) (tw_1035 hG) (tp_65 hG) (by decide +kernel)
set_option maxRecDepth 100000 in
set_option maxHeartbeats 4000000 in
theorem ct_X8_figures {Z : ZT} (hZ : ZO Z) (l : Launch) (a0 : Nat) (a1 : Int32) (a2 : Int32) (a3 : Int32) (a4 : Int32) (h : PH) (sz : Nat) (Q : Int32 → PH → Prop) (k0 : kd a0 = 8) (hw : wp_X8_figures a0 a1 a2 a3 a4 h Q) : MI Z l yX8_figures cX8_figures 9 (some .int) ({ frames := 1, cells := 0, slots := 0, locals := 25 } : Room) h sz [.ref (zA Z a0), .int a1, .int a2, .int a3, .int a4] Q := by
  refine open_M hZ (by decide +kernel) (by exact Nat.le_of_ble_eq_true rfl) ?_
  intro p e s m below meth c B hr hsz ls hl hH
  subst hsz
  have hl : lv_has ls 9 [(0, .ref (zA Z a0)), (1, .int a1), (2, .int a2), (3, .int a3), (4, .int a4)] := hl
  unfold wp_X8_figures at hw
  have L26 : ∀ (b0 : Nat) (b1 : Int32) (b3 : Int32) (b4 : Int32), kd b0 = 8 → ∀ (n : Nat) (b5 : Int32) (b6 : Int32) (h : PH), ∀ (H : Heap) (locs : List Loc) (ls : Array Slot), wp_X8_figures_b26 b0 b1 b3 b4 Q n b5 b6 h → HH Z s h H locs → lv_has ls 9 [(0, .ref (zA Z b0)), (1, .int b1), (3, .int b3), (4, .int b4), (5, .int b5), (6, .int b6)] → W p l e ({ frames := 1, cells := 0, slots := 0, locals := 25 } : Room) s m ([.ref (zA Z a0), .int a1, .int a2, .int a3, .int a4]).toArray below meth c H locs 0 0 (MQ below (va_Qi Q (BZ Z) (fr Z s.heap.size)) ([.ref (zA Z a0), .int a1, .int a2, .int a3, .int a4]).toArray s 0 0 (fr Z s.heap.size)) (F0 m 26 ls []) := by
    intro b0 b1 b3 b4 kb0 n
    induction n with
    | zero => intro b5 b6 h H locs ls hw hH hl; exact absurd hw id
    | succ n ih =>
      intro b5 b6 h H locs ls hw hH hl
      unfold wp_X8_figures_b26 at hw
      refine lv_iload B.1 B.2.1 dX8_figures_26 (lv_at hl 5 rfl) ?_
      refine lv_if_le (tgt := 132) B.1 B.2.1 dX8_figures_28 (by decide) (fun c3 => ?_) (fun c3 => ?_)
      · replace hw := hw.1 c3
        refine lv_iload_n B.1 B.2.1 dX8_figures_132 rfl (lv_at hl 1 rfl) ?_
        refine lv_iconst (v := (-1)) B.1 B.2.1 dX8_figures_133 (by decide) ?_
        refine lv_icmp_ne (tgt := 141) B.1 B.2.1 dX8_figures_134 (by decide) (fun c4 => ?_) (fun c4 => ?_)
        · replace hw := hw.1 c4
          refine lv_iload B.1 B.2.1 dX8_figures_141 (lv_at hl 4 rfl) ?_
          exact e_i B hr hH hw dX8_figures_143
        · replace hw := hw.2 c4
          refine lv_iconst (v := (-1)) B.1 B.2.1 dX8_figures_137 (by decide) ?_
          refine lv_goto (tgt := 143) B.1 B.2.1 dX8_figures_138 (by decide) ?_
          exact e_i B hr hH hw dX8_figures_143
      · replace hw := hw.2 c3
        refine lv_iload_n B.1 B.2.1 dX8_figures_31 rfl (lv_at hl 1 rfl) ?_
        refine lv_iconst (v := (-1)) B.1 B.2.1 dX8_figures_32 (by decide) ?_
        refine lv_icmp_eq (tgt := 132) B.1 B.2.1 dX8_figures_33 (by decide) (fun c5 => ?_) (fun c5 => ?_)
        · replace hw := hw.1 c5
          refine lv_iload_n B.1 B.2.1 dX8_figures_132 rfl (lv_at hl 1 rfl) ?_
          refine lv_iconst (v := (-1)) B.1 B.2.1 dX8_figures_133 (by decide) ?_
          refine lv_icmp_ne (tgt := 141) B.1 B.2.1 dX8_figures_134 (by decide) (fun c6 => ?_) (fun c6 => ?_)
          · replace hw := hw.1 c6
            refine lv_iload B.1 B.2.1 dX8_figures_141 (lv_at hl 4 rfl) ?_
            exact e_i B hr hH hw dX8_figures_143
          · replace hw := hw.2 c6
            refine lv_iconst (v := (-1)) B.1 B.2.1 dX8_figures_137 (by decide) ?_
            refine lv_goto (tgt := 143) B.1 B.2.1 dX8_figures_138 (by decide) ?_
            exact e_i B hr hH hw dX8_figures_143
        · replace hw := hw.2 c5
          refine lv_aload_n B.1 B.2.1 dX8_figures_36 rfl (lv_at hl 0 rfl) ?_
          refine r_get B hH (own := RX8) (kd_n B (kb0) (by decide) (by decide)) (ct_8 (kb0)) rfl (ul_8 B.2.2.2.2.1) 9 (by decide) rfl (tw_975 B.2.2.2.2.1) dX8_figures_37 ?_
          refine lv_aload_n B.1 B.2.1 dX8_figures_40 rfl (lv_at hl 0 rfl) ?_
          refine r_get B hH (own := RX8) (kd_n B (kb0) (by decide) (by decide)) (ct_8 (kb0)) rfl (ul_8 B.2.2.2.2.1) 2 (by decide) rfl (tw_968 B.2.2.2.2.1) dX8_figures_41 ?_
          refine lv_icmp_ge (tgt := 62) B.1 B.2.1 dX8_figures_44 (by decide) (fun c7 => ?_) (fun c7 => ?_)
          · replace hw := hw.1 c7
            refine lv_iconst (v := (-1)) B.1 B.2.1 dX8_figures_62 (by decide) ?_
            refine lv_istore (lv' := [(7, .int (-1)), (0, .ref (zA Z b0)), (1, .int b1), (3, .int b3), (4, .int b4), (5, .int b5), (6, .int b6)]) B.1 B.2.1 dX8_figures_63 hl (by decide) (by first | rfl | simp [va_re_cat, Value.category]) ?_
            clear hl
            intro ls hl
            refine lv_iload B.1 B.2.1 dX8_figures_65 (lv_at hl 5 rfl) ?_
            refine lv_iload B.1 B.2.1 dX8_figures_67 (lv_at hl 0 rfl) ?_
            refine lv_iload B.1 B.2.1 dX8_figures_69 (lv_at hl 6 rfl) ?_
            refine lv_imul B.1 B.2.1 dX8_figures_71 ?_
            refine lv_iadd B.1 B.2.1 dX8_figures_72 ?_
            refine lv_topi (fun x8 ex8 => ?_)
            replace hw := hw x8 ex8
            refine lv_istore (lv' := [(8, .int x8), (7, .int (-1)), (0, .ref (zA Z b0)), (1, .int b1), (3, .int b3), (4, .int b4), (5, .int b5), (6, .int b6)]) B.1 B.2.1 dX8_figures_73 hl (by decide) (by first | rfl | simp [va_re_cat, Value.category]) ?_
            clear hl
            intro ls hl
            refine lv_iload B.1 B.2.1 dX8_figures_75 (lv_at hl 1 rfl) ?_
            refine lv_i2l (v := (-1)) B.1 B.2.1 dX8_figures_77 (by decide) ?_
            refine lv_lconst (v := 0) B.1 B.2.1 dX8_figures_78 (by decide) ?_
            refine lv_ldc2 (own := RX8) B.1 B.2.1 B.2.2.2.1 (tw_1037 B.2.2.2.2.1) dX8_figures_79 ?_
            refine c_S_I (own := RX8) (As := [.long (-1), .long 0, .long 9]) (rest := []) B hH (cy_X8_in B.2.2.2.2.1) (ct_X8_in B.2.2.2.2.2.2.2 l (-1) 0 9 h _ _  hw) ⟨⟨rfl, rfl⟩, Nat.le_of_ble_eq_true rfl, Nat.le_of_ble_eq_true rfl, Nat.zero_le _, Nat.zero_le _⟩ (tw_1010 B.2.2.2.2.1) rfl hl.1 rfl (Nat.le_of_ble_eq_true rfl) dX8_figures_82 ?_
            clear hw hH
            intro r10 h9 H locs hw hH
            refine lv_if_eq (tgt := 106) B.1 B.2.1 dX8_figures_85 (by decide) (fun c11 => ?_) (fun c11 => ?_)
            · replace hw := hw.1 c11
              refine lv_iconst (v := (-1)) B.1 B.2.1 dX8_figures_106 (by decide) ?_
              exact e_i B hr hH hw dX8_figures_107
            · replace hw := hw.2 c11
              refine lv_iload B.1 B.2.1 dX8_figures_88 (lv_at hl 0 rfl) ?_
              refine lv_iload B.1 B.2.1 dX8_figures_90 (lv_at hl 5 rfl) ?_
              refine lv_icmp_gt (tgt := 106) B.1 B.2.1 dX8_figures_92 (by decide) (fun c12 => ?_) (fun c12 => ?_)
              · replace hw := hw.1 c12
                refine lv_iconst (v := (-1)) B.1 B.2.1 dX8_figures_106 (by decide) ?_
                exact e_i B hr hH hw dX8_figures_107
              · replace hw := hw.2 c12
                refine lv_iload B.1 B.2.1 dX8_figures_95 (lv_at hl 0 rfl) ?_
                refine lv_iload B.1 B.2.1 dX8_figures_97 (lv_at hl 7 rfl) ?_
                refine lv_iadd B.1 B.2.1 dX8_figures_99 ?_
                refine lv_iconst (v := 1) B.1 B.2.1 dX8_figures_100 (by decide) ?_
                refine lv_isub B.1 B.2.1 dX8_figures_101 ?_
                refine lv_iload_n B.1 B.2.1 dX8_figures_102 rfl (lv_at hl 4 rfl) ?_
                refine lv_icmp_ge (tgt := 108) B.1 B.2.1 dX8_figures_103 (by decide) (fun c13 => ?_) (fun c13 => ?_)
                · replace hw := hw.1 c13
                  refine lv_iload B.1 B.2.1 dX8_figures_108 (lv_at hl 0 rfl) ?_
                  refine lv_istore (lv' := [(5, .int x8), (8, .int x8), (7, .int (-1)), (0, .ref (zA Z b0)), (1, .int b1), (3, .int b3), (4, .int b4), (6, .int b6)]) B.1 B.2.1 dX8_figures_110 hl (by decide) (by first | rfl | simp [va_re_cat, Value.category]) ?_
                  clear hl
                  intro ls hl
                  refine lv_aload_n B.1 B.2.1 dX8_figures_112 rfl (lv_at hl 3 rfl) ?_
                  refine lv_dup B.1 B.2.1 dX8_figures_113 rfl ?_
                  refine r_get B hH (own := RX8) (kd_n B (kb0) (by decide) (by decide)) (ct_8 (kb0)) rfl (ul_8 B.2.2.2.2.1) 9 (by decide) rfl (tw_975 B.2.2.2.2.1) dX8_figures_114 ?_
                  refine lv_iconst (v := 1) B.1 B.2.1 dX8_figures_117 (by decide) ?_
                  refine lv_iadd B.1 B.2.1 dX8_figures_118 ?_
                  refine r_put B hH (own := RX8) (kd_n B (kb0) (by decide) (by decide)) (ct_8 (kb0)) rfl (ul_8 B.2.2.2.2.1) tyX8 tyX8_ok nmX8 9 (by decide) (ty := .int) rfl rfl rfl rfl (Nat.le_of_ble_eq_true rfl) (cs_8_9 (kb0)) (tw_975 B.2.2.2.2.1) dX8_figures_119 ?_
                  clear hH
                  intro H locs hH
                  obtain ⟨h14, eh14⟩ : ∃ z : PH, z = up2 h9 b0 9 ((h9 b0 9) + 1) := ⟨_, rfl⟩
                  rw [← eh14] at hH
                  replace hw := hw h14 eh14
                  refine lv_iload B.1 B.2.1 dX8_figures_122 (lv_at hl 7 rfl) ?_
                  refine lv_bipush (v := 10) B.1 B.2.1 dX8_figures_124 (by decide) ?_
                  refine lv_idiv B.1 B.2.1 dX8_figures_126 (by decide) ?_
                  refine lv_topi (fun x15 ex15 => ?_)
                  replace hw := hw x15 ex15
                  refine lv_istore (lv' := [(6, .int x15), (5, .int x8), (8, .int x8), (7, .int (-1)), (0, .ref (zA Z b0)), (1, .int b1), (3, .int b3), (4, .int b4)]) B.1 B.2.1 dX8_figures_127 hl (by decide) (by first | rfl | simp [va_re_cat, Value.category]) ?_
                  clear hl
                  intro ls hl
                  refine lv_goto (tgt := 26) B.1 B.2.1 dX8_figures_129 (by decide) ?_
                  exact ih x8 x15 h14  _ _ _ hw hH (lv_sub hl [4, 5, 6, 7, 1, 0] rfl)
                · replace hw := hw.2 c13
                  refine lv_iconst (v := (-1)) B.1 B.2.1 dX8_figures_106 (by decide) ?_
                  exact e_i B hr hH hw dX8_figures_107
          · replace hw := hw.2 c7
            refine lv_aload_n B.1 B.2.1 dX8_figures_47 rfl (lv_at hl 0 rfl) ?_
            refine r_get B hH (own := RX8) (kd_n B (kb0) (by decide) (by decide)) (ct_8 (kb0)) rfl (ul_8 B.2.2.2.2.1) 1 (by decide) rfl (tw_967 B.2.2.2.2.1) dX8_figures_48 ?_
            refine lv_aload_n B.1 B.2.1 dX8_figures_51 rfl (lv_at hl 0 rfl) ?_
            refine r_get B hH (own := RX8) (kd_n B (kb0) (by decide) (by decide)) (ct_8 (kb0)) rfl (ul_8 B.2.2.2.2.1) 9 (by decide) rfl (tw_975 B.2.2.2.2.1) dX8_figures_52 ?_
            have q16 := hw.1
            replace hw := hw.2
            refine r_iald B hH (kf_8_1 (kb0)) q16 dX8_figures_55 ?_
            refine lv_bipush (v := 48) B.1 B.2.1 dX8_figures_56 (by decide) ?_
            refine lv_isub B.1 B.2.1 dX8_figures_58 ?_
            refine lv_goto (tgt := 63) B.1 B.2.1 dX8_figures_59 (by decide) ?_
            refine lv_topi (fun x17 ex17 => ?_)
            replace hw := hw x17 ex17
            refine lv_istore (lv' := [(7, .int x17), (0, .ref (zA Z b0)), (1, .int b1), (3, .int b3), (4, .int b4), (5, .int b5), (6, .int b6)]) B.1 B.2.1 dX8_figures_63 hl (by decide) (by first | rfl | simp [va_re_cat, Value.category]) ?_
            clear hl
            intro ls hl
            refine lv_iload B.1 B.2.1 dX8_figures_65 (lv_at hl 5 rfl) ?_
            refine lv_iload B.1 B.2.1 dX8_figures_67 (lv_at hl 0 rfl) ?_
            refine lv_iload B.1 B.2.1 dX8_figures_69 (lv_at hl 6 rfl) ?_
            refine lv_imul B.1 B.2.1 dX8_figures_71 ?_
            refine lv_iadd B.1 B.2.1 dX8_figures_72 ?_
            refine lv_topi (fun x18 ex18 => ?_)
            replace hw := hw x18 ex18
            refine lv_istore (lv' := [(8, .int x18), (7, .int x17), (0, .ref (zA Z b0)), (1, .int b1), (3, .int b3), (4, .int b4), (5, .int b5), (6, .int b6)]) B.1 B.2.1 dX8_figures_73 hl (by decide) (by first | rfl | simp [va_re_cat, Value.category]) ?_
            clear hl
            intro ls hl
            refine lv_iload B.1 B.2.1 dX8_figures_75 (lv_at hl 1 rfl) ?_
            refine lv_i2l B.1 B.2.1 dX8_figures_77 rfl ?_
            refine lv_lconst (v := 0) B.1 B.2.1 dX8_figures_78 (by decide) ?_
            refine lv_ldc2 (own := RX8) B.1 B.2.1 B.2.2.2.1 (tw_1037 B.2.2.2.2.1) dX8_figures_79 ?_
            refine c_S_I (own := RX8) (As := [.long (x17.toInt64), .long 0, .long 9]) (rest := []) B hH (cy_X8_in B.2.2.2.2.1) (ct_X8_in B.2.2.2.2.2.2.2 l (x17.toInt64) 0 9 h _ _  hw) ⟨⟨rfl, rfl⟩, Nat.le_of_ble_eq_true rfl, Nat.le_of_ble_eq_true rfl, Nat.zero_le _, Nat.zero_le _⟩ (tw_1010 B.2.2.2.2.1) rfl hl.1 rfl (Nat.le_of_ble_eq_true rfl) dX8_figures_82 ?_
            clear hw hH
            intro r20 h19 H locs hw hH
            refine lv_if_eq (tgt := 106) B.1 B.2.1 dX8_figures_85 (by decide) (fun c21 => ?_) (fun c21 => ?_)
            · replace hw := hw.1 c21
              refine lv_iconst (v := (-1)) B.1 B.2.1 dX8_figures_106 (by decide) ?_
              exact e_i B hr hH hw dX8_figures_107
            · replace hw := hw.2 c21
              refine lv_iload B.1 B.2.1 dX8_figures_88 (lv_at hl 0 rfl) ?_
              refine lv_iload B.1 B.2.1 dX8_figures_90 (lv_at hl 5 rfl) ?_
              refine lv_icmp_gt (tgt := 106) B.1 B.2.1 dX8_figures_92 (by decide) (fun c22 => ?_) (fun c22 => ?_)
              · replace hw := hw.1 c22
                refine lv_iconst (v := (-1)) B.1 B.2.1 dX8_figures_106 (by decide) ?_
                exact e_i B hr hH hw dX8_figures_107
              · replace hw := hw.2 c22
                refine lv_iload B.1 B.2.1 dX8_figures_95 (lv_at hl 0 rfl) ?_
                refine lv_iload B.1 B.2.1 dX8_figures_97 (lv_at hl 7 rfl) ?_
                refine lv_iadd B.1 B.2.1 dX8_figures_99 ?_
                refine lv_iconst (v := 1) B.1 B.2.1 dX8_figures_100 (by decide) ?_
                refine lv_isub B.1 B.2.1 dX8_figures_101 ?_
                refine lv_iload_n B.1 B.2.1 dX8_figures_102 rfl (lv_at hl 4 rfl) ?_
                refine lv_icmp_ge (tgt := 108) B.1 B.2.1 dX8_figures_103 (by decide) (fun c23 => ?_) (fun c23 => ?_)
                · replace hw := hw.1 c23
                  refine lv_iload B.1 B.2.1 dX8_figures_108 (lv_at hl 0 rfl) ?_
                  refine lv_istore (lv' := [(5, .int x18), (8, .int x18), (7, .int x17), (0, .ref (zA Z b0)), (1, .int b1), (3, .int b3), (4, .int b4), (6, .int b6)]) B.1 B.2.1 dX8_figures_110 hl (by decide) (by first | rfl | simp [va_re_cat, Value.category]) ?_
                  clear hl
                  intro ls hl
                  refine lv_aload_n B.1 B.2.1 dX8_figures_112 rfl (lv_at hl 3 rfl) ?_
                  refine lv_dup B.1 B.2.1 dX8_figures_113 rfl ?_
                  refine r_get B hH (own := RX8) (kd_n B (kb0) (by decide) (by decide)) (ct_8 (kb0)) rfl (ul_8 B.2.2.2.2.1) 9 (by decide) rfl (tw_975 B.2.2.2.2.1) dX8_figures_114 ?_
                  refine lv_iconst (v := 1) B.1 B.2.1 dX8_figures_117 (by decide) ?_
                  refine lv_iadd B.1 B.2.1 dX8_figures_118 ?_
                  refine r_put B hH (own := RX8) (kd_n B (kb0) (by decide) (by decide)) (ct_8 (kb0)) rfl (ul_8 B.2.2.2.2.1) tyX8 tyX8_ok nmX8 9 (by decide) (ty := .int) rfl rfl rfl rfl (Nat.le_of_ble_eq_true rfl) (cs_8_9 (kb0)) (tw_975 B.2.2.2.2.1) dX8_figures_119 ?_
                  clear hH
                  intro H locs hH
                  obtain ⟨h24, eh24⟩ : ∃ z : PH, z = up2 h19 b0 9 ((h19 b0 9) + 1) := ⟨_, rfl⟩
                  rw [← eh24] at hH
                  replace hw := hw h24 eh24
                  refine lv_iload B.1 B.2.1 dX8_figures_122 (lv_at hl 7 rfl) ?_
                  refine lv_bipush (v := 10) B.1 B.2.1 dX8_figures_124 (by decide) ?_
                  refine lv_idiv B.1 B.2.1 dX8_figures_126 (by decide) ?_
                  refine lv_topi (fun x25 ex25 => ?_)
                  replace hw := hw x25 ex25
                  refine lv_istore (lv' := [(6, .int x25), (5, .int x18), (8, .int x18), (7, .int x17), (0, .ref (zA Z b0)), (1, .int b1), (3, .int b3), (4, .int b4)]) B.1 B.2.1 dX8_figures_127 hl (by decide) (by first | rfl | simp [va_re_cat, Value.category]) ?_
                  clear hl
                  intro ls hl
                  refine lv_goto (tgt := 26) B.1 B.2.1 dX8_figures_129 (by decide) ?_
                  exact ih x18 x25 h24  _ _ _ hw hH (lv_sub hl [4, 5, 6, 7, 1, 0] rfl)
                · replace hw := hw.2 c23
                  refine lv_iconst (v := (-1)) B.1 B.2.1 dX8_figures_106 (by decide) ?_
                  exact e_i B hr hH hw dX8_figures_107
  refine lv_iconst (v := 0) B.1 B.2.1 dX8_figures_0 (by decide) ?_
  refine lv_istore (lv' := [(5, .int 0), (0, .ref (zA Z a0)), (1, .int a1), (2, .int a2), (3, .int a3), (4, .int a4)]) B.1 B.2.1 dX8_figures_1 hl (by decide) (by first | rfl | simp [va_re_cat, Value.category]) ?_
  clear hl
  intro ls hl
  refine lv_iload_n B.1 B.2.1 dX8_figures_3 rfl (lv_at hl 3 rfl) ?_
  refine lv_iconst (v := 3) B.1 B.2.1 dX8_figures_4 (by decide) ?_
  refine lv_icmp_ne (tgt := 13) B.1 B.2.1 dX8_figures_5 (by decide) (fun c1 => ?_) (fun c1 => ?_)
  · replace hw := hw.1 c1
    refine lv_iload_n B.1 B.2.1 dX8_figures_13 rfl (lv_at hl 3 rfl) ?_
    refine lv_iconst (v := 2) B.1 B.2.1 dX8_figures_14 (by decide) ?_
    refine lv_icmp_ne (tgt := 23) B.1 B.2.1 dX8_figures_15 (by decide) (fun c2 => ?_) (fun c2 => ?_)
    · replace hw := hw.1 c2
      refine lv_iconst (v := 1) B.1 B.2.1 dX8_figures_23 (by decide) ?_
      refine lv_istore (lv' := [(6, .int 1), (5, .int 0), (0, .ref (zA Z a0)), (1, .int a1), (2, .int a2), (3, .int a3), (4, .int a4)]) B.1 B.2.1 dX8_figures_24 hl (by decide) (by first | rfl | simp [va_re_cat, Value.category]) ?_
      clear hl
      intro ls hl
      obtain ⟨n26, hw⟩ := hw
      exact L26 a0 a1 a3 a4 (k0) n26 0 1 h  _ _ _ hw hH (lv_sub hl [2, 3, 5, 6, 1, 0] rfl)
    · replace hw := hw.2 c2
      refine lv_bipush (v := 10) B.1 B.2.1 dX8_figures_18 (by decide) ?_
      refine lv_goto (tgt := 24) B.1 B.2.1 dX8_figures_20 (by decide) ?_
      refine lv_istore (lv' := [(6, .int 10), (5, .int 0), (0, .ref (zA Z a0)), (1, .int a1), (2, .int a2), (3, .int a3), (4, .int a4)]) B.1 B.2.1 dX8_figures_24 hl (by decide) (by first | rfl | simp [va_re_cat, Value.category]) ?_
      clear hl
      intro ls hl
      obtain ⟨n27, hw⟩ := hw
      exact L26 a0 a1 a3 a4 (k0) n27 0 10 h  _ _ _ hw hH (lv_sub hl [2, 3, 5, 6, 1, 0] rfl)
  · replace hw := hw.2 c1
    refine lv_bipush (v := 100) B.1 B.2.1 dX8_figures_8 (by decide) ?_
    refine lv_goto (tgt := 24) B.1 B.2.1 dX8_figures_10 (by decide) ?_
    refine lv_istore (lv' := [(6, .int 100), (5, .int 0), (0, .ref (zA Z a0)), (1, .int a1), (2, .int a2), (3, .int a3), (4, .int a4)]) B.1 B.2.1 dX8_figures_24 hl (by decide) (by first | rfl | simp [va_re_cat, Value.category]) ?_
    clear hl
    intro ls hl
    obtain ⟨n28, hw⟩ := hw
    exact L26 a0 a1 a3 a4 (k0) n28 0 100 h  _ _ _ hw hH (lv_sub hl [2, 3, 5, 6, 1, 0] rfl)
theorem cy_X8_done {s : State} {args : Array Value} (hG : GG s) : CYV s args yX8_done cX8_done 2 (some .boolean) 1 := CYV.of hG (fun _ _ hG => tw_1044 hG) (tw_8 hG) (tw_1043 hG) (tp_66 hG) (by decide +kernel)
set_option maxRecDepth 100000 in
set_option maxHeartbeats 4000000 in
theorem ct_X8_done {Z : ZT} (hZ : ZO Z) (l : Launch) (a0 : Nat) (a1 : Int32) (h : PH) (sz : Nat) (Q : Int32 → PH → Prop) (k0 : kd a0 = 8) (hw : wp_X8_done a0 a1 h Q) : MI Z l yX8_done cX8_done 2 (some .boolean) ({ frames := 0, cells := 0, slots := 0, locals := 0 } : Room) h sz [.ref (zA Z a0), .int a1] Q := by
  refine open_M hZ (by decide +kernel) (by exact Nat.le_of_ble_eq_true rfl) ?_
  intro p e s m below meth c B hr hsz ls hl hH
  subst hsz
  have hl : lv_has ls 2 [(0, .ref (zA Z a0)), (1, .int a1)] := hl
  unfold wp_X8_done at hw
  refine lv_aload_n B.1 B.2.1 dX8_done_0 rfl (lv_at hl 0 rfl) ?_
  refine lv_dup B.1 B.2.1 dX8_done_1 rfl ?_
  refine r_get B hH (own := RX8) (kd_n B (k0) (by decide) (by decide)) (ct_8 (k0)) rfl (ul_8 B.2.2.2.2.1) 10 (by decide) rfl (tw_976 B.2.2.2.2.1) dX8_done_2 ?_
  refine lv_iload_n B.1 B.2.1 dX8_done_5 rfl (lv_at hl 1 rfl) ?_
  refine lv_if_eq (tgt := 13) B.1 B.2.1 dX8_done_6 (by decide) (fun c1 => ?_) (fun c1 => ?_)
  · replace hw := hw.1 c1
    refine lv_iconst (v := 1) B.1 B.2.1 dX8_done_13 (by decide) ?_
    refine lv_iadd B.1 B.2.1 dX8_done_14 ?_
    refine r_put B hH (own := RX8) (kd_n B (k0) (by decide) (by decide)) (ct_8 (k0)) rfl (ul_8 B.2.2.2.2.1) tyX8 tyX8_ok nmX8 10 (by decide) (ty := .int) rfl rfl rfl rfl (Nat.le_of_ble_eq_true rfl) (cs_8_10 (k0)) (tw_976 B.2.2.2.2.1) dX8_done_15 ?_
    clear hH
    intro H locs hH
    obtain ⟨h2, eh2⟩ : ∃ z : PH, z = up2 h a0 10 ((h a0 10) + 1) := ⟨_, rfl⟩
    rw [← eh2] at hH
    replace hw := hw h2 eh2
    refine lv_iconst (v := 1) B.1 B.2.1 dX8_done_18 (by decide) ?_
    exact e_z B hr (by decide) hH hw dX8_done_19
  · replace hw := hw.2 c1
    refine lv_iconst (v := 0) B.1 B.2.1 dX8_done_9 (by decide) ?_
    refine lv_goto (tgt := 14) B.1 B.2.1 dX8_done_10 (by decide) ?_
    refine lv_iadd B.1 B.2.1 dX8_done_14 ?_
    refine r_put B hH (own := RX8) (kd_n B (k0) (by decide) (by decide)) (ct_8 (k0)) rfl (ul_8 B.2.2.2.2.1) tyX8 tyX8_ok nmX8 10 (by decide) (ty := .int) rfl rfl rfl rfl (Nat.le_of_ble_eq_true rfl) (cs_8_10 (k0)) (tw_976 B.2.2.2.2.1) dX8_done_15 ?_
    clear hH
    intro H locs hH
    obtain ⟨h3, eh3⟩ : ∃ z : PH, z = up2 h a0 10 ((h a0 10) + 0) := ⟨_, rfl⟩
    rw [← eh3] at hH
    replace hw := hw h3 eh3
    refine lv_iconst (v := 1) B.1 B.2.1 dX8_done_18 (by decide) ?_
    exact e_z B hr (by decide) hH hw dX8_done_19
theorem cy_X8_reelSign {s : State} {args : Array Value} (hG : GG s) : CYV s args yX8_reelSign cX8_reelSign 2 (some .int) 1 := CYV.of hG (fun _ _ hG => tw_1052 hG) (tw_8 hG) (tw_1051 hG) (tp_68 hG) (by decide +kernel)
set_option maxRecDepth 100000 in
set_option maxHeartbeats 4000000 in
theorem ct_X8_reelSign {Z : ZT} (hZ : ZO Z) (l : Launch) (a0 : Nat) (a1 : Int32) (h : PH) (sz : Nat) (Q : Int32 → PH → Prop) (k0 : kd a0 = 8) (hw : wp_X8_reelSign a0 a1 h Q) : MI Z l yX8_reelSign cX8_reelSign 2 (some .int) ({ frames := 2, cells := 0, slots := 0, locals := 53 } : Room) h sz [.ref (zA Z a0), .int a1] Q := by
  refine open_M hZ (by decide +kernel) (by exact Nat.le_of_ble_eq_true rfl) ?_
  intro p e s m below meth c B hr hsz ls hl hH
  subst hsz
  have hl : lv_has ls 2 [(0, .ref (zA Z a0)), (1, .int a1)] := hl
  unfold wp_X8_reelSign at hw
  refine lv_aload_n B.1 B.2.1 dX8_reelSign_0 rfl (lv_at hl 0 rfl) ?_
  refine lv_iload_n B.1 B.2.1 dX8_reelSign_1 rfl (lv_at hl 1 rfl) ?_
  refine lv_iconst (v := 1) B.1 B.2.1 dX8_reelSign_2 (by decide) ?_
  refine lv_iconst (v := 0) B.1 B.2.1 dX8_reelSign_3 (by decide) ?_
  refine lv_iconst (v := 2) B.1 B.2.1 dX8_reelSign_4 (by decide) ?_
  refine c_V_I (own := RX8) (As := [.int a1, .int 1, .int 0, .int 2]) (rest := []) B hH (cy_X8_figures B.2.2.2.2.1) (ct_X8_figures B.2.2.2.2.2.2.2 l a0 a1 1 0 2 h _ _ (k0) hw) ⟨⟨rfl, rfl⟩, Nat.le_of_ble_eq_true rfl, Nat.le_of_ble_eq_true rfl, Nat.zero_le _, Nat.zero_le _⟩ (rv_8 B hH (k0)) (tw_1033 B.2.2.2.2.1) rfl hl.1 rfl (Nat.le_of_ble_eq_true rfl) dX8_reelSign_5 ?_
  clear hw hH
  intro r2 h1 H locs hw hH
  exact e_i B hr hH hw dX8_reelSign_8
theorem cy_X8_loopSign {s : State} {args : Array Value} (hG : GG s) : CYV s args yX8_loopSign cX8_loopSign 2 (some .int) 1 := CYV.of hG (fun _ _ hG => tw_1082 hG) (tw_8 hG) (tw_1081 hG) (tp_71 hG) (by decide +kernel)
set_option maxRecDepth 100000 in
set_option maxHeartbeats 4000000 in
theorem ct_X8_loopSign {Z : ZT} (hZ : ZO Z) (l : Launch) (a0 : Nat) (a1 : Int32) (h : PH) (sz : Nat) (Q : Int32 → PH → Prop) (k0 : kd a0 = 8) (hw : wp_X8_loopSign a0 a1 h Q) : MI Z l yX8_loopSign cX8_loopSign 2 (some .int) ({ frames := 2, cells := 0, slots := 0, locals := 53 } : Room) h sz [.ref (zA Z a0), .int a1] Q := by
  refine open_M hZ (by decide +kernel) (by exact Nat.le_of_ble_eq_true rfl) ?_
  intro p e s m below meth c B hr hsz ls hl hH
  subst hsz
  have hl : lv_has ls 2 [(0, .ref (zA Z a0)), (1, .int a1)] := hl
  unfold wp_X8_loopSign at hw
  refine lv_aload_n B.1 B.2.1 dX8_loopSign_0 rfl (lv_at hl 0 rfl) ?_
  refine lv_iload_n B.1 B.2.1 dX8_loopSign_1 rfl (lv_at hl 1 rfl) ?_
  refine lv_iconst (v := 1) B.1 B.2.1 dX8_loopSign_2 (by decide) ?_
  refine lv_iconst (v := 0) B.1 B.2.1 dX8_loopSign_3 (by decide) ?_
  refine lv_iconst (v := 3) B.1 B.2.1 dX8_loopSign_4 (by decide) ?_
  refine c_V_I (own := RX8) (As := [.int a1, .int 1, .int 0, .int 3]) (rest := []) B hH (cy_X8_figures B.2.2.2.2.1) (ct_X8_figures B.2.2.2.2.2.2.2 l a0 a1 1 0 3 h _ _ (k0) hw) ⟨⟨rfl, rfl⟩, Nat.le_of_ble_eq_true rfl, Nat.le_of_ble_eq_true rfl, Nat.zero_le _, Nat.zero_le _⟩ (rv_8 B hH (k0)) (tw_1033 B.2.2.2.2.1) rfl hl.1 rfl (Nat.le_of_ble_eq_true rfl) dX8_loopSign_5 ?_
  clear hw hH
  intro r2 h1 H locs hw hH
  exact e_i B hr hH hw dX8_loopSign_8
theorem cy_X8_placeSign {s : State} {args : Array Value} (hG : GG s) : CYV s args yX8_placeSign cX8_placeSign 2 (some .int) 1 := CYV.of hG (fun _ _ hG => tw_1056 hG) (tw_8 hG) (tw_1055 hG) (tp_69 hG) (by decide +kernel)
set_option maxRecDepth 100000 in
set_option maxHeartbeats 4000000 in
theorem ct_X8_placeSign {Z : ZT} (hZ : ZO Z) (l : Launch) (a0 : Nat) (a1 : Int32) (h : PH) (sz : Nat) (Q : Int32 → PH → Prop) (k0 : kd a0 = 8) (hw : wp_X8_placeSign a0 a1 h Q) : MI Z l yX8_placeSign cX8_placeSign 2 (some .int) ({ frames := 2, cells := 0, slots := 0, locals := 53 } : Room) h sz [.ref (zA Z a0), .int a1] Q := by
  refine open_M hZ (by decide +kernel) (by exact Nat.le_of_ble_eq_true rfl) ?_
  intro p e s m below meth c B hr hsz ls hl hH
  subst hsz
  have hl : lv_has ls 2 [(0, .ref (zA Z a0)), (1, .int a1)] := hl
  unfold wp_X8_placeSign at hw
  refine lv_aload_n B.1 B.2.1 dX8_placeSign_0 rfl (lv_at hl 0 rfl) ?_
  refine lv_iload_n B.1 B.2.1 dX8_placeSign_1 rfl (lv_at hl 1 rfl) ?_
  refine lv_iconst (v := 2) B.1 B.2.1 dX8_placeSign_2 (by decide) ?_
  refine lv_iconst (v := 0) B.1 B.2.1 dX8_placeSign_3 (by decide) ?_
  refine lv_bipush (v := 60) B.1 B.2.1 dX8_placeSign_4 (by decide) ?_
  refine c_V_I (own := RX8) (As := [.int a1, .int 2, .int 0, .int 60]) (rest := []) B hH (cy_X8_figures B.2.2.2.2.1) (ct_X8_figures B.2.2.2.2.2.2.2 l a0 a1 2 0 60 h _ _ (k0) hw) ⟨⟨rfl, rfl⟩, Nat.le_of_ble_eq_true rfl, Nat.le_of_ble_eq_true rfl, Nat.zero_le _, Nat.zero_le _⟩ (rv_8 B hH (k0)) (tw_1033 B.2.2.2.2.1) rfl hl.1 rfl (Nat.le_of_ble_eq_true rfl) dX8_placeSign_6 ?_
  clear hw hH
  intro r2 h1 H locs hw hH
  exact e_i B hr hH hw dX8_placeSign_9
theorem cy_X8_readPaint {s : State} {args : Array Value} (hG : GG s) : CYV s args yX8_readPaint cX8_readPaint 6 (some .boolean) 1 := CYV.of hG (fun _ _ hG => tw_1048 hG) (tw_8 hG) (tw_1047 hG) (tp_67 hG) (by decide +kernel)
set_option maxRecDepth 100000 in
set_option maxHeartbeats 4000000 in
theorem ct_X8_readPaint {Z : ZT} (hZ : ZO Z) (l : Launch) (a0 : Nat) (a1 : Nat) (h : PH) (sz : Nat) (Q : Int32 → PH → Prop) (k0 : kd a0 = 8) (k1 : kd a1 = 10) (hw : wp_X8_readPaint a0 a1 h Q) : MI Z l yX8_readPaint cX8_readPaint 6 (some .boolean) ({ frames := 3, cells := 0, slots := 0, locals := 74 } : Room) h sz [.ref (zA Z a0), .ref (zA Z a1)] Q := by
  refine open_M hZ (by decide +kernel) (by exact Nat.le_of_ble_eq_true rfl) ?_
  intro p e s m below meth c B hr hsz ls hl hH
  subst hsz
  have hl : lv_has ls 6 [(0, .ref (zA Z a0)), (1, .ref (zA Z a1))] := hl
  unfold wp_X8_readPaint at hw
  refine lv_aload_n B.1 B.2.1 dX8_readPaint_0 rfl (lv_at hl 0 rfl) ?_
  refine lv_iconst (v := 0) B.1 B.2.1 dX8_readPaint_1 (by decide) ?_
  refine c_V_I (own := RX8) (As := [.int 0]) (rest := []) B hH (cy_X8_reelSign B.2.2.2.2.1) (ct_X8_reelSign B.2.2.2.2.2.2.2 l a0 0 h _ _ (k0) hw) ⟨⟨rfl, rfl⟩, Nat.le_of_ble_eq_true rfl, Nat.le_of_ble_eq_true rfl, Nat.zero_le _, Nat.zero_le _⟩ (rv_8 B hH (k0)) (tw_1049 B.2.2.2.2.1) rfl hl.1 rfl (Nat.le_of_ble_eq_true rfl) dX8_readPaint_2 ?_
  clear hw hH
  intro r2 h1 H locs hw hH
  refine lv_istore_n (lv' := [(2, .int r2), (0, .ref (zA Z a0)), (1, .ref (zA Z a1))]) B.1 B.2.1 dX8_readPaint_5 rfl hl (by decide) (by first | rfl | simp [va_re_cat, Value.category]) ?_
  clear hl
  intro ls hl
  refine lv_aload_n B.1 B.2.1 dX8_readPaint_6 rfl (lv_at hl 1 rfl) ?_
  refine lv_iload_n B.1 B.2.1 dX8_readPaint_7 rfl (lv_at hl 0 rfl) ?_
  refine c_V_I (own := RX8) (As := [.int r2]) (rest := []) B hH (cy_X8_placeSign B.2.2.2.2.1) (ct_X8_placeSign B.2.2.2.2.2.2.2 l a0 r2 h1 _ _ (k0) hw) ⟨⟨rfl, rfl⟩, Nat.le_of_ble_eq_true rfl, Nat.le_of_ble_eq_true rfl, Nat.zero_le _, Nat.zero_le _⟩ (rv_8 B hH (k0)) (tw_1053 B.2.2.2.2.1) rfl hl.1 rfl (Nat.le_of_ble_eq_true rfl) dX8_readPaint_8 ?_
  clear hw hH
  intro r4 h3 H locs hw hH
  refine lv_istore_n (lv' := [(3, .int r4), (2, .int r2), (0, .ref (zA Z a0)), (1, .ref (zA Z a1))]) B.1 B.2.1 dX8_readPaint_11 rfl hl (by decide) (by first | rfl | simp [va_re_cat, Value.category]) ?_
  clear hl
  intro ls hl
  refine lv_aload_n B.1 B.2.1 dX8_readPaint_12 rfl (lv_at hl 2 rfl) ?_
  refine lv_iload_n B.1 B.2.1 dX8_readPaint_13 rfl (lv_at hl 0 rfl) ?_
  refine c_V_I (own := RX8) (As := [.int r4]) (rest := []) B hH (cy_X8_placeSign B.2.2.2.2.1) (ct_X8_placeSign B.2.2.2.2.2.2.2 l a0 r4 h3 _ _ (k0) hw) ⟨⟨rfl, rfl⟩, Nat.le_of_ble_eq_true rfl, Nat.le_of_ble_eq_true rfl, Nat.zero_le _, Nat.zero_le _⟩ (rv_8 B hH (k0)) (tw_1053 B.2.2.2.2.1) rfl hl.1 rfl (Nat.le_of_ble_eq_true rfl) dX8_readPaint_14 ?_
  clear hw hH
  intro r6 h5 H locs hw hH
  refine lv_istore (lv' := [(4, .int r6), (3, .int r4), (2, .int r2), (0, .ref (zA Z a0)), (1, .ref (zA Z a1))]) B.1 B.2.1 dX8_readPaint_17 hl (by decide) (by first | rfl | simp [va_re_cat, Value.category]) ?_
  clear hl
  intro ls hl
  refine lv_aload_n B.1 B.2.1 dX8_readPaint_19 rfl (lv_at hl 3 rfl) ?_
  refine lv_iload B.1 B.2.1 dX8_readPaint_20 (lv_at hl 0 rfl) ?_
  refine lv_iconst (v := 1) B.1 B.2.1 dX8_readPaint_22 (by decide) ?_
  refine lv_iconst (v := 0) B.1 B.2.1 dX8_readPaint_23 (by decide) ?_
  refine lv_bipush (v := 9) B.1 B.2.1 dX8_readPaint_24 (by decide) ?_
  refine c_V_I (own := RX8) (As := [.int r6, .int 1, .int 0, .int 9]) (rest := []) B hH (cy_X8_figures B.2.2.2.2.1) (ct_X8_figures B.2.2.2.2.2.2.2 l a0 r6 1 0 9 h5 _ _ (k0) hw) ⟨⟨rfl, rfl⟩, Nat.le_of_ble_eq_true rfl, Nat.le_of_ble_eq_true rfl, Nat.zero_le _, Nat.zero_le _⟩ (rv_8 B hH (k0)) (tw_1033 B.2.2.2.2.1) rfl hl.1 rfl (Nat.le_of_ble_eq_true rfl) dX8_readPaint_26 ?_
  clear hw hH
  intro r8 h7 H locs hw hH
  refine lv_istore (lv' := [(5, .int r8), (4, .int r6), (3, .int r4), (2, .int r2), (0, .ref (zA Z a0)), (1, .ref (zA Z a1))]) B.1 B.2.1 dX8_readPaint_29 hl (by decide) (by first | rfl | simp [va_re_cat, Value.category]) ?_
  clear hl
  intro ls hl
  refine lv_iload B.1 B.2.1 dX8_readPaint_31 (lv_at hl 0 rfl) ?_
  refine lv_iconst (v := (-1)) B.1 B.2.1 dX8_readPaint_33 (by decide) ?_
  refine lv_icmp_eq (tgt := 91) B.1 B.2.1 dX8_readPaint_34 (by decide) (fun c9 => ?_) (fun c9 => ?_)
  · replace hw := hw.1 c9
    refine lv_iconst (v := 0) B.1 B.2.1 dX8_readPaint_91 (by decide) ?_
    exact e_z B hr (by decide) hH hw dX8_readPaint_92
  · replace hw := hw.2 c9
    refine lv_aload_n B.1 B.2.1 dX8_readPaint_37 rfl (lv_at hl 4 rfl) ?_
    refine lv_aload_n B.1 B.2.1 dX8_readPaint_38 rfl (lv_at hl 5 rfl) ?_
    refine lv_iload_n B.1 B.2.1 dX8_readPaint_39 rfl (lv_at hl 3 rfl) ?_
    refine lv_iload_n B.1 B.2.1 dX8_readPaint_40 rfl (lv_at hl 2 rfl) ?_
    refine c_S_I (own := RX8) (As := [.ref (zA Z a1), .int r2, .int r4]) (rest := [.ref (zA Z a0)]) B hH (cy_X8_isCell B.2.2.2.2.1) (ct_X8_isCell B.2.2.2.2.2.2.2 l a1 r2 r4 h7 _ _ (k1) hw) ⟨⟨rfl, rfl⟩, Nat.le_of_ble_eq_true rfl, Nat.le_of_ble_eq_true rfl, Nat.zero_le _, Nat.zero_le _⟩ (tw_1057 B.2.2.2.2.1) rfl hl.1 rfl (Nat.le_of_ble_eq_true rfl) dX8_readPaint_41 ?_
    clear hw hH
    intro r11 h10 H locs hw hH
    refine lv_if_eq (tgt := 80) B.1 B.2.1 dX8_readPaint_44 (by decide) (fun c12 => ?_) (fun c12 => ?_)
    · replace hw := hw.1 c12
      refine lv_iconst (v := 0) B.1 B.2.1 dX8_readPaint_80 (by decide) ?_
      refine c_V_I (own := RX8) (As := [.int 0]) (rest := []) B hH (cy_X8_done B.2.2.2.2.1) (ct_X8_done B.2.2.2.2.2.2.2 l a0 0 h10 _ _ (k0) hw) ⟨⟨rfl, rfl⟩, Nat.le_of_ble_eq_true rfl, Nat.le_of_ble_eq_true rfl, Nat.zero_le _, Nat.zero_le _⟩ (rv_8 B hH (k0)) (tw_1041 B.2.2.2.2.1) rfl hl.1 rfl (Nat.le_of_ble_eq_true rfl) dX8_readPaint_81 ?_
      clear hw hH
      intro r14 h13 H locs hw hH
      refine lv_if_eq (tgt := 91) B.1 B.2.1 dX8_readPaint_84 (by decide) (fun c15 => ?_) (fun c15 => ?_)
      · replace hw := hw.1 c15
        refine lv_iconst (v := 0) B.1 B.2.1 dX8_readPaint_91 (by decide) ?_
        exact e_z B hr (by decide) hH hw dX8_readPaint_92
      · replace hw := hw.2 c15
        refine lv_iconst (v := 1) B.1 B.2.1 dX8_readPaint_87 (by decide) ?_
        refine lv_goto (tgt := 92) B.1 B.2.1 dX8_readPaint_88 (by decide) ?_
        exact e_z B hr (by decide) hH hw dX8_readPaint_92
    · replace hw := hw.2 c12
      refine lv_aload_n B.1 B.2.1 dX8_readPaint_47 rfl (lv_at hl 5 rfl) ?_
      refine lv_iload_n B.1 B.2.1 dX8_readPaint_48 rfl (lv_at hl 3 rfl) ?_
      refine lv_iload B.1 B.2.1 dX8_readPaint_49 (lv_at hl 1 rfl) ?_
      refine c_S_I (own := RX8) (As := [.ref (zA Z a1), .int r2, .int r6]) (rest := [.ref (zA Z a0)]) B hH (cy_X8_isCell B.2.2.2.2.1) (ct_X8_isCell B.2.2.2.2.2.2.2 l a1 r2 r6 h10 _ _ (k1) hw) ⟨⟨rfl, rfl⟩, Nat.le_of_ble_eq_true rfl, Nat.le_of_ble_eq_true rfl, Nat.zero_le _, Nat.zero_le _⟩ (tw_1057 B.2.2.2.2.1) rfl hl.1 rfl (Nat.le_of_ble_eq_true rfl) dX8_readPaint_51 ?_
      clear hw hH
      intro r17 h16 H locs hw hH
      refine lv_if_eq (tgt := 80) B.1 B.2.1 dX8_readPaint_54 (by decide) (fun c18 => ?_) (fun c18 => ?_)
      · replace hw := hw.1 c18
        refine lv_iconst (v := 0) B.1 B.2.1 dX8_readPaint_80 (by decide) ?_
        refine c_V_I (own := RX8) (As := [.int 0]) (rest := []) B hH (cy_X8_done B.2.2.2.2.1) (ct_X8_done B.2.2.2.2.2.2.2 l a0 0 h16 _ _ (k0) hw) ⟨⟨rfl, rfl⟩, Nat.le_of_ble_eq_true rfl, Nat.le_of_ble_eq_true rfl, Nat.zero_le _, Nat.zero_le _⟩ (rv_8 B hH (k0)) (tw_1041 B.2.2.2.2.1) rfl hl.1 rfl (Nat.le_of_ble_eq_true rfl) dX8_readPaint_81 ?_
        clear hw hH
        intro r20 h19 H locs hw hH
        refine lv_if_eq (tgt := 91) B.1 B.2.1 dX8_readPaint_84 (by decide) (fun c21 => ?_) (fun c21 => ?_)
        · replace hw := hw.1 c21
          refine lv_iconst (v := 0) B.1 B.2.1 dX8_readPaint_91 (by decide) ?_
          exact e_z B hr (by decide) hH hw dX8_readPaint_92
        · replace hw := hw.2 c21
          refine lv_iconst (v := 1) B.1 B.2.1 dX8_readPaint_87 (by decide) ?_
          refine lv_goto (tgt := 92) B.1 B.2.1 dX8_readPaint_88 (by decide) ?_
          exact e_z B hr (by decide) hH hw dX8_readPaint_92
      · replace hw := hw.2 c18
        refine lv_iload_n B.1 B.2.1 dX8_readPaint_57 rfl (lv_at hl 2 rfl) ?_
        refine lv_iload B.1 B.2.1 dX8_readPaint_58 (lv_at hl 1 rfl) ?_
        refine lv_icmp_gt (tgt := 80) B.1 B.2.1 dX8_readPaint_60 (by decide) (fun c22 => ?_) (fun c22 => ?_)
        · replace hw := hw.1 c22
          refine lv_iconst (v := 0) B.1 B.2.1 dX8_readPaint_80 (by decide) ?_
          refine c_V_I (own := RX8) (As := [.int 0]) (rest := []) B hH (cy_X8_done B.2.2.2.2.1) (ct_X8_done B.2.2.2.2.2.2.2 l a0 0 h16 _ _ (k0) hw) ⟨⟨rfl, rfl⟩, Nat.le_of_ble_eq_true rfl, Nat.le_of_ble_eq_true rfl, Nat.zero_le _, Nat.zero_le _⟩ (rv_8 B hH (k0)) (tw_1041 B.2.2.2.2.1) rfl hl.1 rfl (Nat.le_of_ble_eq_true rfl) dX8_readPaint_81 ?_
          clear hw hH
          intro r24 h23 H locs hw hH
          refine lv_if_eq (tgt := 91) B.1 B.2.1 dX8_readPaint_84 (by decide) (fun c25 => ?_) (fun c25 => ?_)
          · replace hw := hw.1 c25
            refine lv_iconst (v := 0) B.1 B.2.1 dX8_readPaint_91 (by decide) ?_
            exact e_z B hr (by decide) hH hw dX8_readPaint_92
          · replace hw := hw.2 c25
            refine lv_iconst (v := 1) B.1 B.2.1 dX8_readPaint_87 (by decide) ?_
            refine lv_goto (tgt := 92) B.1 B.2.1 dX8_readPaint_88 (by decide) ?_
            exact e_z B hr (by decide) hH hw dX8_readPaint_92
        · replace hw := hw.2 c22
          refine lv_aload_n B.1 B.2.1 dX8_readPaint_63 rfl (lv_at hl 5 rfl) ?_
          refine lv_iload_n B.1 B.2.1 dX8_readPaint_64 rfl (lv_at hl 3 rfl) ?_
          refine lv_iload_n B.1 B.2.1 dX8_readPaint_65 rfl (lv_at hl 2 rfl) ?_
          refine lv_iload B.1 B.2.1 dX8_readPaint_66 (lv_at hl 1 rfl) ?_
          refine lv_iload B.1 B.2.1 dX8_readPaint_68 (lv_at hl 0 rfl) ?_
          refine c_S_I (own := RX8) (As := [.ref (zA Z a1), .int r2, .int r4, .int r6, .int r8]) (rest := [.ref (zA Z a0)]) B hH (cy_X8_paintOn B.2.2.2.2.1) (ct_X8_paintOn B.2.2.2.2.2.2.2 l a1 r2 r4 r6 r8 h16 _ _ (k1) hw) ⟨⟨rfl, rfl⟩, Nat.le_of_ble_eq_true rfl, Nat.le_of_ble_eq_true rfl, Nat.zero_le _, Nat.zero_le _⟩ (tw_1066 B.2.2.2.2.1) rfl hl.1 rfl (Nat.le_of_ble_eq_true rfl) dX8_readPaint_70 ?_
          clear hw hH
          intro r27 h26 H locs hw hH
          refine lv_if_lt (tgt := 80) B.1 B.2.1 dX8_readPaint_73 (by decide) (fun c28 => ?_) (fun c28 => ?_)
          · replace hw := hw.1 c28
            refine lv_iconst (v := 0) B.1 B.2.1 dX8_readPaint_80 (by decide) ?_
            refine c_V_I (own := RX8) (As := [.int 0]) (rest := []) B hH (cy_X8_done B.2.2.2.2.1) (ct_X8_done B.2.2.2.2.2.2.2 l a0 0 h26 _ _ (k0) hw) ⟨⟨rfl, rfl⟩, Nat.le_of_ble_eq_true rfl, Nat.le_of_ble_eq_true rfl, Nat.zero_le _, Nat.zero_le _⟩ (rv_8 B hH (k0)) (tw_1041 B.2.2.2.2.1) rfl hl.1 rfl (Nat.le_of_ble_eq_true rfl) dX8_readPaint_81 ?_
            clear hw hH
            intro r30 h29 H locs hw hH
            refine lv_if_eq (tgt := 91) B.1 B.2.1 dX8_readPaint_84 (by decide) (fun c31 => ?_) (fun c31 => ?_)
            · replace hw := hw.1 c31
              refine lv_iconst (v := 0) B.1 B.2.1 dX8_readPaint_91 (by decide) ?_
              exact e_z B hr (by decide) hH hw dX8_readPaint_92
            · replace hw := hw.2 c31
              refine lv_iconst (v := 1) B.1 B.2.1 dX8_readPaint_87 (by decide) ?_
              refine lv_goto (tgt := 92) B.1 B.2.1 dX8_readPaint_88 (by decide) ?_
              exact e_z B hr (by decide) hH hw dX8_readPaint_92
          · replace hw := hw.2 c28
            refine lv_iconst (v := 1) B.1 B.2.1 dX8_readPaint_76 (by decide) ?_
            refine lv_goto (tgt := 81) B.1 B.2.1 dX8_readPaint_77 (by decide) ?_
            refine c_V_I (own := RX8) (As := [.int 1]) (rest := []) B hH (cy_X8_done B.2.2.2.2.1) (ct_X8_done B.2.2.2.2.2.2.2 l a0 1 h26 _ _ (k0) hw) ⟨⟨rfl, rfl⟩, Nat.le_of_ble_eq_true rfl, Nat.le_of_ble_eq_true rfl, Nat.zero_le _, Nat.zero_le _⟩ (rv_8 B hH (k0)) (tw_1041 B.2.2.2.2.1) rfl hl.1 rfl (Nat.le_of_ble_eq_true rfl) dX8_readPaint_81 ?_
            clear hw hH
            intro r33 h32 H locs hw hH
            refine lv_if_eq (tgt := 91) B.1 B.2.1 dX8_readPaint_84 (by decide) (fun c34 => ?_) (fun c34 => ?_)
            · replace hw := hw.1 c34
              refine lv_iconst (v := 0) B.1 B.2.1 dX8_readPaint_91 (by decide) ?_
              exact e_z B hr (by decide) hH hw dX8_readPaint_92
            · replace hw := hw.2 c34
              refine lv_iconst (v := 1) B.1 B.2.1 dX8_readPaint_87 (by decide) ?_
              refine lv_goto (tgt := 92) B.1 B.2.1 dX8_readPaint_88 (by decide) ?_
              exact e_z B hr (by decide) hH hw dX8_readPaint_92
theorem cy_X8_readSplice {s : State} {args : Array Value} (hG : GG s) : CYV s args yX8_readSplice cX8_readSplice 6 (some .boolean) 1 := CYV.of hG (fun _ _ hG => tw_1078 hG) (tw_8 hG) (tw_1077 hG) (tp_70 hG) (by decide +kernel)
set_option maxRecDepth 100000 in
set_option maxHeartbeats 4000000 in
theorem ct_X8_readSplice {Z : ZT} (hZ : ZO Z) (l : Launch) (a0 : Nat) (a1 : Nat) (h : PH) (sz : Nat) (Q : Int32 → PH → Prop) (k0 : kd a0 = 8) (k1 : kd a1 = 10) (hw : wp_X8_readSplice a0 a1 h Q) : MI Z l yX8_readSplice cX8_readSplice 6 (some .boolean) ({ frames := 4, cells := 0, slots := 0, locals := 95 } : Room) h sz [.ref (zA Z a0), .ref (zA Z a1)] Q := by
  refine open_M hZ (by decide +kernel) (by exact Nat.le_of_ble_eq_true rfl) ?_
  intro p e s m below meth c B hr hsz ls hl hH
  subst hsz
  have hl : lv_has ls 6 [(0, .ref (zA Z a0)), (1, .ref (zA Z a1))] := hl
  unfold wp_X8_readSplice at hw
  refine lv_aload_n B.1 B.2.1 dX8_readSplice_0 rfl (lv_at hl 0 rfl) ?_
  refine lv_iconst (v := 0) B.1 B.2.1 dX8_readSplice_1 (by decide) ?_
  refine c_V_I (own := RX8) (As := [.int 0]) (rest := []) B hH (cy_X8_loopSign B.2.2.2.2.1) (ct_X8_loopSign B.2.2.2.2.2.2.2 l a0 0 h _ _ (k0) hw) ⟨⟨rfl, rfl⟩, Nat.le_of_ble_eq_true rfl, Nat.le_of_ble_eq_true rfl, Nat.zero_le _, Nat.zero_le _⟩ (rv_8 B hH (k0)) (tw_1079 B.2.2.2.2.1) rfl hl.1 rfl (Nat.le_of_ble_eq_true rfl) dX8_readSplice_2 ?_
  clear hw hH
  intro r2 h1 H locs hw hH
  refine lv_istore_n (lv' := [(2, .int r2), (0, .ref (zA Z a0)), (1, .ref (zA Z a1))]) B.1 B.2.1 dX8_readSplice_5 rfl hl (by decide) (by first | rfl | simp [va_re_cat, Value.category]) ?_
  clear hl
  intro ls hl
  refine lv_aload_n B.1 B.2.1 dX8_readSplice_6 rfl (lv_at hl 1 rfl) ?_
  refine lv_iload_n B.1 B.2.1 dX8_readSplice_7 rfl (lv_at hl 0 rfl) ?_
  refine c_V_I (own := RX8) (As := [.int r2]) (rest := []) B hH (cy_X8_reelSign B.2.2.2.2.1) (ct_X8_reelSign B.2.2.2.2.2.2.2 l a0 r2 h1 _ _ (k0) hw) ⟨⟨rfl, rfl⟩, Nat.le_of_ble_eq_true rfl, Nat.le_of_ble_eq_true rfl, Nat.zero_le _, Nat.zero_le _⟩ (rv_8 B hH (k0)) (tw_1049 B.2.2.2.2.1) rfl hl.1 rfl (Nat.le_of_ble_eq_true rfl) dX8_readSplice_8 ?_
  clear hw hH
  intro r4 h3 H locs hw hH
  refine lv_istore_n (lv' := [(3, .int r4), (2, .int r2), (0, .ref (zA Z a0)), (1, .ref (zA Z a1))]) B.1 B.2.1 dX8_readSplice_11 rfl hl (by decide) (by first | rfl | simp [va_re_cat, Value.category]) ?_
  clear hl
  intro ls hl
  refine lv_aload_n B.1 B.2.1 dX8_readSplice_12 rfl (lv_at hl 2 rfl) ?_
  refine lv_iload_n B.1 B.2.1 dX8_readSplice_13 rfl (lv_at hl 0 rfl) ?_
  refine c_V_I (own := RX8) (As := [.int r4]) (rest := []) B hH (cy_X8_placeSign B.2.2.2.2.1) (ct_X8_placeSign B.2.2.2.2.2.2.2 l a0 r4 h3 _ _ (k0) hw) ⟨⟨rfl, rfl⟩, Nat.le_of_ble_eq_true rfl, Nat.le_of_ble_eq_true rfl, Nat.zero_le _, Nat.zero_le _⟩ (rv_8 B hH (k0)) (tw_1053 B.2.2.2.2.1) rfl hl.1 rfl (Nat.le_of_ble_eq_true rfl) dX8_readSplice_14 ?_
  clear hw hH
  intro r6 h5 H locs hw hH
  refine lv_istore (lv' := [(4, .int r6), (3, .int r4), (2, .int r2), (0, .ref (zA Z a0)), (1, .ref (zA Z a1))]) B.1 B.2.1 dX8_readSplice_17 hl (by decide) (by first | rfl | simp [va_re_cat, Value.category]) ?_
  clear hl
  intro ls hl
  refine lv_aload_n B.1 B.2.1 dX8_readSplice_19 rfl (lv_at hl 3 rfl) ?_
  refine lv_iload B.1 B.2.1 dX8_readSplice_20 (lv_at hl 0 rfl) ?_
  refine c_V_I (own := RX8) (As := [.int r6]) (rest := []) B hH (cy_X8_placeSign B.2.2.2.2.1) (ct_X8_placeSign B.2.2.2.2.2.2.2 l a0 r6 h5 _ _ (k0) hw) ⟨⟨rfl, rfl⟩, Nat.le_of_ble_eq_true rfl, Nat.le_of_ble_eq_true rfl, Nat.zero_le _, Nat.zero_le _⟩ (rv_8 B hH (k0)) (tw_1053 B.2.2.2.2.1) rfl hl.1 rfl (Nat.le_of_ble_eq_true rfl) dX8_readSplice_22 ?_
  clear hw hH
  intro r8 h7 H locs hw hH
  refine lv_istore (lv' := [(5, .int r8), (4, .int r6), (3, .int r4), (2, .int r2), (0, .ref (zA Z a0)), (1, .ref (zA Z a1))]) B.1 B.2.1 dX8_readSplice_25 hl (by decide) (by first | rfl | simp [va_re_cat, Value.category]) ?_
  clear hl
  intro ls hl
  refine lv_iload B.1 B.2.1 dX8_readSplice_27 (lv_at hl 0 rfl) ?_
  refine lv_iconst (v := (-1)) B.1 B.2.1 dX8_readSplice_29 (by decide) ?_
  refine lv_icmp_eq (tgt := 103) B.1 B.2.1 dX8_readSplice_30 (by decide) (fun c9 => ?_) (fun c9 => ?_)
  · replace hw := hw.1 c9
    refine lv_iconst (v := 0) B.1 B.2.1 dX8_readSplice_103 (by decide) ?_
    exact e_z B hr (by decide) hH hw dX8_readSplice_104
  · replace hw := hw.2 c9
    refine lv_aload_n B.1 B.2.1 dX8_readSplice_33 rfl (lv_at hl 4 rfl) ?_
    refine lv_aload_n B.1 B.2.1 dX8_readSplice_34 rfl (lv_at hl 5 rfl) ?_
    refine lv_iload_n B.1 B.2.1 dX8_readSplice_35 rfl (lv_at hl 3 rfl) ?_
    refine c_S_I (own := RX8) (As := [.ref (zA Z a1), .int r2]) (rest := [.ref (zA Z a0)]) B hH (cy_X8_isLoop B.2.2.2.2.1) (ct_X8_isLoop B.2.2.2.2.2.2.2 l a1 r2 h7 _ _ (k1) hw) ⟨⟨rfl, rfl⟩, Nat.le_of_ble_eq_true rfl, Nat.le_of_ble_eq_true rfl, Nat.zero_le _, Nat.zero_le _⟩ (tw_1083 B.2.2.2.2.1) rfl hl.1 rfl (Nat.le_of_ble_eq_true rfl) dX8_readSplice_36 ?_
    clear hw hH
    intro r11 h10 H locs hw hH
    refine lv_if_eq (tgt := 92) B.1 B.2.1 dX8_readSplice_39 (by decide) (fun c12 => ?_) (fun c12 => ?_)
    · replace hw := hw.1 c12
      refine lv_iconst (v := 0) B.1 B.2.1 dX8_readSplice_92 (by decide) ?_
      refine c_V_I (own := RX8) (As := [.int 0]) (rest := []) B hH (cy_X8_done B.2.2.2.2.1) (ct_X8_done B.2.2.2.2.2.2.2 l a0 0 h10 _ _ (k0) hw) ⟨⟨rfl, rfl⟩, Nat.le_of_ble_eq_true rfl, Nat.le_of_ble_eq_true rfl, Nat.zero_le _, Nat.zero_le _⟩ (rv_8 B hH (k0)) (tw_1041 B.2.2.2.2.1) rfl hl.1 rfl (Nat.le_of_ble_eq_true rfl) dX8_readSplice_93 ?_
      clear hw hH
      intro r14 h13 H locs hw hH
      refine lv_if_eq (tgt := 103) B.1 B.2.1 dX8_readSplice_96 (by decide) (fun c15 => ?_) (fun c15 => ?_)
      · replace hw := hw.1 c15
        refine lv_iconst (v := 0) B.1 B.2.1 dX8_readSplice_103 (by decide) ?_
        exact e_z B hr (by decide) hH hw dX8_readSplice_104
      · replace hw := hw.2 c15
        refine lv_iconst (v := 1) B.1 B.2.1 dX8_readSplice_99 (by decide) ?_
        refine lv_goto (tgt := 104) B.1 B.2.1 dX8_readSplice_100 (by decide) ?_
        exact e_z B hr (by decide) hH hw dX8_readSplice_104
    · replace hw := hw.2 c12
      refine lv_aload_n B.1 B.2.1 dX8_readSplice_42 rfl (lv_at hl 5 rfl) ?_
      refine lv_iload_n B.1 B.2.1 dX8_readSplice_43 rfl (lv_at hl 2 rfl) ?_
      refine lv_iload B.1 B.2.1 dX8_readSplice_44 (lv_at hl 1 rfl) ?_
      refine c_S_I (own := RX8) (As := [.ref (zA Z a1), .int r4, .int r6]) (rest := [.ref (zA Z a0)]) B hH (cy_X8_isPlace B.2.2.2.2.1) (ct_X8_isPlace B.2.2.2.2.2.2.2 l a1 r4 r6 h10 _ _ (k1) hw) ⟨⟨rfl, rfl⟩, Nat.le_of_ble_eq_true rfl, Nat.le_of_ble_eq_true rfl, Nat.zero_le _, Nat.zero_le _⟩ (tw_1086 B.2.2.2.2.1) rfl hl.1 rfl (Nat.le_of_ble_eq_true rfl) dX8_readSplice_46 ?_
      clear hw hH
      intro r17 h16 H locs hw hH
      refine lv_if_eq (tgt := 92) B.1 B.2.1 dX8_readSplice_49 (by decide) (fun c18 => ?_) (fun c18 => ?_)
      · replace hw := hw.1 c18
        refine lv_iconst (v := 0) B.1 B.2.1 dX8_readSplice_92 (by decide) ?_
        refine c_V_I (own := RX8) (As := [.int 0]) (rest := []) B hH (cy_X8_done B.2.2.2.2.1) (ct_X8_done B.2.2.2.2.2.2.2 l a0 0 h16 _ _ (k0) hw) ⟨⟨rfl, rfl⟩, Nat.le_of_ble_eq_true rfl, Nat.le_of_ble_eq_true rfl, Nat.zero_le _, Nat.zero_le _⟩ (rv_8 B hH (k0)) (tw_1041 B.2.2.2.2.1) rfl hl.1 rfl (Nat.le_of_ble_eq_true rfl) dX8_readSplice_93 ?_
        clear hw hH
        intro r20 h19 H locs hw hH
        refine lv_if_eq (tgt := 103) B.1 B.2.1 dX8_readSplice_96 (by decide) (fun c21 => ?_) (fun c21 => ?_)
        · replace hw := hw.1 c21
          refine lv_iconst (v := 0) B.1 B.2.1 dX8_readSplice_103 (by decide) ?_
          exact e_z B hr (by decide) hH hw dX8_readSplice_104
        · replace hw := hw.2 c21
          refine lv_iconst (v := 1) B.1 B.2.1 dX8_readSplice_99 (by decide) ?_
          refine lv_goto (tgt := 104) B.1 B.2.1 dX8_readSplice_100 (by decide) ?_
          exact e_z B hr (by decide) hH hw dX8_readSplice_104
      · replace hw := hw.2 c18
        refine lv_aload_n B.1 B.2.1 dX8_readSplice_52 rfl (lv_at hl 5 rfl) ?_
        refine lv_iload_n B.1 B.2.1 dX8_readSplice_53 rfl (lv_at hl 2 rfl) ?_
        refine lv_iload B.1 B.2.1 dX8_readSplice_54 (lv_at hl 0 rfl) ?_
        refine c_S_I (own := RX8) (As := [.ref (zA Z a1), .int r4, .int r8]) (rest := [.ref (zA Z a0)]) B hH (cy_X8_isPlace B.2.2.2.2.1) (ct_X8_isPlace B.2.2.2.2.2.2.2 l a1 r4 r8 h16 _ _ (k1) hw) ⟨⟨rfl, rfl⟩, Nat.le_of_ble_eq_true rfl, Nat.le_of_ble_eq_true rfl, Nat.zero_le _, Nat.zero_le _⟩ (tw_1086 B.2.2.2.2.1) rfl hl.1 rfl (Nat.le_of_ble_eq_true rfl) dX8_readSplice_56 ?_
        clear hw hH
        intro r23 h22 H locs hw hH
        refine lv_if_eq (tgt := 92) B.1 B.2.1 dX8_readSplice_59 (by decide) (fun c24 => ?_) (fun c24 => ?_)
        · replace hw := hw.1 c24
          refine lv_iconst (v := 0) B.1 B.2.1 dX8_readSplice_92 (by decide) ?_
          refine c_V_I (own := RX8) (As := [.int 0]) (rest := []) B hH (cy_X8_done B.2.2.2.2.1) (ct_X8_done B.2.2.2.2.2.2.2 l a0 0 h22 _ _ (k0) hw) ⟨⟨rfl, rfl⟩, Nat.le_of_ble_eq_true rfl, Nat.le_of_ble_eq_true rfl, Nat.zero_le _, Nat.zero_le _⟩ (rv_8 B hH (k0)) (tw_1041 B.2.2.2.2.1) rfl hl.1 rfl (Nat.le_of_ble_eq_true rfl) dX8_readSplice_93 ?_
          clear hw hH
          intro r26 h25 H locs hw hH
          refine lv_if_eq (tgt := 103) B.1 B.2.1 dX8_readSplice_96 (by decide) (fun c27 => ?_) (fun c27 => ?_)
          · replace hw := hw.1 c27
            refine lv_iconst (v := 0) B.1 B.2.1 dX8_readSplice_103 (by decide) ?_
            exact e_z B hr (by decide) hH hw dX8_readSplice_104
          · replace hw := hw.2 c27
            refine lv_iconst (v := 1) B.1 B.2.1 dX8_readSplice_99 (by decide) ?_
            refine lv_goto (tgt := 104) B.1 B.2.1 dX8_readSplice_100 (by decide) ?_
            exact e_z B hr (by decide) hH hw dX8_readSplice_104
        · replace hw := hw.2 c24
          refine lv_aload_n B.1 B.2.1 dX8_readSplice_62 rfl (lv_at hl 5 rfl) ?_
          refine lv_iload_n B.1 B.2.1 dX8_readSplice_63 rfl (lv_at hl 3 rfl) ?_
          refine lv_iload_n B.1 B.2.1 dX8_readSplice_64 rfl (lv_at hl 2 rfl) ?_
          refine lv_iload B.1 B.2.1 dX8_readSplice_65 (lv_at hl 1 rfl) ?_
          refine lv_iload B.1 B.2.1 dX8_readSplice_67 (lv_at hl 0 rfl) ?_
          refine c_S_I (own := RX8) (As := [.ref (zA Z a1), .int r2, .int r4, .int r6, .int r8]) (rest := [.ref (zA Z a0)]) B hH (cy_X8_reason B.2.2.2.2.1) (ct_X8_reason B.2.2.2.2.2.2.2 l a1 r2 r4 r6 r8 h22 _ _ (k1) hw) ⟨⟨rfl, rfl⟩, Nat.le_of_ble_eq_true rfl, Nat.le_of_ble_eq_true rfl, Nat.zero_le _, Nat.zero_le _⟩ (tw_1089 B.2.2.2.2.1) rfl hl.1 rfl (Nat.le_of_ble_eq_true rfl) dX8_readSplice_69 ?_
          clear hw hH
          intro r29 h28 H locs hw hH
          refine lv_if_ne (tgt := 92) B.1 B.2.1 dX8_readSplice_72 (by decide) (fun c30 => ?_) (fun c30 => ?_)
          · replace hw := hw.1 c30
            refine lv_iconst (v := 0) B.1 B.2.1 dX8_readSplice_92 (by decide) ?_
            refine c_V_I (own := RX8) (As := [.int 0]) (rest := []) B hH (cy_X8_done B.2.2.2.2.1) (ct_X8_done B.2.2.2.2.2.2.2 l a0 0 h28 _ _ (k0) hw) ⟨⟨rfl, rfl⟩, Nat.le_of_ble_eq_true rfl, Nat.le_of_ble_eq_true rfl, Nat.zero_le _, Nat.zero_le _⟩ (rv_8 B hH (k0)) (tw_1041 B.2.2.2.2.1) rfl hl.1 rfl (Nat.le_of_ble_eq_true rfl) dX8_readSplice_93 ?_
            clear hw hH
            intro r32 h31 H locs hw hH
            refine lv_if_eq (tgt := 103) B.1 B.2.1 dX8_readSplice_96 (by decide) (fun c33 => ?_) (fun c33 => ?_)
            · replace hw := hw.1 c33
              refine lv_iconst (v := 0) B.1 B.2.1 dX8_readSplice_103 (by decide) ?_
              exact e_z B hr (by decide) hH hw dX8_readSplice_104
            · replace hw := hw.2 c33
              refine lv_iconst (v := 1) B.1 B.2.1 dX8_readSplice_99 (by decide) ?_
              refine lv_goto (tgt := 104) B.1 B.2.1 dX8_readSplice_100 (by decide) ?_
              exact e_z B hr (by decide) hH hw dX8_readSplice_104
          · replace hw := hw.2 c30
            refine lv_aload_n B.1 B.2.1 dX8_readSplice_75 rfl (lv_at hl 5 rfl) ?_
            refine lv_iload_n B.1 B.2.1 dX8_readSplice_76 rfl (lv_at hl 3 rfl) ?_
            refine lv_iload_n B.1 B.2.1 dX8_readSplice_77 rfl (lv_at hl 2 rfl) ?_
            refine lv_iload B.1 B.2.1 dX8_readSplice_78 (lv_at hl 1 rfl) ?_
            refine lv_iload B.1 B.2.1 dX8_readSplice_80 (lv_at hl 0 rfl) ?_
            refine c_S_I (own := RX8) (As := [.ref (zA Z a1), .int r2, .int r4, .int r6, .int r8]) (rest := [.ref (zA Z a0)]) B hH (cy_X8_spliceOn B.2.2.2.2.1) (ct_X8_spliceOn B.2.2.2.2.2.2.2 l a1 r2 r4 r6 r8 h28 _ _ (k1) hw) ⟨⟨rfl, rfl⟩, Nat.le_of_ble_eq_true rfl, Nat.le_of_ble_eq_true rfl, Nat.zero_le _, Nat.zero_le _⟩ (tw_1101 B.2.2.2.2.1) rfl hl.1 rfl (Nat.le_of_ble_eq_true rfl) dX8_readSplice_82 ?_
            clear hw hH
            intro r35 h34 H locs hw hH
            refine lv_if_ne (tgt := 92) B.1 B.2.1 dX8_readSplice_85 (by decide) (fun c36 => ?_) (fun c36 => ?_)
            · replace hw := hw.1 c36
              refine lv_iconst (v := 0) B.1 B.2.1 dX8_readSplice_92 (by decide) ?_
              refine c_V_I (own := RX8) (As := [.int 0]) (rest := []) B hH (cy_X8_done B.2.2.2.2.1) (ct_X8_done B.2.2.2.2.2.2.2 l a0 0 h34 _ _ (k0) hw) ⟨⟨rfl, rfl⟩, Nat.le_of_ble_eq_true rfl, Nat.le_of_ble_eq_true rfl, Nat.zero_le _, Nat.zero_le _⟩ (rv_8 B hH (k0)) (tw_1041 B.2.2.2.2.1) rfl hl.1 rfl (Nat.le_of_ble_eq_true rfl) dX8_readSplice_93 ?_
              clear hw hH
              intro r38 h37 H locs hw hH
              refine lv_if_eq (tgt := 103) B.1 B.2.1 dX8_readSplice_96 (by decide) (fun c39 => ?_) (fun c39 => ?_)
              · replace hw := hw.1 c39
                refine lv_iconst (v := 0) B.1 B.2.1 dX8_readSplice_103 (by decide) ?_
                exact e_z B hr (by decide) hH hw dX8_readSplice_104
              · replace hw := hw.2 c39
                refine lv_iconst (v := 1) B.1 B.2.1 dX8_readSplice_99 (by decide) ?_
                refine lv_goto (tgt := 104) B.1 B.2.1 dX8_readSplice_100 (by decide) ?_
                exact e_z B hr (by decide) hH hw dX8_readSplice_104
            · replace hw := hw.2 c36
              refine lv_iconst (v := 1) B.1 B.2.1 dX8_readSplice_88 (by decide) ?_
              refine lv_goto (tgt := 93) B.1 B.2.1 dX8_readSplice_89 (by decide) ?_
              refine c_V_I (own := RX8) (As := [.int 1]) (rest := []) B hH (cy_X8_done B.2.2.2.2.1) (ct_X8_done B.2.2.2.2.2.2.2 l a0 1 h34 _ _ (k0) hw) ⟨⟨rfl, rfl⟩, Nat.le_of_ble_eq_true rfl, Nat.le_of_ble_eq_true rfl, Nat.zero_le _, Nat.zero_le _⟩ (rv_8 B hH (k0)) (tw_1041 B.2.2.2.2.1) rfl hl.1 rfl (Nat.le_of_ble_eq_true rfl) dX8_readSplice_93 ?_
              clear hw hH
              intro r41 h40 H locs hw hH
              refine lv_if_eq (tgt := 103) B.1 B.2.1 dX8_readSplice_96 (by decide) (fun c42 => ?_) (fun c42 => ?_)
              · replace hw := hw.1 c42
                refine lv_iconst (v := 0) B.1 B.2.1 dX8_readSplice_103 (by decide) ?_
                exact e_z B hr (by decide) hH hw dX8_readSplice_104
              · replace hw := hw.2 c42
                refine lv_iconst (v := 1) B.1 B.2.1 dX8_readSplice_99 (by decide) ?_
                refine lv_goto (tgt := 104) B.1 B.2.1 dX8_readSplice_100 (by decide) ?_
                exact e_z B hr (by decide) hH hw dX8_readSplice_104
theorem cy_X8_readSpeed {s : State} {args : Array Value} (hG : GG s) : CYV s args yX8_readSpeed cX8_readSpeed 5 (some .boolean) 1 := CYV.of hG (fun _ _ hG => tw_1107 hG) (tw_8 hG) (tw_1106 hG) (tp_72 hG) (by decide +kernel)
set_option maxRecDepth 100000 in
set_option maxHeartbeats 4000000 in
theorem ct_X8_readSpeed {Z : ZT} (hZ : ZO Z) (l : Launch) (a0 : Nat) (a1 : Nat) (h : PH) (sz : Nat) (Q : Int32 → PH → Prop) (k0 : kd a0 = 8) (k1 : kd a1 = 10) (hw : wp_X8_readSpeed a0 a1 h Q) : MI Z l yX8_readSpeed cX8_readSpeed 5 (some .boolean) ({ frames := 3, cells := 0, slots := 0, locals := 74 } : Room) h sz [.ref (zA Z a0), .ref (zA Z a1)] Q := by
  refine open_M hZ (by decide +kernel) (by exact Nat.le_of_ble_eq_true rfl) ?_
  intro p e s m below meth c B hr hsz ls hl hH
  subst hsz
  have hl : lv_has ls 5 [(0, .ref (zA Z a0)), (1, .ref (zA Z a1))] := hl
  unfold wp_X8_readSpeed at hw
  refine lv_aload_n B.1 B.2.1 dX8_readSpeed_0 rfl (lv_at hl 0 rfl) ?_
  refine lv_iconst (v := 0) B.1 B.2.1 dX8_readSpeed_1 (by decide) ?_
  refine c_V_I (own := RX8) (As := [.int 0]) (rest := []) B hH (cy_X8_loopSign B.2.2.2.2.1) (ct_X8_loopSign B.2.2.2.2.2.2.2 l a0 0 h _ _ (k0) hw) ⟨⟨rfl, rfl⟩, Nat.le_of_ble_eq_true rfl, Nat.le_of_ble_eq_true rfl, Nat.zero_le _, Nat.zero_le _⟩ (rv_8 B hH (k0)) (tw_1079 B.2.2.2.2.1) rfl hl.1 rfl (Nat.le_of_ble_eq_true rfl) dX8_readSpeed_2 ?_
  clear hw hH
  intro r2 h1 H locs hw hH
  refine lv_istore_n (lv' := [(2, .int r2), (0, .ref (zA Z a0)), (1, .ref (zA Z a1))]) B.1 B.2.1 dX8_readSpeed_5 rfl hl (by decide) (by first | rfl | simp [va_re_cat, Value.category]) ?_
  clear hl
  intro ls hl
  refine lv_aload_n B.1 B.2.1 dX8_readSpeed_6 rfl (lv_at hl 1 rfl) ?_
  refine lv_iload_n B.1 B.2.1 dX8_readSpeed_7 rfl (lv_at hl 0 rfl) ?_
  refine lv_iconst (v := 1) B.1 B.2.1 dX8_readSpeed_8 (by decide) ?_
  refine lv_iconst (v := 1) B.1 B.2.1 dX8_readSpeed_9 (by decide) ?_
  refine lv_bipush (v := 9) B.1 B.2.1 dX8_readSpeed_10 (by decide) ?_
  refine c_V_I (own := RX8) (As := [.int r2, .int 1, .int 1, .int 9]) (rest := []) B hH (cy_X8_figures B.2.2.2.2.1) (ct_X8_figures B.2.2.2.2.2.2.2 l a0 r2 1 1 9 h1 _ _ (k0) hw) ⟨⟨rfl, rfl⟩, Nat.le_of_ble_eq_true rfl, Nat.le_of_ble_eq_true rfl, Nat.zero_le _, Nat.zero_le _⟩ (rv_8 B hH (k0)) (tw_1033 B.2.2.2.2.1) rfl hl.1 rfl (Nat.le_of_ble_eq_true rfl) dX8_readSpeed_12 ?_
  clear hw hH
  intro r4 h3 H locs hw hH
  refine lv_istore_n (lv' := [(3, .int r4), (2, .int r2), (0, .ref (zA Z a0)), (1, .ref (zA Z a1))]) B.1 B.2.1 dX8_readSpeed_15 rfl hl (by decide) (by first | rfl | simp [va_re_cat, Value.category]) ?_
  clear hl
  intro ls hl
  refine lv_aload_n B.1 B.2.1 dX8_readSpeed_16 rfl (lv_at hl 2 rfl) ?_
  refine lv_iload_n B.1 B.2.1 dX8_readSpeed_17 rfl (lv_at hl 0 rfl) ?_
  refine lv_iconst (v := 1) B.1 B.2.1 dX8_readSpeed_18 (by decide) ?_
  refine lv_iconst (v := 1) B.1 B.2.1 dX8_readSpeed_19 (by decide) ?_
  refine lv_bipush (v := 9) B.1 B.2.1 dX8_readSpeed_20 (by decide) ?_
  refine c_V_I (own := RX8) (As := [.int r4, .int 1, .int 1, .int 9]) (rest := []) B hH (cy_X8_figures B.2.2.2.2.1) (ct_X8_figures B.2.2.2.2.2.2.2 l a0 r4 1 1 9 h3 _ _ (k0) hw) ⟨⟨rfl, rfl⟩, Nat.le_of_ble_eq_true rfl, Nat.le_of_ble_eq_true rfl, Nat.zero_le _, Nat.zero_le _⟩ (rv_8 B hH (k0)) (tw_1033 B.2.2.2.2.1) rfl hl.1 rfl (Nat.le_of_ble_eq_true rfl) dX8_readSpeed_22 ?_
  clear hw hH
  intro r6 h5 H locs hw hH
  refine lv_istore (lv' := [(4, .int r6), (3, .int r4), (2, .int r2), (0, .ref (zA Z a0)), (1, .ref (zA Z a1))]) B.1 B.2.1 dX8_readSpeed_25 hl (by decide) (by first | rfl | simp [va_re_cat, Value.category]) ?_
  clear hl
  intro ls hl
  refine lv_iload B.1 B.2.1 dX8_readSpeed_27 (lv_at hl 0 rfl) ?_
  refine lv_iconst (v := (-1)) B.1 B.2.1 dX8_readSpeed_29 (by decide) ?_
  refine lv_icmp_eq (tgt := 68) B.1 B.2.1 dX8_readSpeed_30 (by decide) (fun c7 => ?_) (fun c7 => ?_)
  · replace hw := hw.1 c7
    refine lv_iconst (v := 0) B.1 B.2.1 dX8_readSpeed_68 (by decide) ?_
    exact e_z B hr (by decide) hH hw dX8_readSpeed_69
  · replace hw := hw.2 c7
    refine lv_aload_n B.1 B.2.1 dX8_readSpeed_33 rfl (lv_at hl 3 rfl) ?_
    refine lv_aload_n B.1 B.2.1 dX8_readSpeed_34 rfl (lv_at hl 4 rfl) ?_
    refine lv_iload_n B.1 B.2.1 dX8_readSpeed_35 rfl (lv_at hl 2 rfl) ?_
    refine c_S_I (own := RX8) (As := [.ref (zA Z a1), .int r2]) (rest := [.ref (zA Z a0)]) B hH (cy_X8_isLoop B.2.2.2.2.1) (ct_X8_isLoop B.2.2.2.2.2.2.2 l a1 r2 h5 _ _ (k1) hw) ⟨⟨rfl, rfl⟩, Nat.le_of_ble_eq_true rfl, Nat.le_of_ble_eq_true rfl, Nat.zero_le _, Nat.zero_le _⟩ (tw_1083 B.2.2.2.2.1) rfl hl.1 rfl (Nat.le_of_ble_eq_true rfl) dX8_readSpeed_36 ?_
    clear hw hH
    intro r9 h8 H locs hw hH
    refine lv_if_eq (tgt := 57) B.1 B.2.1 dX8_readSpeed_39 (by decide) (fun c10 => ?_) (fun c10 => ?_)
    · replace hw := hw.1 c10
      refine lv_iconst (v := 0) B.1 B.2.1 dX8_readSpeed_57 (by decide) ?_
      refine c_V_I (own := RX8) (As := [.int 0]) (rest := []) B hH (cy_X8_done B.2.2.2.2.1) (ct_X8_done B.2.2.2.2.2.2.2 l a0 0 h8 _ _ (k0) hw) ⟨⟨rfl, rfl⟩, Nat.le_of_ble_eq_true rfl, Nat.le_of_ble_eq_true rfl, Nat.zero_le _, Nat.zero_le _⟩ (rv_8 B hH (k0)) (tw_1041 B.2.2.2.2.1) rfl hl.1 rfl (Nat.le_of_ble_eq_true rfl) dX8_readSpeed_58 ?_
      clear hw hH
      intro r12 h11 H locs hw hH
      refine lv_if_eq (tgt := 68) B.1 B.2.1 dX8_readSpeed_61 (by decide) (fun c13 => ?_) (fun c13 => ?_)
      · replace hw := hw.1 c13
        refine lv_iconst (v := 0) B.1 B.2.1 dX8_readSpeed_68 (by decide) ?_
        exact e_z B hr (by decide) hH hw dX8_readSpeed_69
      · replace hw := hw.2 c13
        refine lv_iconst (v := 1) B.1 B.2.1 dX8_readSpeed_64 (by decide) ?_
        refine lv_goto (tgt := 69) B.1 B.2.1 dX8_readSpeed_65 (by decide) ?_
        exact e_z B hr (by decide) hH hw dX8_readSpeed_69
    · replace hw := hw.2 c10
      refine lv_aload_n B.1 B.2.1 dX8_readSpeed_42 rfl (lv_at hl 4 rfl) ?_
      refine lv_iload_n B.1 B.2.1 dX8_readSpeed_43 rfl (lv_at hl 2 rfl) ?_
      refine lv_iload_n B.1 B.2.1 dX8_readSpeed_44 rfl (lv_at hl 1 rfl) ?_
      refine lv_iload B.1 B.2.1 dX8_readSpeed_45 (lv_at hl 0 rfl) ?_
      refine c_S_I (own := RX8) (As := [.ref (zA Z a1), .int r2, .int r4, .int r6]) (rest := [.ref (zA Z a0)]) B hH (cy_X8_speedOn B.2.2.2.2.1) (ct_X8_speedOn B.2.2.2.2.2.2.2 l a1 r2 r4 r6 h8 _ _ (k1) hw) ⟨⟨rfl, rfl⟩, Nat.le_of_ble_eq_true rfl, Nat.le_of_ble_eq_true rfl, Nat.zero_le _, Nat.zero_le _⟩ (tw_1108 B.2.2.2.2.1) rfl hl.1 rfl (Nat.le_of_ble_eq_true rfl) dX8_readSpeed_47 ?_
      clear hw hH
      intro r15 h14 H locs hw hH
      refine lv_if_lt (tgt := 57) B.1 B.2.1 dX8_readSpeed_50 (by decide) (fun c16 => ?_) (fun c16 => ?_)
      · replace hw := hw.1 c16
        refine lv_iconst (v := 0) B.1 B.2.1 dX8_readSpeed_57 (by decide) ?_
        refine c_V_I (own := RX8) (As := [.int 0]) (rest := []) B hH (cy_X8_done B.2.2.2.2.1) (ct_X8_done B.2.2.2.2.2.2.2 l a0 0 h14 _ _ (k0) hw) ⟨⟨rfl, rfl⟩, Nat.le_of_ble_eq_true rfl, Nat.le_of_ble_eq_true rfl, Nat.zero_le _, Nat.zero_le _⟩ (rv_8 B hH (k0)) (tw_1041 B.2.2.2.2.1) rfl hl.1 rfl (Nat.le_of_ble_eq_true rfl) dX8_readSpeed_58 ?_
        clear hw hH
        intro r18 h17 H locs hw hH
        refine lv_if_eq (tgt := 68) B.1 B.2.1 dX8_readSpeed_61 (by decide) (fun c19 => ?_) (fun c19 => ?_)
        · replace hw := hw.1 c19
          refine lv_iconst (v := 0) B.1 B.2.1 dX8_readSpeed_68 (by decide) ?_
          exact e_z B hr (by decide) hH hw dX8_readSpeed_69
        · replace hw := hw.2 c19
          refine lv_iconst (v := 1) B.1 B.2.1 dX8_readSpeed_64 (by decide) ?_
          refine lv_goto (tgt := 69) B.1 B.2.1 dX8_readSpeed_65 (by decide) ?_
          exact e_z B hr (by decide) hH hw dX8_readSpeed_69
      · replace hw := hw.2 c16
        refine lv_iconst (v := 1) B.1 B.2.1 dX8_readSpeed_53 (by decide) ?_
        refine lv_goto (tgt := 58) B.1 B.2.1 dX8_readSpeed_54 (by decide) ?_
        refine c_V_I (own := RX8) (As := [.int 1]) (rest := []) B hH (cy_X8_done B.2.2.2.2.1) (ct_X8_done B.2.2.2.2.2.2.2 l a0 1 h14 _ _ (k0) hw) ⟨⟨rfl, rfl⟩, Nat.le_of_ble_eq_true rfl, Nat.le_of_ble_eq_true rfl, Nat.zero_le _, Nat.zero_le _⟩ (rv_8 B hH (k0)) (tw_1041 B.2.2.2.2.1) rfl hl.1 rfl (Nat.le_of_ble_eq_true rfl) dX8_readSpeed_58 ?_
        clear hw hH
        intro r21 h20 H locs hw hH
        refine lv_if_eq (tgt := 68) B.1 B.2.1 dX8_readSpeed_61 (by decide) (fun c22 => ?_) (fun c22 => ?_)
        · replace hw := hw.1 c22
          refine lv_iconst (v := 0) B.1 B.2.1 dX8_readSpeed_68 (by decide) ?_
          exact e_z B hr (by decide) hH hw dX8_readSpeed_69
        · replace hw := hw.2 c22
          refine lv_iconst (v := 1) B.1 B.2.1 dX8_readSpeed_64 (by decide) ?_
          refine lv_goto (tgt := 69) B.1 B.2.1 dX8_readSpeed_65 (by decide) ?_
          exact e_z B hr (by decide) hH hw dX8_readSpeed_69
theorem cy_X8_readCommand {s : State} {args : Array Value} (hG : GG s) : CYV s args yX8_readCommand cX8_readCommand 5 (some .boolean) 1 := CYV.of hG (fun _ _ hG => tw_1032 hG) (tw_8 hG) (tw_1031 hG) (tp_64 hG) (by decide +kernel)
set_option maxRecDepth 100000 in
set_option maxHeartbeats 4000000 in
theorem ct_X8_readCommand {Z : ZT} (hZ : ZO Z) (l : Launch) (a0 : Nat) (a1 : Nat) (h : PH) (sz : Nat) (Q : Int32 → PH → Prop) (k0 : kd a0 = 8) (k1 : kd a1 = 10) (hw : wp_X8_readCommand a0 a1 h Q) : MI Z l yX8_readCommand cX8_readCommand 5 (some .boolean) ({ frames := 6, cells := 0, slots := 0, locals := 137 } : Room) h sz [.ref (zA Z a0), .ref (zA Z a1)] Q := by
  refine open_M hZ (by decide +kernel) (by exact Nat.le_of_ble_eq_true rfl) ?_
  intro p e s m below meth c B hr hsz ls hl hH
  subst hsz
  have hl : lv_has ls 5 [(0, .ref (zA Z a0)), (1, .ref (zA Z a1))] := hl
  unfold wp_X8_readCommand at hw
  refine lv_aload_n B.1 B.2.1 dX8_readCommand_0 rfl (lv_at hl 0 rfl) ?_
  refine r_get B hH (own := RX8) (kd_n B (k0) (by decide) (by decide)) (ct_8 (k0)) rfl (ul_8 B.2.2.2.2.1) 1 (by decide) rfl (tw_967 B.2.2.2.2.1) dX8_readCommand_1 ?_
  refine lv_aload_n B.1 B.2.1 dX8_readCommand_4 rfl (lv_at hl 0 rfl) ?_
  refine r_get B hH (own := RX8) (kd_n B (k0) (by decide) (by decide)) (ct_8 (k0)) rfl (ul_8 B.2.2.2.2.1) 9 (by decide) rfl (tw_975 B.2.2.2.2.1) dX8_readCommand_5 ?_
  have q1 := hw.1
  replace hw := hw.2
  refine r_iald B hH (kf_8_1 (k0)) q1 dX8_readCommand_8 ?_
  refine lv_topi (fun x2 ex2 => ?_)
  replace hw := hw x2 ex2
  refine lv_istore_n (lv' := [(2, .int x2), (0, .ref (zA Z a0)), (1, .ref (zA Z a1))]) B.1 B.2.1 dX8_readCommand_9 rfl hl (by decide) (by first | rfl | simp [va_re_cat, Value.category]) ?_
  clear hl
  intro ls hl
  refine lv_aload_n B.1 B.2.1 dX8_readCommand_10 rfl (lv_at hl 1 rfl) ?_
  refine lv_dup B.1 B.2.1 dX8_readCommand_11 rfl ?_
  refine r_get B hH (own := RX8) (kd_n B (k0) (by decide) (by decide)) (ct_8 (k0)) rfl (ul_8 B.2.2.2.2.1) 9 (by decide) rfl (tw_975 B.2.2.2.2.1) dX8_readCommand_12 ?_
  refine lv_iconst (v := 1) B.1 B.2.1 dX8_readCommand_15 (by decide) ?_
  refine lv_iadd B.1 B.2.1 dX8_readCommand_16 ?_
  refine r_put B hH (own := RX8) (kd_n B (k0) (by decide) (by decide)) (ct_8 (k0)) rfl (ul_8 B.2.2.2.2.1) tyX8 tyX8_ok nmX8 9 (by decide) (ty := .int) rfl rfl rfl rfl (Nat.le_of_ble_eq_true rfl) (cs_8_9 (k0)) (tw_975 B.2.2.2.2.1) dX8_readCommand_17 ?_
  clear hH
  intro H locs hH
  obtain ⟨h3, eh3⟩ : ∃ z : PH, z = up2 h a0 9 ((h a0 9) + 1) := ⟨_, rfl⟩
  rw [← eh3] at hH
  replace hw := hw h3 eh3
  refine lv_iload_n B.1 B.2.1 dX8_readCommand_20 rfl (lv_at hl 0 rfl) ?_
  by_cases c4 : (x2 = 99)
  · replace hw := hw.1 c4
    refine lv_tableIn (off := 177) (tgt := 198) B.1 B.2.1 dX8_readCommand_21 (by rw [c4]; decide) (by rw [c4]; decide) (by rw [c4]; rfl) (by decide) ?_
    refine lv_aload_n B.1 B.2.1 dX8_readCommand_198 rfl (lv_at hl 1 rfl) ?_
    refine lv_aload_n B.1 B.2.1 dX8_readCommand_199 rfl (lv_at hl 2 rfl) ?_
    refine c_V_I (own := RX8) (As := [.ref (zA Z a1)]) (rest := []) B hH (cy_X8_readSplice B.2.2.2.2.1) (ct_X8_readSplice B.2.2.2.2.2.2.2 l a0 a1 h3 _ _ (k0) (k1) hw) ⟨⟨rfl, rfl⟩, Nat.le_of_ble_eq_true rfl, Nat.le_of_ble_eq_true rfl, Nat.zero_le _, Nat.zero_le _⟩ (rv_8 B hH (k0)) (tw_1075 B.2.2.2.2.1) rfl hl.1 rfl (Nat.le_of_ble_eq_true rfl) dX8_readCommand_200 ?_
    clear hw hH
    intro r6 h5 H locs hw hH
    exact e_z B hr hw.1 hH hw.2 dX8_readCommand_203
  · by_cases c7 : (x2 = 100 ∨ x2 = 101 ∨ x2 = 102 ∨ x2 = 103 ∨ x2 = 104 ∨ x2 = 105 ∨ x2 = 106 ∨ x2 = 107 ∨ x2 = 110 ∨ x2 = 111 ∨ x2 = 113 ∨ x2 = 115 ∨ x2 = 117)
    · replace hw := hw.2.1 c7
      refine lv_tableIn (off := 367) (tgt := 388) B.1 B.2.1 dX8_readCommand_21 (by rcases c7 with e9 | e9 | e9 | e9 | e9 | e9 | e9 | e9 | e9 | e9 | e9 | e9 | e9 <;> rw [e9] <;> decide) (by rcases c7 with e9 | e9 | e9 | e9 | e9 | e9 | e9 | e9 | e9 | e9 | e9 | e9 | e9 <;> rw [e9] <;> decide) (by rcases c7 with e9 | e9 | e9 | e9 | e9 | e9 | e9 | e9 | e9 | e9 | e9 | e9 | e9 <;> rw [e9] <;> rfl) (by decide) ?_
      refine lv_aload_n B.1 B.2.1 dX8_readCommand_388 rfl (lv_at hl 1 rfl) ?_
      refine lv_dup B.1 B.2.1 dX8_readCommand_389 rfl ?_
      refine r_get B hH (own := RX8) (kd_n B (k0) (by decide) (by decide)) (ct_8 (k0)) rfl (ul_8 B.2.2.2.2.1) 9 (by decide) rfl (tw_975 B.2.2.2.2.1) dX8_readCommand_390 ?_
      refine lv_iconst (v := 1) B.1 B.2.1 dX8_readCommand_393 (by decide) ?_
      refine lv_isub B.1 B.2.1 dX8_readCommand_394 ?_
      refine r_put B hH (own := RX8) (kd_n B (k0) (by decide) (by decide)) (ct_8 (k0)) rfl (ul_8 B.2.2.2.2.1) tyX8 tyX8_ok nmX8 9 (by decide) (ty := .int) rfl rfl rfl rfl (Nat.le_of_ble_eq_true rfl) (cs_8_9 (k0)) (tw_975 B.2.2.2.2.1) dX8_readCommand_395 ?_
      clear hH
      intro H locs hH
      obtain ⟨h8, eh8⟩ : ∃ z : PH, z = up2 h3 a0 9 ((h3 a0 9) - 1) := ⟨_, rfl⟩
      rw [← eh8] at hH
      replace hw := hw h8 eh8
      refine lv_iconst (v := 0) B.1 B.2.1 dX8_readCommand_398 (by decide) ?_
      exact e_z B hr (by decide) hH hw dX8_readCommand_399
    · by_cases c9 : (x2 = 108)
      · replace hw := hw.2.2.1 c9
        refine lv_tableIn (off := 153) (tgt := 174) B.1 B.2.1 dX8_readCommand_21 (by rw [c9]; decide) (by rw [c9]; decide) (by rw [c9]; rfl) (by decide) ?_
        refine lv_aload_n B.1 B.2.1 dX8_readCommand_174 rfl (lv_at hl 1 rfl) ?_
        refine lv_aload_n B.1 B.2.1 dX8_readCommand_175 rfl (lv_at hl 2 rfl) ?_
        refine lv_iconst (v := 1) B.1 B.2.1 dX8_readCommand_176 (by decide) ?_
        have q10 := hw.1
        replace hw := hw.2
        refine r_iald B hH (k1) q10 dX8_readCommand_177 ?_
        refine lv_iconst (v := 4) B.1 B.2.1 dX8_readCommand_178 (by decide) ?_
        refine lv_icmp_ge (tgt := 193) B.1 B.2.1 dX8_readCommand_179 (by decide) (fun c11 => ?_) (fun c11 => ?_)
        · replace hw := hw.1 c11
          refine lv_iconst (v := 0) B.1 B.2.1 dX8_readCommand_193 (by decide) ?_
          refine c_V_I (own := RX8) (As := [.int 0]) (rest := []) B hH (cy_X8_done B.2.2.2.2.1) (ct_X8_done B.2.2.2.2.2.2.2 l a0 0 h3 _ _ (k0) hw) ⟨⟨rfl, rfl⟩, Nat.le_of_ble_eq_true rfl, Nat.le_of_ble_eq_true rfl, Nat.zero_le _, Nat.zero_le _⟩ (rv_8 B hH (k0)) (tw_1041 B.2.2.2.2.1) rfl hl.1 rfl (Nat.le_of_ble_eq_true rfl) dX8_readCommand_194 ?_
          clear hw hH
          intro r13 h12 H locs hw hH
          exact e_z B hr hw.1 hH hw.2 dX8_readCommand_197
        · replace hw := hw.2 c11
          refine lv_aload_n B.1 B.2.1 dX8_readCommand_182 rfl (lv_at hl 2 rfl) ?_
          refine c_S_I (own := RX8) (As := [.ref (zA Z a1)]) (rest := [.ref (zA Z a0)]) B hH (cy_X8_loopOn B.2.2.2.2.1) (ct_X8_loopOn B.2.2.2.2.2.2.2 l a1 h3 _ _ (k1) hw) ⟨⟨rfl, rfl⟩, Nat.le_of_ble_eq_true rfl, Nat.le_of_ble_eq_true rfl, Nat.zero_le _, Nat.zero_le _⟩ (tw_1069 B.2.2.2.2.1) rfl hl.1 rfl (Nat.le_of_ble_eq_true rfl) dX8_readCommand_183 ?_
          clear hw hH
          intro r15 h14 H locs hw hH
          refine lv_if_lt (tgt := 193) B.1 B.2.1 dX8_readCommand_186 (by decide) (fun c16 => ?_) (fun c16 => ?_)
          · replace hw := hw.1 c16
            refine lv_iconst (v := 0) B.1 B.2.1 dX8_readCommand_193 (by decide) ?_
            refine c_V_I (own := RX8) (As := [.int 0]) (rest := []) B hH (cy_X8_done B.2.2.2.2.1) (ct_X8_done B.2.2.2.2.2.2.2 l a0 0 h14 _ _ (k0) hw) ⟨⟨rfl, rfl⟩, Nat.le_of_ble_eq_true rfl, Nat.le_of_ble_eq_true rfl, Nat.zero_le _, Nat.zero_le _⟩ (rv_8 B hH (k0)) (tw_1041 B.2.2.2.2.1) rfl hl.1 rfl (Nat.le_of_ble_eq_true rfl) dX8_readCommand_194 ?_
            clear hw hH
            intro r18 h17 H locs hw hH
            exact e_z B hr hw.1 hH hw.2 dX8_readCommand_197
          · replace hw := hw.2 c16
            refine lv_iconst (v := 1) B.1 B.2.1 dX8_readCommand_189 (by decide) ?_
            refine lv_goto (tgt := 194) B.1 B.2.1 dX8_readCommand_190 (by decide) ?_
            refine c_V_I (own := RX8) (As := [.int 1]) (rest := []) B hH (cy_X8_done B.2.2.2.2.1) (ct_X8_done B.2.2.2.2.2.2.2 l a0 1 h14 _ _ (k0) hw) ⟨⟨rfl, rfl⟩, Nat.le_of_ble_eq_true rfl, Nat.le_of_ble_eq_true rfl, Nat.zero_le _, Nat.zero_le _⟩ (rv_8 B hH (k0)) (tw_1041 B.2.2.2.2.1) rfl hl.1 rfl (Nat.le_of_ble_eq_true rfl) dX8_readCommand_194 ?_
            clear hw hH
            intro r20 h19 H locs hw hH
            exact e_z B hr hw.1 hH hw.2 dX8_readCommand_197
      · by_cases c21 : (x2 = 109)
        · replace hw := hw.2.2.2.1 c21
          refine lv_tableIn (off := 189) (tgt := 210) B.1 B.2.1 dX8_readCommand_21 (by rw [c21]; decide) (by rw [c21]; decide) (by rw [c21]; rfl) (by decide) ?_
          refine lv_aload_n B.1 B.2.1 dX8_readCommand_210 rfl (lv_at hl 1 rfl) ?_
          refine lv_iconst (v := 0) B.1 B.2.1 dX8_readCommand_211 (by decide) ?_
          refine c_V_I (own := RX8) (As := [.int 0]) (rest := []) B hH (cy_X8_loopSign B.2.2.2.2.1) (ct_X8_loopSign B.2.2.2.2.2.2.2 l a0 0 h3 _ _ (k0) hw) ⟨⟨rfl, rfl⟩, Nat.le_of_ble_eq_true rfl, Nat.le_of_ble_eq_true rfl, Nat.zero_le _, Nat.zero_le _⟩ (rv_8 B hH (k0)) (tw_1079 B.2.2.2.2.1) rfl hl.1 rfl (Nat.le_of_ble_eq_true rfl) dX8_readCommand_212 ?_
          clear hw hH
          intro r23 h22 H locs hw hH
          refine lv_istore_n (lv' := [(3, .int r23), (2, .int x2), (0, .ref (zA Z a0)), (1, .ref (zA Z a1))]) B.1 B.2.1 dX8_readCommand_215 rfl hl (by decide) (by first | rfl | simp [va_re_cat, Value.category]) ?_
          clear hl
          intro ls hl
          refine lv_aload_n B.1 B.2.1 dX8_readCommand_216 rfl (lv_at hl 2 rfl) ?_
          refine lv_iload_n B.1 B.2.1 dX8_readCommand_217 rfl (lv_at hl 0 rfl) ?_
          refine lv_iconst (v := 1) B.1 B.2.1 dX8_readCommand_218 (by decide) ?_
          refine lv_iconst (v := 0) B.1 B.2.1 dX8_readCommand_219 (by decide) ?_
          refine lv_iconst (v := 1) B.1 B.2.1 dX8_readCommand_220 (by decide) ?_
          refine c_V_I (own := RX8) (As := [.int r23, .int 1, .int 0, .int 1]) (rest := []) B hH (cy_X8_figures B.2.2.2.2.1) (ct_X8_figures B.2.2.2.2.2.2.2 l a0 r23 1 0 1 h22 _ _ (k0) hw) ⟨⟨rfl, rfl⟩, Nat.le_of_ble_eq_true rfl, Nat.le_of_ble_eq_true rfl, Nat.zero_le _, Nat.zero_le _⟩ (rv_8 B hH (k0)) (tw_1033 B.2.2.2.2.1) rfl hl.1 rfl (Nat.le_of_ble_eq_true rfl) dX8_readCommand_221 ?_
          clear hw hH
          intro r25 h24 H locs hw hH
          refine lv_istore (lv' := [(4, .int r25), (3, .int r23), (2, .int x2), (0, .ref (zA Z a0)), (1, .ref (zA Z a1))]) B.1 B.2.1 dX8_readCommand_224 hl (by decide) (by first | rfl | simp [va_re_cat, Value.category]) ?_
          clear hl
          intro ls hl
          refine lv_iload B.1 B.2.1 dX8_readCommand_226 (lv_at hl 0 rfl) ?_
          refine lv_iconst (v := (-1)) B.1 B.2.1 dX8_readCommand_228 (by decide) ?_
          refine lv_icmp_eq (tgt := 275) B.1 B.2.1 dX8_readCommand_229 (by decide) (fun c26 => ?_) (fun c26 => ?_)
          · replace hw := hw.1 c26
            refine lv_iconst (v := 0) B.1 B.2.1 dX8_readCommand_275 (by decide) ?_
            exact e_z B hr (by decide) hH hw dX8_readCommand_276
          · replace hw := hw.2 c26
            refine lv_aload_n B.1 B.2.1 dX8_readCommand_232 rfl (lv_at hl 3 rfl) ?_
            refine lv_aload_n B.1 B.2.1 dX8_readCommand_233 rfl (lv_at hl 4 rfl) ?_
            refine lv_iload_n B.1 B.2.1 dX8_readCommand_234 rfl (lv_at hl 1 rfl) ?_
            refine c_S_I (own := RX8) (As := [.ref (zA Z a1), .int r23]) (rest := [.ref (zA Z a0)]) B hH (cy_X8_isLoop B.2.2.2.2.1) (ct_X8_isLoop B.2.2.2.2.2.2.2 l a1 r23 h24 _ _ (k1) hw) ⟨⟨rfl, rfl⟩, Nat.le_of_ble_eq_true rfl, Nat.le_of_ble_eq_true rfl, Nat.zero_le _, Nat.zero_le _⟩ (tw_1083 B.2.2.2.2.1) rfl hl.1 rfl (Nat.le_of_ble_eq_true rfl) dX8_readCommand_235 ?_
            clear hw hH
            intro r28 h27 H locs hw hH
            refine lv_if_eq (tgt := 264) B.1 B.2.1 dX8_readCommand_238 (by decide) (fun c29 => ?_) (fun c29 => ?_)
            · replace hw := hw.1 c29
              refine lv_iconst (v := 0) B.1 B.2.1 dX8_readCommand_264 (by decide) ?_
              refine c_V_I (own := RX8) (As := [.int 0]) (rest := []) B hH (cy_X8_done B.2.2.2.2.1) (ct_X8_done B.2.2.2.2.2.2.2 l a0 0 h27 _ _ (k0) hw) ⟨⟨rfl, rfl⟩, Nat.le_of_ble_eq_true rfl, Nat.le_of_ble_eq_true rfl, Nat.zero_le _, Nat.zero_le _⟩ (rv_8 B hH (k0)) (tw_1041 B.2.2.2.2.1) rfl hl.1 rfl (Nat.le_of_ble_eq_true rfl) dX8_readCommand_265 ?_
              clear hw hH
              intro r31 h30 H locs hw hH
              refine lv_if_eq (tgt := 275) B.1 B.2.1 dX8_readCommand_268 (by decide) (fun c32 => ?_) (fun c32 => ?_)
              · replace hw := hw.1 c32
                refine lv_iconst (v := 0) B.1 B.2.1 dX8_readCommand_275 (by decide) ?_
                exact e_z B hr (by decide) hH hw dX8_readCommand_276
              · replace hw := hw.2 c32
                refine lv_iconst (v := 1) B.1 B.2.1 dX8_readCommand_271 (by decide) ?_
                refine lv_goto (tgt := 276) B.1 B.2.1 dX8_readCommand_272 (by decide) ?_
                exact e_z B hr (by decide) hH hw dX8_readCommand_276
            · replace hw := hw.2 c29
              refine lv_aload_n B.1 B.2.1 dX8_readCommand_241 rfl (lv_at hl 4 rfl) ?_
              refine lv_iload_n B.1 B.2.1 dX8_readCommand_242 rfl (lv_at hl 1 rfl) ?_
              refine lv_iload B.1 B.2.1 dX8_readCommand_243 (lv_at hl 0 rfl) ?_
              refine lv_iconst (v := 1) B.1 B.2.1 dX8_readCommand_245 (by decide) ?_
              refine lv_icmp_ne (tgt := 253) B.1 B.2.1 dX8_readCommand_246 (by decide) (fun c33 => ?_) (fun c33 => ?_)
              · replace hw := hw.1 c33
                refine lv_iconst (v := 0) B.1 B.2.1 dX8_readCommand_253 (by decide) ?_
                refine c_S_I (own := RX8) (As := [.ref (zA Z a1), .int r23, .int 0]) (rest := [.ref (zA Z a0)]) B hH (cy_X8_muteOn B.2.2.2.2.1) (ct_X8_muteOn B.2.2.2.2.2.2.2 l a1 r23 0 h27 _ _ (k1) hw) ⟨⟨rfl, rfl⟩, Nat.le_of_ble_eq_true rfl, Nat.le_of_ble_eq_true rfl, Nat.zero_le _, Nat.zero_le _⟩ (tw_1111 B.2.2.2.2.1) rfl hl.1 rfl (Nat.le_of_ble_eq_true rfl) dX8_readCommand_254 ?_
                clear hw hH
                intro r35 h34 H locs hw hH
                refine lv_if_lt (tgt := 264) B.1 B.2.1 dX8_readCommand_257 (by decide) (fun c36 => ?_) (fun c36 => ?_)
                · replace hw := hw.1 c36
                  refine lv_iconst (v := 0) B.1 B.2.1 dX8_readCommand_264 (by decide) ?_
                  refine c_V_I (own := RX8) (As := [.int 0]) (rest := []) B hH (cy_X8_done B.2.2.2.2.1) (ct_X8_done B.2.2.2.2.2.2.2 l a0 0 h34 _ _ (k0) hw) ⟨⟨rfl, rfl⟩, Nat.le_of_ble_eq_true rfl, Nat.le_of_ble_eq_true rfl, Nat.zero_le _, Nat.zero_le _⟩ (rv_8 B hH (k0)) (tw_1041 B.2.2.2.2.1) rfl hl.1 rfl (Nat.le_of_ble_eq_true rfl) dX8_readCommand_265 ?_
                  clear hw hH
                  intro r38 h37 H locs hw hH
                  refine lv_if_eq (tgt := 275) B.1 B.2.1 dX8_readCommand_268 (by decide) (fun c39 => ?_) (fun c39 => ?_)
                  · replace hw := hw.1 c39
                    refine lv_iconst (v := 0) B.1 B.2.1 dX8_readCommand_275 (by decide) ?_
                    exact e_z B hr (by decide) hH hw dX8_readCommand_276
                  · replace hw := hw.2 c39
                    refine lv_iconst (v := 1) B.1 B.2.1 dX8_readCommand_271 (by decide) ?_
                    refine lv_goto (tgt := 276) B.1 B.2.1 dX8_readCommand_272 (by decide) ?_
                    exact e_z B hr (by decide) hH hw dX8_readCommand_276
                · replace hw := hw.2 c36
                  refine lv_iconst (v := 1) B.1 B.2.1 dX8_readCommand_260 (by decide) ?_
                  refine lv_goto (tgt := 265) B.1 B.2.1 dX8_readCommand_261 (by decide) ?_
                  refine c_V_I (own := RX8) (As := [.int 1]) (rest := []) B hH (cy_X8_done B.2.2.2.2.1) (ct_X8_done B.2.2.2.2.2.2.2 l a0 1 h34 _ _ (k0) hw) ⟨⟨rfl, rfl⟩, Nat.le_of_ble_eq_true rfl, Nat.le_of_ble_eq_true rfl, Nat.zero_le _, Nat.zero_le _⟩ (rv_8 B hH (k0)) (tw_1041 B.2.2.2.2.1) rfl hl.1 rfl (Nat.le_of_ble_eq_true rfl) dX8_readCommand_265 ?_
                  clear hw hH
                  intro r41 h40 H locs hw hH
                  refine lv_if_eq (tgt := 275) B.1 B.2.1 dX8_readCommand_268 (by decide) (fun c42 => ?_) (fun c42 => ?_)
                  · replace hw := hw.1 c42
                    refine lv_iconst (v := 0) B.1 B.2.1 dX8_readCommand_275 (by decide) ?_
                    exact e_z B hr (by decide) hH hw dX8_readCommand_276
                  · replace hw := hw.2 c42
                    refine lv_iconst (v := 1) B.1 B.2.1 dX8_readCommand_271 (by decide) ?_
                    refine lv_goto (tgt := 276) B.1 B.2.1 dX8_readCommand_272 (by decide) ?_
                    exact e_z B hr (by decide) hH hw dX8_readCommand_276
              · replace hw := hw.2 c33
                refine lv_iconst (v := 1) B.1 B.2.1 dX8_readCommand_249 (by decide) ?_
                refine lv_goto (tgt := 254) B.1 B.2.1 dX8_readCommand_250 (by decide) ?_
                refine c_S_I (own := RX8) (As := [.ref (zA Z a1), .int r23, .int 1]) (rest := [.ref (zA Z a0)]) B hH (cy_X8_muteOn B.2.2.2.2.1) (ct_X8_muteOn B.2.2.2.2.2.2.2 l a1 r23 1 h27 _ _ (k1) hw) ⟨⟨rfl, rfl⟩, Nat.le_of_ble_eq_true rfl, Nat.le_of_ble_eq_true rfl, Nat.zero_le _, Nat.zero_le _⟩ (tw_1111 B.2.2.2.2.1) rfl hl.1 rfl (Nat.le_of_ble_eq_true rfl) dX8_readCommand_254 ?_
                clear hw hH
                intro r44 h43 H locs hw hH
                refine lv_if_lt (tgt := 264) B.1 B.2.1 dX8_readCommand_257 (by decide) (fun c45 => ?_) (fun c45 => ?_)
                · replace hw := hw.1 c45
                  refine lv_iconst (v := 0) B.1 B.2.1 dX8_readCommand_264 (by decide) ?_
                  refine c_V_I (own := RX8) (As := [.int 0]) (rest := []) B hH (cy_X8_done B.2.2.2.2.1) (ct_X8_done B.2.2.2.2.2.2.2 l a0 0 h43 _ _ (k0) hw) ⟨⟨rfl, rfl⟩, Nat.le_of_ble_eq_true rfl, Nat.le_of_ble_eq_true rfl, Nat.zero_le _, Nat.zero_le _⟩ (rv_8 B hH (k0)) (tw_1041 B.2.2.2.2.1) rfl hl.1 rfl (Nat.le_of_ble_eq_true rfl) dX8_readCommand_265 ?_
                  clear hw hH
                  intro r47 h46 H locs hw hH
                  refine lv_if_eq (tgt := 275) B.1 B.2.1 dX8_readCommand_268 (by decide) (fun c48 => ?_) (fun c48 => ?_)
                  · replace hw := hw.1 c48
                    refine lv_iconst (v := 0) B.1 B.2.1 dX8_readCommand_275 (by decide) ?_
                    exact e_z B hr (by decide) hH hw dX8_readCommand_276
                  · replace hw := hw.2 c48
                    refine lv_iconst (v := 1) B.1 B.2.1 dX8_readCommand_271 (by decide) ?_
                    refine lv_goto (tgt := 276) B.1 B.2.1 dX8_readCommand_272 (by decide) ?_
                    exact e_z B hr (by decide) hH hw dX8_readCommand_276
                · replace hw := hw.2 c45
                  refine lv_iconst (v := 1) B.1 B.2.1 dX8_readCommand_260 (by decide) ?_
                  refine lv_goto (tgt := 265) B.1 B.2.1 dX8_readCommand_261 (by decide) ?_
                  refine c_V_I (own := RX8) (As := [.int 1]) (rest := []) B hH (cy_X8_done B.2.2.2.2.1) (ct_X8_done B.2.2.2.2.2.2.2 l a0 1 h43 _ _ (k0) hw) ⟨⟨rfl, rfl⟩, Nat.le_of_ble_eq_true rfl, Nat.le_of_ble_eq_true rfl, Nat.zero_le _, Nat.zero_le _⟩ (rv_8 B hH (k0)) (tw_1041 B.2.2.2.2.1) rfl hl.1 rfl (Nat.le_of_ble_eq_true rfl) dX8_readCommand_265 ?_
                  clear hw hH
                  intro r50 h49 H locs hw hH
                  refine lv_if_eq (tgt := 275) B.1 B.2.1 dX8_readCommand_268 (by decide) (fun c51 => ?_) (fun c51 => ?_)
                  · replace hw := hw.1 c51
                    refine lv_iconst (v := 0) B.1 B.2.1 dX8_readCommand_275 (by decide) ?_
                    exact e_z B hr (by decide) hH hw dX8_readCommand_276
                  · replace hw := hw.2 c51
                    refine lv_iconst (v := 1) B.1 B.2.1 dX8_readCommand_271 (by decide) ?_
                    refine lv_goto (tgt := 276) B.1 B.2.1 dX8_readCommand_272 (by decide) ?_
                    exact e_z B hr (by decide) hH hw dX8_readCommand_276
        · by_cases c52 : (x2 = 112)
          · replace hw := hw.2.2.2.2.1 c52
            refine lv_tableIn (off := 147) (tgt := 168) B.1 B.2.1 dX8_readCommand_21 (by rw [c52]; decide) (by rw [c52]; decide) (by rw [c52]; rfl) (by decide) ?_
            refine lv_aload_n B.1 B.2.1 dX8_readCommand_168 rfl (lv_at hl 1 rfl) ?_
            refine lv_aload_n B.1 B.2.1 dX8_readCommand_169 rfl (lv_at hl 2 rfl) ?_
            refine c_V_I (own := RX8) (As := [.ref (zA Z a1)]) (rest := []) B hH (cy_X8_readPaint B.2.2.2.2.1) (ct_X8_readPaint B.2.2.2.2.2.2.2 l a0 a1 h3 _ _ (k0) (k1) hw) ⟨⟨rfl, rfl⟩, Nat.le_of_ble_eq_true rfl, Nat.le_of_ble_eq_true rfl, Nat.zero_le _, Nat.zero_le _⟩ (rv_8 B hH (k0)) (tw_1045 B.2.2.2.2.1) rfl hl.1 rfl (Nat.le_of_ble_eq_true rfl) dX8_readCommand_170 ?_
            clear hw hH
            intro r54 h53 H locs hw hH
            exact e_z B hr hw.1 hH hw.2 dX8_readCommand_173
          · by_cases c55 : (x2 = 114)
            · replace hw := hw.2.2.2.2.2.1 c55
              refine lv_tableIn (off := 99) (tgt := 120) B.1 B.2.1 dX8_readCommand_21 (by rw [c55]; decide) (by rw [c55]; decide) (by rw [c55]; rfl) (by decide) ?_
              refine lv_aload_n B.1 B.2.1 dX8_readCommand_120 rfl (lv_at hl 1 rfl) ?_
              refine lv_iconst (v := 0) B.1 B.2.1 dX8_readCommand_121 (by decide) ?_
              refine lv_iconst (v := 2) B.1 B.2.1 dX8_readCommand_122 (by decide) ?_
              refine lv_iconst (v := 2) B.1 B.2.1 dX8_readCommand_123 (by decide) ?_
              refine lv_bipush (v := 60) B.1 B.2.1 dX8_readCommand_124 (by decide) ?_
              refine c_V_I (own := RX8) (As := [.int 0, .int 2, .int 2, .int 60]) (rest := []) B hH (cy_X8_figures B.2.2.2.2.1) (ct_X8_figures B.2.2.2.2.2.2.2 l a0 0 2 2 60 h3 _ _ (k0) hw) ⟨⟨rfl, rfl⟩, Nat.le_of_ble_eq_true rfl, Nat.le_of_ble_eq_true rfl, Nat.zero_le _, Nat.zero_le _⟩ (rv_8 B hH (k0)) (tw_1033 B.2.2.2.2.1) rfl hl.1 rfl (Nat.le_of_ble_eq_true rfl) dX8_readCommand_126 ?_
              clear hw hH
              intro r57 h56 H locs hw hH
              refine lv_istore_n (lv' := [(3, .int r57), (2, .int x2), (0, .ref (zA Z a0)), (1, .ref (zA Z a1))]) B.1 B.2.1 dX8_readCommand_129 rfl hl (by decide) (by first | rfl | simp [va_re_cat, Value.category]) ?_
              clear hl
              intro ls hl
              refine lv_iload_n B.1 B.2.1 dX8_readCommand_130 rfl (lv_at hl 0 rfl) ?_
              refine lv_iconst (v := (-1)) B.1 B.2.1 dX8_readCommand_131 (by decide) ?_
              refine lv_icmp_eq (tgt := 166) B.1 B.2.1 dX8_readCommand_132 (by decide) (fun c58 => ?_) (fun c58 => ?_)
              · replace hw := hw.1 c58
                refine lv_iconst (v := 0) B.1 B.2.1 dX8_readCommand_166 (by decide) ?_
                exact e_z B hr (by decide) hH hw dX8_readCommand_167
              · replace hw := hw.2 c58
                refine lv_aload_n B.1 B.2.1 dX8_readCommand_135 rfl (lv_at hl 2 rfl) ?_
                refine lv_aload_n B.1 B.2.1 dX8_readCommand_136 rfl (lv_at hl 3 rfl) ?_
                refine lv_iconst (v := 0) B.1 B.2.1 dX8_readCommand_137 (by decide) ?_
                have q59 := hw.1
                replace hw := hw.2
                refine r_iald B hH (k1) q59 dX8_readCommand_138 ?_
                refine lv_iconst (v := 3) B.1 B.2.1 dX8_readCommand_139 (by decide) ?_
                refine lv_icmp_ge (tgt := 155) B.1 B.2.1 dX8_readCommand_140 (by decide) (fun c60 => ?_) (fun c60 => ?_)
                · replace hw := hw.1 c60
                  refine lv_iconst (v := 0) B.1 B.2.1 dX8_readCommand_155 (by decide) ?_
                  refine c_V_I (own := RX8) (As := [.int 0]) (rest := []) B hH (cy_X8_done B.2.2.2.2.1) (ct_X8_done B.2.2.2.2.2.2.2 l a0 0 h56 _ _ (k0) hw) ⟨⟨rfl, rfl⟩, Nat.le_of_ble_eq_true rfl, Nat.le_of_ble_eq_true rfl, Nat.zero_le _, Nat.zero_le _⟩ (rv_8 B hH (k0)) (tw_1041 B.2.2.2.2.1) rfl hl.1 rfl (Nat.le_of_ble_eq_true rfl) dX8_readCommand_156 ?_
                  clear hw hH
                  intro r62 h61 H locs hw hH
                  refine lv_if_eq (tgt := 166) B.1 B.2.1 dX8_readCommand_159 (by decide) (fun c63 => ?_) (fun c63 => ?_)
                  · replace hw := hw.1 c63
                    refine lv_iconst (v := 0) B.1 B.2.1 dX8_readCommand_166 (by decide) ?_
                    exact e_z B hr (by decide) hH hw dX8_readCommand_167
                  · replace hw := hw.2 c63
                    refine lv_iconst (v := 1) B.1 B.2.1 dX8_readCommand_162 (by decide) ?_
                    refine lv_goto (tgt := 167) B.1 B.2.1 dX8_readCommand_163 (by decide) ?_
                    exact e_z B hr (by decide) hH hw dX8_readCommand_167
                · replace hw := hw.2 c60
                  refine lv_aload_n B.1 B.2.1 dX8_readCommand_143 rfl (lv_at hl 3 rfl) ?_
                  refine lv_iload_n B.1 B.2.1 dX8_readCommand_144 rfl (lv_at hl 0 rfl) ?_
                  refine c_S_I (own := RX8) (As := [.ref (zA Z a1), .int r57]) (rest := [.ref (zA Z a0)]) B hH (cy_X8_reelOn B.2.2.2.2.1) (ct_X8_reelOn B.2.2.2.2.2.2.2 l a1 r57 h56 _ _ (k1) hw) ⟨⟨rfl, rfl⟩, Nat.le_of_ble_eq_true rfl, Nat.le_of_ble_eq_true rfl, Nat.zero_le _, Nat.zero_le _⟩ (tw_1038 B.2.2.2.2.1) rfl hl.1 rfl (Nat.le_of_ble_eq_true rfl) dX8_readCommand_145 ?_
                  clear hw hH
                  intro r65 h64 H locs hw hH
                  refine lv_if_lt (tgt := 155) B.1 B.2.1 dX8_readCommand_148 (by decide) (fun c66 => ?_) (fun c66 => ?_)
                  · replace hw := hw.1 c66
                    refine lv_iconst (v := 0) B.1 B.2.1 dX8_readCommand_155 (by decide) ?_
                    refine c_V_I (own := RX8) (As := [.int 0]) (rest := []) B hH (cy_X8_done B.2.2.2.2.1) (ct_X8_done B.2.2.2.2.2.2.2 l a0 0 h64 _ _ (k0) hw) ⟨⟨rfl, rfl⟩, Nat.le_of_ble_eq_true rfl, Nat.le_of_ble_eq_true rfl, Nat.zero_le _, Nat.zero_le _⟩ (rv_8 B hH (k0)) (tw_1041 B.2.2.2.2.1) rfl hl.1 rfl (Nat.le_of_ble_eq_true rfl) dX8_readCommand_156 ?_
                    clear hw hH
                    intro r68 h67 H locs hw hH
                    refine lv_if_eq (tgt := 166) B.1 B.2.1 dX8_readCommand_159 (by decide) (fun c69 => ?_) (fun c69 => ?_)
                    · replace hw := hw.1 c69
                      refine lv_iconst (v := 0) B.1 B.2.1 dX8_readCommand_166 (by decide) ?_
                      exact e_z B hr (by decide) hH hw dX8_readCommand_167
                    · replace hw := hw.2 c69
                      refine lv_iconst (v := 1) B.1 B.2.1 dX8_readCommand_162 (by decide) ?_
                      refine lv_goto (tgt := 167) B.1 B.2.1 dX8_readCommand_163 (by decide) ?_
                      exact e_z B hr (by decide) hH hw dX8_readCommand_167
                  · replace hw := hw.2 c66
                    refine lv_iconst (v := 1) B.1 B.2.1 dX8_readCommand_151 (by decide) ?_
                    refine lv_goto (tgt := 156) B.1 B.2.1 dX8_readCommand_152 (by decide) ?_
                    refine c_V_I (own := RX8) (As := [.int 1]) (rest := []) B hH (cy_X8_done B.2.2.2.2.1) (ct_X8_done B.2.2.2.2.2.2.2 l a0 1 h64 _ _ (k0) hw) ⟨⟨rfl, rfl⟩, Nat.le_of_ble_eq_true rfl, Nat.le_of_ble_eq_true rfl, Nat.zero_le _, Nat.zero_le _⟩ (rv_8 B hH (k0)) (tw_1041 B.2.2.2.2.1) rfl hl.1 rfl (Nat.le_of_ble_eq_true rfl) dX8_readCommand_156 ?_
                    clear hw hH
                    intro r71 h70 H locs hw hH
                    refine lv_if_eq (tgt := 166) B.1 B.2.1 dX8_readCommand_159 (by decide) (fun c72 => ?_) (fun c72 => ?_)
                    · replace hw := hw.1 c72
                      refine lv_iconst (v := 0) B.1 B.2.1 dX8_readCommand_166 (by decide) ?_
                      exact e_z B hr (by decide) hH hw dX8_readCommand_167
                    · replace hw := hw.2 c72
                      refine lv_iconst (v := 1) B.1 B.2.1 dX8_readCommand_162 (by decide) ?_
                      refine lv_goto (tgt := 167) B.1 B.2.1 dX8_readCommand_163 (by decide) ?_
                      exact e_z B hr (by decide) hH hw dX8_readCommand_167
            · by_cases c73 : (x2 = 116)
              · replace hw := hw.2.2.2.2.2.2.1 c73
                refine lv_tableIn (off := 256) (tgt := 277) B.1 B.2.1 dX8_readCommand_21 (by rw [c73]; decide) (by rw [c73]; decide) (by rw [c73]; rfl) (by decide) ?_
                refine lv_aload_n B.1 B.2.1 dX8_readCommand_277 rfl (lv_at hl 1 rfl) ?_
                refine lv_iconst (v := 0) B.1 B.2.1 dX8_readCommand_278 (by decide) ?_
                refine lv_iconst (v := 3) B.1 B.2.1 dX8_readCommand_279 (by decide) ?_
                refine lv_iconst (v := 1) B.1 B.2.1 dX8_readCommand_280 (by decide) ?_
                refine lv_sipush (v := 999) B.1 B.2.1 dX8_readCommand_281 (by decide) ?_
                refine c_V_I (own := RX8) (As := [.int 0, .int 3, .int 1, .int 999]) (rest := []) B hH (cy_X8_figures B.2.2.2.2.1) (ct_X8_figures B.2.2.2.2.2.2.2 l a0 0 3 1 999 h3 _ _ (k0) hw) ⟨⟨rfl, rfl⟩, Nat.le_of_ble_eq_true rfl, Nat.le_of_ble_eq_true rfl, Nat.zero_le _, Nat.zero_le _⟩ (rv_8 B hH (k0)) (tw_1033 B.2.2.2.2.1) rfl hl.1 rfl (Nat.le_of_ble_eq_true rfl) dX8_readCommand_284 ?_
                clear hw hH
                intro r75 h74 H locs hw hH
                refine lv_istore_n (lv' := [(3, .int r75), (2, .int x2), (0, .ref (zA Z a0)), (1, .ref (zA Z a1))]) B.1 B.2.1 dX8_readCommand_287 rfl hl (by decide) (by first | rfl | simp [va_re_cat, Value.category]) ?_
                clear hl
                intro ls hl
                refine lv_iload_n B.1 B.2.1 dX8_readCommand_288 rfl (lv_at hl 0 rfl) ?_
                refine lv_iconst (v := (-1)) B.1 B.2.1 dX8_readCommand_289 (by decide) ?_
                refine lv_icmp_eq (tgt := 317) B.1 B.2.1 dX8_readCommand_290 (by decide) (fun c76 => ?_) (fun c76 => ?_)
                · replace hw := hw.1 c76
                  refine lv_iconst (v := 0) B.1 B.2.1 dX8_readCommand_317 (by decide) ?_
                  exact e_z B hr (by decide) hH hw dX8_readCommand_318
                · replace hw := hw.2 c76
                  refine lv_aload_n B.1 B.2.1 dX8_readCommand_293 rfl (lv_at hl 2 rfl) ?_
                  refine lv_aload_n B.1 B.2.1 dX8_readCommand_294 rfl (lv_at hl 3 rfl) ?_
                  refine lv_iload_n B.1 B.2.1 dX8_readCommand_295 rfl (lv_at hl 0 rfl) ?_
                  refine c_S_I (own := RX8) (As := [.ref (zA Z a1), .int r75]) (rest := [.ref (zA Z a0)]) B hH (cy_X8_goOn B.2.2.2.2.1) (ct_X8_goOn B.2.2.2.2.2.2.2 l a1 r75 h74 _ _ (k1) hw) ⟨⟨rfl, rfl⟩, Nat.le_of_ble_eq_true rfl, Nat.le_of_ble_eq_true rfl, Nat.zero_le _, Nat.zero_le _⟩ (tw_1126 B.2.2.2.2.1) rfl hl.1 rfl (Nat.le_of_ble_eq_true rfl) dX8_readCommand_296 ?_
                  clear hw hH
                  intro r78 h77 H locs hw hH
                  refine lv_if_lt (tgt := 306) B.1 B.2.1 dX8_readCommand_299 (by decide) (fun c79 => ?_) (fun c79 => ?_)
                  · replace hw := hw.1 c79
                    refine lv_iconst (v := 0) B.1 B.2.1 dX8_readCommand_306 (by decide) ?_
                    refine c_V_I (own := RX8) (As := [.int 0]) (rest := []) B hH (cy_X8_done B.2.2.2.2.1) (ct_X8_done B.2.2.2.2.2.2.2 l a0 0 h77 _ _ (k0) hw) ⟨⟨rfl, rfl⟩, Nat.le_of_ble_eq_true rfl, Nat.le_of_ble_eq_true rfl, Nat.zero_le _, Nat.zero_le _⟩ (rv_8 B hH (k0)) (tw_1041 B.2.2.2.2.1) rfl hl.1 rfl (Nat.le_of_ble_eq_true rfl) dX8_readCommand_307 ?_
                    clear hw hH
                    intro r81 h80 H locs hw hH
                    refine lv_if_eq (tgt := 317) B.1 B.2.1 dX8_readCommand_310 (by decide) (fun c82 => ?_) (fun c82 => ?_)
                    · replace hw := hw.1 c82
                      refine lv_iconst (v := 0) B.1 B.2.1 dX8_readCommand_317 (by decide) ?_
                      exact e_z B hr (by decide) hH hw dX8_readCommand_318
                    · replace hw := hw.2 c82
                      refine lv_iconst (v := 1) B.1 B.2.1 dX8_readCommand_313 (by decide) ?_
                      refine lv_goto (tgt := 318) B.1 B.2.1 dX8_readCommand_314 (by decide) ?_
                      exact e_z B hr (by decide) hH hw dX8_readCommand_318
                  · replace hw := hw.2 c79
                    refine lv_iconst (v := 1) B.1 B.2.1 dX8_readCommand_302 (by decide) ?_
                    refine lv_goto (tgt := 307) B.1 B.2.1 dX8_readCommand_303 (by decide) ?_
                    refine c_V_I (own := RX8) (As := [.int 1]) (rest := []) B hH (cy_X8_done B.2.2.2.2.1) (ct_X8_done B.2.2.2.2.2.2.2 l a0 1 h77 _ _ (k0) hw) ⟨⟨rfl, rfl⟩, Nat.le_of_ble_eq_true rfl, Nat.le_of_ble_eq_true rfl, Nat.zero_le _, Nat.zero_le _⟩ (rv_8 B hH (k0)) (tw_1041 B.2.2.2.2.1) rfl hl.1 rfl (Nat.le_of_ble_eq_true rfl) dX8_readCommand_307 ?_
                    clear hw hH
                    intro r84 h83 H locs hw hH
                    refine lv_if_eq (tgt := 317) B.1 B.2.1 dX8_readCommand_310 (by decide) (fun c85 => ?_) (fun c85 => ?_)
                    · replace hw := hw.1 c85
                      refine lv_iconst (v := 0) B.1 B.2.1 dX8_readCommand_317 (by decide) ?_
                      exact e_z B hr (by decide) hH hw dX8_readCommand_318
                    · replace hw := hw.2 c85
                      refine lv_iconst (v := 1) B.1 B.2.1 dX8_readCommand_313 (by decide) ?_
                      refine lv_goto (tgt := 318) B.1 B.2.1 dX8_readCommand_314 (by decide) ?_
                      exact e_z B hr (by decide) hH hw dX8_readCommand_318
              · by_cases c86 : (x2 = 118)
                · replace hw := hw.2.2.2.2.2.2.2.1 c86
                  refine lv_tableIn (off := 183) (tgt := 204) B.1 B.2.1 dX8_readCommand_21 (by rw [c86]; decide) (by rw [c86]; decide) (by rw [c86]; rfl) (by decide) ?_
                  refine lv_aload_n B.1 B.2.1 dX8_readCommand_204 rfl (lv_at hl 1 rfl) ?_
                  refine lv_aload_n B.1 B.2.1 dX8_readCommand_205 rfl (lv_at hl 2 rfl) ?_
                  refine c_V_I (own := RX8) (As := [.ref (zA Z a1)]) (rest := []) B hH (cy_X8_readSpeed B.2.2.2.2.1) (ct_X8_readSpeed B.2.2.2.2.2.2.2 l a0 a1 h3 _ _ (k0) (k1) hw) ⟨⟨rfl, rfl⟩, Nat.le_of_ble_eq_true rfl, Nat.le_of_ble_eq_true rfl, Nat.zero_le _, Nat.zero_le _⟩ (rv_8 B hH (k0)) (tw_1104 B.2.2.2.2.1) rfl hl.1 rfl (Nat.le_of_ble_eq_true rfl) dX8_readCommand_206 ?_
                  clear hw hH
                  intro r88 h87 H locs hw hH
                  exact e_z B hr hw.1 hH hw.2 dX8_readCommand_209
                · by_cases c89 : (x2 = 119)
                  · replace hw := hw.2.2.2.2.2.2.2.2.1 c89
                    refine lv_tableIn (off := 298) (tgt := 319) B.1 B.2.1 dX8_readCommand_21 (by rw [c89]; decide) (by rw [c89]; decide) (by rw [c89]; rfl) (by decide) ?_
                    refine lv_aload_n B.1 B.2.1 dX8_readCommand_319 rfl (lv_at hl 1 rfl) ?_
                    refine lv_iconst (v := 0) B.1 B.2.1 dX8_readCommand_320 (by decide) ?_
                    refine c_V_I (own := RX8) (As := [.int 0]) (rest := []) B hH (cy_X8_reelSign B.2.2.2.2.1) (ct_X8_reelSign B.2.2.2.2.2.2.2 l a0 0 h3 _ _ (k0) hw) ⟨⟨rfl, rfl⟩, Nat.le_of_ble_eq_true rfl, Nat.le_of_ble_eq_true rfl, Nat.zero_le _, Nat.zero_le _⟩ (rv_8 B hH (k0)) (tw_1049 B.2.2.2.2.1) rfl hl.1 rfl (Nat.le_of_ble_eq_true rfl) dX8_readCommand_321 ?_
                    clear hw hH
                    intro r91 h90 H locs hw hH
                    refine lv_istore_n (lv' := [(3, .int r91), (2, .int x2), (0, .ref (zA Z a0)), (1, .ref (zA Z a1))]) B.1 B.2.1 dX8_readCommand_324 rfl hl (by decide) (by first | rfl | simp [va_re_cat, Value.category]) ?_
                    clear hl
                    intro ls hl
                    refine lv_aload_n B.1 B.2.1 dX8_readCommand_325 rfl (lv_at hl 2 rfl) ?_
                    refine lv_iload_n B.1 B.2.1 dX8_readCommand_326 rfl (lv_at hl 0 rfl) ?_
                    refine lv_iconst (v := 2) B.1 B.2.1 dX8_readCommand_327 (by decide) ?_
                    refine lv_iconst (v := 1) B.1 B.2.1 dX8_readCommand_328 (by decide) ?_
                    refine lv_bipush (v := 60) B.1 B.2.1 dX8_readCommand_329 (by decide) ?_
                    refine c_V_I (own := RX8) (As := [.int r91, .int 2, .int 1, .int 60]) (rest := []) B hH (cy_X8_figures B.2.2.2.2.1) (ct_X8_figures B.2.2.2.2.2.2.2 l a0 r91 2 1 60 h90 _ _ (k0) hw) ⟨⟨rfl, rfl⟩, Nat.le_of_ble_eq_true rfl, Nat.le_of_ble_eq_true rfl, Nat.zero_le _, Nat.zero_le _⟩ (rv_8 B hH (k0)) (tw_1033 B.2.2.2.2.1) rfl hl.1 rfl (Nat.le_of_ble_eq_true rfl) dX8_readCommand_331 ?_
                    clear hw hH
                    intro r93 h92 H locs hw hH
                    refine lv_istore (lv' := [(4, .int r93), (3, .int r91), (2, .int x2), (0, .ref (zA Z a0)), (1, .ref (zA Z a1))]) B.1 B.2.1 dX8_readCommand_334 hl (by decide) (by first | rfl | simp [va_re_cat, Value.category]) ?_
                    clear hl
                    intro ls hl
                    refine lv_iload B.1 B.2.1 dX8_readCommand_336 (lv_at hl 0 rfl) ?_
                    refine lv_iconst (v := (-1)) B.1 B.2.1 dX8_readCommand_338 (by decide) ?_
                    refine lv_icmp_eq (tgt := 386) B.1 B.2.1 dX8_readCommand_339 (by decide) (fun c94 => ?_) (fun c94 => ?_)
                    · replace hw := hw.1 c94
                      refine lv_iconst (v := 0) B.1 B.2.1 dX8_readCommand_386 (by decide) ?_
                      exact e_z B hr (by decide) hH hw dX8_readCommand_387
                    · replace hw := hw.2 c94
                      refine lv_aload_n B.1 B.2.1 dX8_readCommand_342 rfl (lv_at hl 3 rfl) ?_
                      refine lv_aload_n B.1 B.2.1 dX8_readCommand_343 rfl (lv_at hl 4 rfl) ?_
                      refine lv_iload_n B.1 B.2.1 dX8_readCommand_344 rfl (lv_at hl 1 rfl) ?_
                      refine c_S_I (own := RX8) (As := [.ref (zA Z a1), .int r91]) (rest := [.ref (zA Z a0)]) B hH (cy_X8_isReel B.2.2.2.2.1) (ct_X8_isReel B.2.2.2.2.2.2.2 l a1 r91 h92 _ _ (k1) hw) ⟨⟨rfl, rfl⟩, Nat.le_of_ble_eq_true rfl, Nat.le_of_ble_eq_true rfl, Nat.zero_le _, Nat.zero_le _⟩ (tw_1060 B.2.2.2.2.1) rfl hl.1 rfl (Nat.le_of_ble_eq_true rfl) dX8_readCommand_345 ?_
                      clear hw hH
                      intro r96 h95 H locs hw hH
                      refine lv_if_eq (tgt := 375) B.1 B.2.1 dX8_readCommand_348 (by decide) (fun c97 => ?_) (fun c97 => ?_)
                      · replace hw := hw.1 c97
                        refine lv_iconst (v := 0) B.1 B.2.1 dX8_readCommand_375 (by decide) ?_
                        refine c_V_I (own := RX8) (As := [.int 0]) (rest := []) B hH (cy_X8_done B.2.2.2.2.1) (ct_X8_done B.2.2.2.2.2.2.2 l a0 0 h95 _ _ (k0) hw) ⟨⟨rfl, rfl⟩, Nat.le_of_ble_eq_true rfl, Nat.le_of_ble_eq_true rfl, Nat.zero_le _, Nat.zero_le _⟩ (rv_8 B hH (k0)) (tw_1041 B.2.2.2.2.1) rfl hl.1 rfl (Nat.le_of_ble_eq_true rfl) dX8_readCommand_376 ?_
                        clear hw hH
                        intro r99 h98 H locs hw hH
                        refine lv_if_eq (tgt := 386) B.1 B.2.1 dX8_readCommand_379 (by decide) (fun c100 => ?_) (fun c100 => ?_)
                        · replace hw := hw.1 c100
                          refine lv_iconst (v := 0) B.1 B.2.1 dX8_readCommand_386 (by decide) ?_
                          exact e_z B hr (by decide) hH hw dX8_readCommand_387
                        · replace hw := hw.2 c100
                          refine lv_iconst (v := 1) B.1 B.2.1 dX8_readCommand_382 (by decide) ?_
                          refine lv_goto (tgt := 387) B.1 B.2.1 dX8_readCommand_383 (by decide) ?_
                          exact e_z B hr (by decide) hH hw dX8_readCommand_387
                      · replace hw := hw.2 c97
                        refine lv_iload B.1 B.2.1 dX8_readCommand_351 (lv_at hl 0 rfl) ?_
                        refine lv_aload_n B.1 B.2.1 dX8_readCommand_353 rfl (lv_at hl 4 rfl) ?_
                        refine lv_iload_n B.1 B.2.1 dX8_readCommand_354 rfl (lv_at hl 1 rfl) ?_
                        refine c_S_I (own := RX8) (As := [.ref (zA Z a1), .int r91]) (rest := [.int r93, .ref (zA Z a0)]) B hH (cy_X8_cells B.2.2.2.2.1) (ct_X8_cells B.2.2.2.2.2.2.2 l a1 r91 h95 _ _ (k1) hw) ⟨⟨rfl, rfl⟩, Nat.le_of_ble_eq_true rfl, Nat.le_of_ble_eq_true rfl, Nat.zero_le _, Nat.zero_le _⟩ (tw_1063 B.2.2.2.2.1) rfl hl.1 rfl (Nat.le_of_ble_eq_true rfl) dX8_readCommand_355 ?_
                        clear hw hH
                        intro r102 h101 H locs hw hH
                        refine lv_icmp_gt (tgt := 375) B.1 B.2.1 dX8_readCommand_358 (by decide) (fun c103 => ?_) (fun c103 => ?_)
                        · replace hw := hw.1 c103
                          refine lv_iconst (v := 0) B.1 B.2.1 dX8_readCommand_375 (by decide) ?_
                          refine c_V_I (own := RX8) (As := [.int 0]) (rest := []) B hH (cy_X8_done B.2.2.2.2.1) (ct_X8_done B.2.2.2.2.2.2.2 l a0 0 h101 _ _ (k0) hw) ⟨⟨rfl, rfl⟩, Nat.le_of_ble_eq_true rfl, Nat.le_of_ble_eq_true rfl, Nat.zero_le _, Nat.zero_le _⟩ (rv_8 B hH (k0)) (tw_1041 B.2.2.2.2.1) rfl hl.1 rfl (Nat.le_of_ble_eq_true rfl) dX8_readCommand_376 ?_
                          clear hw hH
                          intro r105 h104 H locs hw hH
                          refine lv_if_eq (tgt := 386) B.1 B.2.1 dX8_readCommand_379 (by decide) (fun c106 => ?_) (fun c106 => ?_)
                          · replace hw := hw.1 c106
                            refine lv_iconst (v := 0) B.1 B.2.1 dX8_readCommand_386 (by decide) ?_
                            exact e_z B hr (by decide) hH hw dX8_readCommand_387
                          · replace hw := hw.2 c106
                            refine lv_iconst (v := 1) B.1 B.2.1 dX8_readCommand_382 (by decide) ?_
                            refine lv_goto (tgt := 387) B.1 B.2.1 dX8_readCommand_383 (by decide) ?_
                            exact e_z B hr (by decide) hH hw dX8_readCommand_387
                        · replace hw := hw.2 c103
                          refine lv_aload_n B.1 B.2.1 dX8_readCommand_361 rfl (lv_at hl 4 rfl) ?_
                          refine lv_iload_n B.1 B.2.1 dX8_readCommand_362 rfl (lv_at hl 1 rfl) ?_
                          refine lv_iload B.1 B.2.1 dX8_readCommand_363 (lv_at hl 0 rfl) ?_
                          refine c_S_I (own := RX8) (As := [.ref (zA Z a1), .int r91, .int r93]) (rest := [.ref (zA Z a0)]) B hH (cy_X8_recordOn B.2.2.2.2.1) (ct_X8_recordOn B.2.2.2.2.2.2.2 l a1 r91 r93 h101 _ _ (k1) hw) ⟨⟨rfl, rfl⟩, Nat.le_of_ble_eq_true rfl, Nat.le_of_ble_eq_true rfl, Nat.zero_le _, Nat.zero_le _⟩ (tw_1129 B.2.2.2.2.1) rfl hl.1 rfl (Nat.le_of_ble_eq_true rfl) dX8_readCommand_365 ?_
                          clear hw hH
                          intro r108 h107 H locs hw hH
                          refine lv_if_lt (tgt := 375) B.1 B.2.1 dX8_readCommand_368 (by decide) (fun c109 => ?_) (fun c109 => ?_)
                          · replace hw := hw.1 c109
                            refine lv_iconst (v := 0) B.1 B.2.1 dX8_readCommand_375 (by decide) ?_
                            refine c_V_I (own := RX8) (As := [.int 0]) (rest := []) B hH (cy_X8_done B.2.2.2.2.1) (ct_X8_done B.2.2.2.2.2.2.2 l a0 0 h107 _ _ (k0) hw) ⟨⟨rfl, rfl⟩, Nat.le_of_ble_eq_true rfl, Nat.le_of_ble_eq_true rfl, Nat.zero_le _, Nat.zero_le _⟩ (rv_8 B hH (k0)) (tw_1041 B.2.2.2.2.1) rfl hl.1 rfl (Nat.le_of_ble_eq_true rfl) dX8_readCommand_376 ?_
                            clear hw hH
                            intro r111 h110 H locs hw hH
                            refine lv_if_eq (tgt := 386) B.1 B.2.1 dX8_readCommand_379 (by decide) (fun c112 => ?_) (fun c112 => ?_)
                            · replace hw := hw.1 c112
                              refine lv_iconst (v := 0) B.1 B.2.1 dX8_readCommand_386 (by decide) ?_
                              exact e_z B hr (by decide) hH hw dX8_readCommand_387
                            · replace hw := hw.2 c112
                              refine lv_iconst (v := 1) B.1 B.2.1 dX8_readCommand_382 (by decide) ?_
                              refine lv_goto (tgt := 387) B.1 B.2.1 dX8_readCommand_383 (by decide) ?_
                              exact e_z B hr (by decide) hH hw dX8_readCommand_387
                          · replace hw := hw.2 c109
                            refine lv_iconst (v := 1) B.1 B.2.1 dX8_readCommand_371 (by decide) ?_
                            refine lv_goto (tgt := 376) B.1 B.2.1 dX8_readCommand_372 (by decide) ?_
                            refine c_V_I (own := RX8) (As := [.int 1]) (rest := []) B hH (cy_X8_done B.2.2.2.2.1) (ct_X8_done B.2.2.2.2.2.2.2 l a0 1 h107 _ _ (k0) hw) ⟨⟨rfl, rfl⟩, Nat.le_of_ble_eq_true rfl, Nat.le_of_ble_eq_true rfl, Nat.zero_le _, Nat.zero_le _⟩ (rv_8 B hH (k0)) (tw_1041 B.2.2.2.2.1) rfl hl.1 rfl (Nat.le_of_ble_eq_true rfl) dX8_readCommand_376 ?_
                            clear hw hH
                            intro r114 h113 H locs hw hH
                            refine lv_if_eq (tgt := 386) B.1 B.2.1 dX8_readCommand_379 (by decide) (fun c115 => ?_) (fun c115 => ?_)
                            · replace hw := hw.1 c115
                              refine lv_iconst (v := 0) B.1 B.2.1 dX8_readCommand_386 (by decide) ?_
                              exact e_z B hr (by decide) hH hw dX8_readCommand_387
                            · replace hw := hw.2 c115
                              refine lv_iconst (v := 1) B.1 B.2.1 dX8_readCommand_382 (by decide) ?_
                              refine lv_goto (tgt := 387) B.1 B.2.1 dX8_readCommand_383 (by decide) ?_
                              exact e_z B hr (by decide) hH hw dX8_readCommand_387
                  · replace hw := hw.2.2.2.2.2.2.2.2.2 c4 (fun z => c7 (Or.inl z)) (fun z => c7 (Or.inr (Or.inl z))) (fun z => c7 (Or.inr (Or.inr (Or.inl z)))) (fun z => c7 (Or.inr (Or.inr (Or.inr (Or.inl z))))) (fun z => c7 (Or.inr (Or.inr (Or.inr (Or.inr (Or.inl z)))))) (fun z => c7 (Or.inr (Or.inr (Or.inr (Or.inr (Or.inr (Or.inl z))))))) (fun z => c7 (Or.inr (Or.inr (Or.inr (Or.inr (Or.inr (Or.inr (Or.inl z)))))))) (fun z => c7 (Or.inr (Or.inr (Or.inr (Or.inr (Or.inr (Or.inr (Or.inr (Or.inl z))))))))) c9 c21 (fun z => c7 (Or.inr (Or.inr (Or.inr (Or.inr (Or.inr (Or.inr (Or.inr (Or.inr (Or.inl z)))))))))) (fun z => c7 (Or.inr (Or.inr (Or.inr (Or.inr (Or.inr (Or.inr (Or.inr (Or.inr (Or.inr (Or.inl z))))))))))) c52 (fun z => c7 (Or.inr (Or.inr (Or.inr (Or.inr (Or.inr (Or.inr (Or.inr (Or.inr (Or.inr (Or.inr (Or.inl z)))))))))))) c55 (fun z => c7 (Or.inr (Or.inr (Or.inr (Or.inr (Or.inr (Or.inr (Or.inr (Or.inr (Or.inr (Or.inr (Or.inr (Or.inl z))))))))))))) c73 (fun z => c7 (Or.inr (Or.inr (Or.inr (Or.inr (Or.inr (Or.inr (Or.inr (Or.inr (Or.inr (Or.inr (Or.inr (Or.inr z))))))))))))) c86 c89
                    have t99 := lv_neT (x := x2) (k := 99) (a := 99) c4 (by decide)
                    have t100 := lv_neT (x := x2) (k := 100) (a := 100) (fun z => c7 (Or.inl z)) (by decide)
                    have t101 := lv_neT (x := x2) (k := 101) (a := 101) (fun z => c7 (Or.inr (Or.inl z))) (by decide)
                    have t102 := lv_neT (x := x2) (k := 102) (a := 102) (fun z => c7 (Or.inr (Or.inr (Or.inl z)))) (by decide)
                    have t103 := lv_neT (x := x2) (k := 103) (a := 103) (fun z => c7 (Or.inr (Or.inr (Or.inr (Or.inl z))))) (by decide)
                    have t104 := lv_neT (x := x2) (k := 104) (a := 104) (fun z => c7 (Or.inr (Or.inr (Or.inr (Or.inr (Or.inl z)))))) (by decide)
                    have t105 := lv_neT (x := x2) (k := 105) (a := 105) (fun z => c7 (Or.inr (Or.inr (Or.inr (Or.inr (Or.inr (Or.inl z))))))) (by decide)
                    have t106 := lv_neT (x := x2) (k := 106) (a := 106) (fun z => c7 (Or.inr (Or.inr (Or.inr (Or.inr (Or.inr (Or.inr (Or.inl z)))))))) (by decide)
                    have t107 := lv_neT (x := x2) (k := 107) (a := 107) (fun z => c7 (Or.inr (Or.inr (Or.inr (Or.inr (Or.inr (Or.inr (Or.inr (Or.inl z))))))))) (by decide)
                    have t108 := lv_neT (x := x2) (k := 108) (a := 108) c9 (by decide)
                    have t109 := lv_neT (x := x2) (k := 109) (a := 109) c21 (by decide)
                    have t110 := lv_neT (x := x2) (k := 110) (a := 110) (fun z => c7 (Or.inr (Or.inr (Or.inr (Or.inr (Or.inr (Or.inr (Or.inr (Or.inr (Or.inl z)))))))))) (by decide)
                    have t111 := lv_neT (x := x2) (k := 111) (a := 111) (fun z => c7 (Or.inr (Or.inr (Or.inr (Or.inr (Or.inr (Or.inr (Or.inr (Or.inr (Or.inr (Or.inl z))))))))))) (by decide)
                    have t112 := lv_neT (x := x2) (k := 112) (a := 112) c52 (by decide)
                    have t113 := lv_neT (x := x2) (k := 113) (a := 113) (fun z => c7 (Or.inr (Or.inr (Or.inr (Or.inr (Or.inr (Or.inr (Or.inr (Or.inr (Or.inr (Or.inr (Or.inl z)))))))))))) (by decide)
                    have t114 := lv_neT (x := x2) (k := 114) (a := 114) c55 (by decide)
                    have t115 := lv_neT (x := x2) (k := 115) (a := 115) (fun z => c7 (Or.inr (Or.inr (Or.inr (Or.inr (Or.inr (Or.inr (Or.inr (Or.inr (Or.inr (Or.inr (Or.inr (Or.inl z))))))))))))) (by decide)
                    have t116 := lv_neT (x := x2) (k := 116) (a := 116) c73 (by decide)
                    have t117 := lv_neT (x := x2) (k := 117) (a := 117) (fun z => c7 (Or.inr (Or.inr (Or.inr (Or.inr (Or.inr (Or.inr (Or.inr (Or.inr (Or.inr (Or.inr (Or.inr (Or.inr z))))))))))))) (by decide)
                    have t118 := lv_neT (x := x2) (k := 118) (a := 118) c86 (by decide)
                    have t119 := lv_neT (x := x2) (k := 119) (a := 119) c89 (by decide)
                    refine lv_tableOut (tgt := 388) B.1 B.2.1 dX8_readCommand_21 (by omega) (by decide) ?_
                    refine lv_aload_n B.1 B.2.1 dX8_readCommand_388 rfl (lv_at hl 1 rfl) ?_
                    refine lv_dup B.1 B.2.1 dX8_readCommand_389 rfl ?_
                    refine r_get B hH (own := RX8) (kd_n B (k0) (by decide) (by decide)) (ct_8 (k0)) rfl (ul_8 B.2.2.2.2.1) 9 (by decide) rfl (tw_975 B.2.2.2.2.1) dX8_readCommand_390 ?_
                    refine lv_iconst (v := 1) B.1 B.2.1 dX8_readCommand_393 (by decide) ?_
                    refine lv_isub B.1 B.2.1 dX8_readCommand_394 ?_
                    refine r_put B hH (own := RX8) (kd_n B (k0) (by decide) (by decide)) (ct_8 (k0)) rfl (ul_8 B.2.2.2.2.1) tyX8 tyX8_ok nmX8 9 (by decide) (ty := .int) rfl rfl rfl rfl (Nat.le_of_ble_eq_true rfl) (cs_8_9 (k0)) (tw_975 B.2.2.2.2.1) dX8_readCommand_395 ?_
                    clear hH
                    intro H locs hH
                    obtain ⟨h116, eh116⟩ : ∃ z : PH, z = up2 h3 a0 9 ((h3 a0 9) - 1) := ⟨_, rfl⟩
                    rw [← eh116] at hH
                    replace hw := hw h116 eh116
                    refine lv_iconst (v := 0) B.1 B.2.1 dX8_readCommand_398 (by decide) ?_
                    exact e_z B hr (by decide) hH hw dX8_readCommand_399
theorem cy_X8_readText {s : State} {args : Array Value} (hG : GG s) : CYV s args yX8_readText cX8_readText 2 (some .int) 1 := CYV.of hG (fun _ _ hG => tw_1028 hG) (tw_8 hG) (tw_1027 hG) (tp_63 hG) (by decide +kernel)
set_option maxRecDepth 100000 in
set_option maxHeartbeats 4000000 in
theorem ct_X8_readText {Z : ZT} (hZ : ZO Z) (l : Launch) (a0 : Nat) (a1 : Nat) (h : PH) (sz : Nat) (Q : Int32 → PH → Prop) (k0 : kd a0 = 8) (k1 : kd a1 = 10) (hw : wp_X8_readText a0 a1 h Q) : MI Z l yX8_readText cX8_readText 2 (some .int) ({ frames := 7, cells := 0, slots := 0, locals := 161 } : Room) h sz [.ref (zA Z a0), .ref (zA Z a1)] Q := by
  refine open_M hZ (by decide +kernel) (by exact Nat.le_of_ble_eq_true rfl) ?_
  intro p e s m below meth c B hr hsz ls hl hH
  subst hsz
  have hl : lv_has ls 2 [(0, .ref (zA Z a0)), (1, .ref (zA Z a1))] := hl
  unfold wp_X8_readText at hw
  have L39 : ∀ (b0 : Nat) (b1 : Nat), kd b0 = 8 → kd b1 = 10 → ∀ (n : Nat) (h : PH), ∀ (H : Heap) (locs : List Loc) (ls : Array Slot), wp_X8_readText_b39 b0 b1 Q n h → HH Z s h H locs → lv_has ls 2 [(0, .ref (zA Z b0)), (1, .ref (zA Z b1))] → W p l e ({ frames := 7, cells := 0, slots := 0, locals := 161 } : Room) s m ([.ref (zA Z a0), .ref (zA Z a1)]).toArray below meth c H locs 0 0 (MQ below (va_Qi Q (BZ Z) (fr Z s.heap.size)) ([.ref (zA Z a0), .ref (zA Z a1)]).toArray s 0 0 (fr Z s.heap.size)) (F0 m 39 ls []) := by
    intro b0 b1 kb0 kb1 n
    induction n with
    | zero => intro h H locs ls hw hH hl; exact absurd hw id
    | succ n ih =>
      intro h H locs ls hw hH hl
      unfold wp_X8_readText_b39 at hw
      refine lv_aload_n B.1 B.2.1 dX8_readText_39 rfl (lv_at hl 0 rfl) ?_
      refine r_get B hH (own := RX8) (kd_n B (kb0) (by decide) (by decide)) (ct_8 (kb0)) rfl (ul_8 B.2.2.2.2.1) 9 (by decide) rfl (tw_975 B.2.2.2.2.1) dX8_readText_40 ?_
      refine lv_aload_n B.1 B.2.1 dX8_readText_43 rfl (lv_at hl 0 rfl) ?_
      refine r_get B hH (own := RX8) (kd_n B (kb0) (by decide) (by decide)) (ct_8 (kb0)) rfl (ul_8 B.2.2.2.2.1) 2 (by decide) rfl (tw_968 B.2.2.2.2.1) dX8_readText_44 ?_
      refine lv_icmp_ge (tgt := 63) B.1 B.2.1 dX8_readText_47 (by decide) (fun c8 => ?_) (fun c8 => ?_)
      · replace hw := hw.1 c8
        refine lv_iconst (v := (-1)) B.1 B.2.1 dX8_readText_63 (by decide) ?_
        exact e_i B hr hH hw dX8_readText_64
      · replace hw := hw.2 c8
        refine lv_aload_n B.1 B.2.1 dX8_readText_50 rfl (lv_at hl 0 rfl) ?_
        refine lv_aload_n B.1 B.2.1 dX8_readText_51 rfl (lv_at hl 1 rfl) ?_
        refine c_V_I (own := RX8) (As := [.ref (zA Z b1)]) (rest := []) B hH (cy_X8_readCommand B.2.2.2.2.1) (ct_X8_readCommand B.2.2.2.2.2.2.2 l b0 b1 h _ _ (kb0) (kb1) hw) ⟨⟨rfl, rfl⟩, Nat.le_of_ble_eq_true rfl, Nat.le_of_ble_eq_true rfl, Nat.zero_le _, Nat.zero_le _⟩ (rv_8 B hH (kb0)) (tw_1029 B.2.2.2.2.1) rfl hl.1 rfl (Nat.le_of_ble_eq_true rfl) dX8_readText_52 ?_
        clear hw hH
        intro r10 h9 H locs hw hH
        refine lv_if_ne (tgt := 39) B.1 B.2.1 dX8_readText_55 (by decide) (fun c11 => ?_) (fun c11 => ?_)
        · replace hw := hw.1 c11
          exact ih  h9  _ _ _ hw hH (lv_sub hl [0, 1] rfl)
        · replace hw := hw.2 c11
          refine lv_aload_n B.1 B.2.1 dX8_readText_58 rfl (lv_at hl 0 rfl) ?_
          refine r_get B hH (own := RX8) (kd_n B (kb0) (by decide) (by decide)) (ct_8 (kb0)) rfl (ul_8 B.2.2.2.2.1) 9 (by decide) rfl (tw_975 B.2.2.2.2.1) dX8_readText_59 ?_
          exact e_i B hr hH hw dX8_readText_62
  refine lv_aload_n B.1 B.2.1 dX8_readText_0 rfl (lv_at hl 1 rfl) ?_
  refine c_S_V (own := RX8) (As := [.ref (zA Z a1)]) (rest := []) B hH (cy_X8_clear B.2.2.2.2.1) (ct_X8_clear B.2.2.2.2.2.2.2 l a1 h _ _ (k1) hw) ⟨⟨rfl, rfl⟩, Nat.le_of_ble_eq_true rfl, Nat.le_of_ble_eq_true rfl, Nat.zero_le _, Nat.zero_le _⟩ (tw_963 B.2.2.2.2.1) rfl hl.1 rfl (Nat.le_of_ble_eq_true rfl) dX8_readText_1 ?_
  clear hw hH
  intro h1 H locs hw hH
  refine lv_aload_n B.1 B.2.1 dX8_readText_4 rfl (lv_at hl 0 rfl) ?_
  refine lv_iconst (v := 0) B.1 B.2.1 dX8_readText_5 (by decide) ?_
  refine r_put B hH (own := RX8) (kd_n B (k0) (by decide) (by decide)) (ct_8 (k0)) rfl (ul_8 B.2.2.2.2.1) tyX8 tyX8_ok nmX8 10 (by decide) (ty := .int) rfl rfl rfl rfl (Nat.le_of_ble_eq_true rfl) (cs_8_10 (k0)) (tw_976 B.2.2.2.2.1) dX8_readText_6 ?_
  clear hH
  intro H locs hH
  obtain ⟨h2, eh2⟩ : ∃ z : PH, z = up2 h1 a0 10 0 := ⟨_, rfl⟩
  rw [← eh2] at hH
  replace hw := hw h2 eh2
  refine lv_aload_n B.1 B.2.1 dX8_readText_9 rfl (lv_at hl 0 rfl) ?_
  refine lv_iconst (v := 0) B.1 B.2.1 dX8_readText_10 (by decide) ?_
  refine r_put B hH (own := RX8) (kd_n B (k0) (by decide) (by decide)) (ct_8 (k0)) rfl (ul_8 B.2.2.2.2.1) tyX8 tyX8_ok nmX8 9 (by decide) (ty := .int) rfl rfl rfl rfl (Nat.le_of_ble_eq_true rfl) (cs_8_9 (k0)) (tw_975 B.2.2.2.2.1) dX8_readText_11 ?_
  clear hH
  intro H locs hH
  obtain ⟨h3, eh3⟩ : ∃ z : PH, z = up2 h2 a0 9 0 := ⟨_, rfl⟩
  rw [← eh3] at hH
  replace hw := hw h3 eh3
  refine lv_aload_n B.1 B.2.1 dX8_readText_14 rfl (lv_at hl 0 rfl) ?_
  refine r_get B hH (own := RX8) (kd_n B (k0) (by decide) (by decide)) (ct_8 (k0)) rfl (ul_8 B.2.2.2.2.1) 2 (by decide) rfl (tw_968 B.2.2.2.2.1) dX8_readText_15 ?_
  refine lv_if_eq (tgt := 32) B.1 B.2.1 dX8_readText_18 (by decide) (fun c4 => ?_) (fun c4 => ?_)
  · replace hw := hw.1 c4
    refine lv_iconst (v := 0) B.1 B.2.1 dX8_readText_32 (by decide) ?_
    exact e_i B hr hH hw dX8_readText_33
  · replace hw := hw.2 c4
    refine lv_aload_n B.1 B.2.1 dX8_readText_21 rfl (lv_at hl 0 rfl) ?_
    refine r_get B hH (own := RX8) (kd_n B (k0) (by decide) (by decide)) (ct_8 (k0)) rfl (ul_8 B.2.2.2.2.1) 1 (by decide) rfl (tw_967 B.2.2.2.2.1) dX8_readText_22 ?_
    refine lv_iconst (v := 0) B.1 B.2.1 dX8_readText_25 (by decide) ?_
    have q5 := hw.1
    replace hw := hw.2
    refine r_iald B hH (kf_8_1 (k0)) q5 dX8_readText_26 ?_
    refine lv_bipush (v := 90) B.1 B.2.1 dX8_readText_27 (by decide) ?_
    refine lv_icmp_eq (tgt := 34) B.1 B.2.1 dX8_readText_29 (by decide) (fun c6 => ?_) (fun c6 => ?_)
    · replace hw := hw.1 c6
      refine lv_aload_n B.1 B.2.1 dX8_readText_34 rfl (lv_at hl 0 rfl) ?_
      refine lv_iconst (v := 1) B.1 B.2.1 dX8_readText_35 (by decide) ?_
      refine r_put B hH (own := RX8) (kd_n B (k0) (by decide) (by decide)) (ct_8 (k0)) rfl (ul_8 B.2.2.2.2.1) tyX8 tyX8_ok nmX8 9 (by decide) (ty := .int) rfl rfl rfl rfl (Nat.le_of_ble_eq_true rfl) (cs_8_9 (k0)) (tw_975 B.2.2.2.2.1) dX8_readText_36 ?_
      clear hH
      intro H locs hH
      obtain ⟨h7, eh7⟩ : ∃ z : PH, z = up2 h3 a0 9 1 := ⟨_, rfl⟩
      rw [← eh7] at hH
      replace hw := hw h7 eh7
      obtain ⟨n12, hw⟩ := hw
      exact L39 a0 a1 (k0) (k1) n12  h7  _ _ _ hw hH (lv_sub hl [0, 1] rfl)
    · replace hw := hw.2 c6
      refine lv_iconst (v := 0) B.1 B.2.1 dX8_readText_32 (by decide) ?_
      exact e_i B hr hH hw dX8_readText_33
theorem cy_X8_errorPosition {s : State} {args : Array Value} (hG : GG s) : CYV s args yX8_errorPosition cX8_errorPosition 1 (some .int) 0 := CYV.of hG (fun _ _ hG => tw_1024 hG) (tw_8 hG) (tw_1022 hG) (tw_1023 hG) (by decide +kernel)
set_option maxRecDepth 100000 in
set_option maxHeartbeats 4000000 in
theorem ct_X8_errorPosition {Z : ZT} (hZ : ZO Z) (l : Launch) (a0 : Nat) (h : PH) (sz : Nat) (Q : Int32 → PH → Prop) (k0 : kd a0 = 8) (hw : wp_X8_errorPosition a0 h Q) : MI Z l yX8_errorPosition cX8_errorPosition 1 (some .int) ({ frames := 8, cells := 0, slots := 0, locals := 182 } : Room) h sz [.ref (zA Z a0)] Q := by
  refine open_M hZ (by decide +kernel) (by exact Nat.le_of_ble_eq_true rfl) ?_
  intro p e s m below meth c B hr hsz ls hl hH
  subst hsz
  have hl : lv_has ls 1 [(0, .ref (zA Z a0))] := hl
  unfold wp_X8_errorPosition at hw
  refine lv_aload_n B.1 B.2.1 dX8_errorPosition_0 rfl (lv_at hl 0 rfl) ?_
  refine lv_iconst (v := 0) B.1 B.2.1 dX8_errorPosition_1 (by decide) ?_
  refine r_put B hH (own := RX8) (kd_n B (k0) (by decide) (by decide)) (ct_8 (k0)) rfl (ul_8 B.2.2.2.2.1) tyX8 tyX8_ok nmX8 0 (by decide) (ty := .int) rfl rfl rfl rfl (Nat.le_of_ble_eq_true rfl) (cs_8_0 (k0)) (tw_966 B.2.2.2.2.1) dX8_errorPosition_2 ?_
  clear hH
  intro H locs hH
  obtain ⟨h1, eh1⟩ : ∃ z : PH, z = up2 h a0 0 0 := ⟨_, rfl⟩
  rw [← eh1] at hH
  replace hw := hw h1 eh1
  refine lv_aload_n B.1 B.2.1 dX8_errorPosition_5 rfl (lv_at hl 0 rfl) ?_
  refine lv_aload_n B.1 B.2.1 dX8_errorPosition_6 rfl (lv_at hl 0 rfl) ?_
  refine r_get B hH (own := RX8) (kd_n B (k0) (by decide) (by decide)) (ct_8 (k0)) rfl (ul_8 B.2.2.2.2.1) 4 (by decide) rfl (tw_970 B.2.2.2.2.1) dX8_errorPosition_7 ?_
  refine c_V_I (own := RX8) (As := [.ref (zA Z (a0 + 3))]) (rest := []) B hH (cy_X8_readText B.2.2.2.2.1) (ct_X8_readText B.2.2.2.2.2.2.2 l a0 (a0 + 3) h1 _ _ (k0) (kf_8_4 (k0)) hw) ⟨⟨rfl, rfl⟩, Nat.le_of_ble_eq_true rfl, Nat.le_of_ble_eq_true rfl, Nat.zero_le _, Nat.zero_le _⟩ (rv_8 B hH (k0)) (tw_1025 B.2.2.2.2.1) rfl hl.1 rfl (Nat.le_of_ble_eq_true rfl) dX8_errorPosition_10 ?_
  clear hw hH
  intro r3 h2 H locs hw hH
  exact e_i B hr hH hw dX8_errorPosition_13
theorem cy_X8_load {s : State} {args : Array Value} (hG : GG s) : CYV s args yX8_load cX8_load 1 (some .int) 0 := CYV.of hG (fun _ _ hG => tw_1135 hG) (tw_8 hG) (tw_1133 hG) (tw_1134 hG) (by decide +kernel)
set_option maxRecDepth 100000 in
set_option maxHeartbeats 4000000 in
theorem ct_X8_load {Z : ZT} (hZ : ZO Z) (l : Launch) (a0 : Nat) (h : PH) (sz : Nat) (Q : Int32 → PH → Prop) (k0 : kd a0 = 8) (hw : wp_X8_load a0 h Q) : MI Z l yX8_load cX8_load 1 (some .int) ({ frames := 8, cells := 0, slots := 0, locals := 182 } : Room) h sz [.ref (zA Z a0)] Q := by
  refine open_M hZ (by decide +kernel) (by exact Nat.le_of_ble_eq_true rfl) ?_
  intro p e s m below meth c B hr hsz ls hl hH
  subst hsz
  have hl : lv_has ls 1 [(0, .ref (zA Z a0))] := hl
  unfold wp_X8_load at hw
  refine lv_aload_n B.1 B.2.1 dX8_load_0 rfl (lv_at hl 0 rfl) ?_
  refine lv_aload_n B.1 B.2.1 dX8_load_1 rfl (lv_at hl 0 rfl) ?_
  refine lv_aload_n B.1 B.2.1 dX8_load_2 rfl (lv_at hl 0 rfl) ?_
  refine r_get B hH (own := RX8) (kd_n B (k0) (by decide) (by decide)) (ct_8 (k0)) rfl (ul_8 B.2.2.2.2.1) 4 (by decide) rfl (tw_970 B.2.2.2.2.1) dX8_load_3 ?_
  refine c_V_I (own := RX8) (As := [.ref (zA Z (a0 + 3))]) (rest := [.ref (zA Z a0)]) B hH (cy_X8_readText B.2.2.2.2.1) (ct_X8_readText B.2.2.2.2.2.2.2 l a0 (a0 + 3) h _ _ (k0) (kf_8_4 (k0)) hw) ⟨⟨rfl, rfl⟩, Nat.le_of_ble_eq_true rfl, Nat.le_of_ble_eq_true rfl, Nat.zero_le _, Nat.zero_le _⟩ (rv_8 B hH (k0)) (tw_1025 B.2.2.2.2.1) rfl hl.1 rfl (Nat.le_of_ble_eq_true rfl) dX8_load_6 ?_
  clear hw hH
  intro r2 h1 H locs hw hH
  refine lv_iconst (v := (-1)) B.1 B.2.1 dX8_load_9 (by decide) ?_
  refine lv_icmp_ne (tgt := 17) B.1 B.2.1 dX8_load_10 (by decide) (fun c3 => ?_) (fun c3 => ?_)
  · replace hw := hw.1 c3
    refine lv_iconst (v := 1) B.1 B.2.1 dX8_load_17 (by decide) ?_
    refine c_V_I (own := RX8) (As := [.int 1]) (rest := []) B hH (cy_X8_refused B.2.2.2.2.1) (ct_X8_refused B.2.2.2.2.2.2.2 l a0 1 h1 _ _ (k0) hw) ⟨⟨rfl, rfl⟩, Nat.le_of_ble_eq_true rfl, Nat.le_of_ble_eq_true rfl, Nat.zero_le _, Nat.zero_le _⟩ (rv_8 B hH (k0)) (tw_1013 B.2.2.2.2.1) rfl hl.1 rfl (Nat.le_of_ble_eq_true rfl) dX8_load_18 ?_
    clear hw hH
    intro r5 h4 H locs hw hH
    refine lv_if_eq (tgt := 26) B.1 B.2.1 dX8_load_21 (by decide) (fun c6 => ?_) (fun c6 => ?_)
    · replace hw := hw.1 c6
      refine lv_aload_n B.1 B.2.1 dX8_load_26 rfl (lv_at hl 0 rfl) ?_
      refine r_get B hH (own := RX8) (kd_n B (k0) (by decide) (by decide)) (ct_8 (k0)) rfl (ul_8 B.2.2.2.2.1) 4 (by decide) rfl (tw_970 B.2.2.2.2.1) dX8_load_27 ?_
      refine lv_iconst (v := 0) B.1 B.2.1 dX8_load_30 (by decide) ?_
      refine lv_aload_n B.1 B.2.1 dX8_load_31 rfl (lv_at hl 0 rfl) ?_
      refine r_get B hH (own := RX8) (kd_n B (k0) (by decide) (by decide)) (ct_8 (k0)) rfl (ul_8 B.2.2.2.2.1) 3 (by decide) rfl (tw_969 B.2.2.2.2.1) dX8_load_32 ?_
      refine lv_iconst (v := 0) B.1 B.2.1 dX8_load_35 (by decide) ?_
      refine c_S_V (own := RX8) (As := [.ref (zA Z (a0 + 3)), .int 0, .ref (zA Z (a0 + 2)), .int 0]) (rest := []) B hH (cy_X8_copyState B.2.2.2.2.1) (ct_X8_copyState B.2.2.2.2.2.2.2 l (a0 + 3) 0 (a0 + 2) 0 h4 _ _ (kf_8_4 (k0)) (kf_8_3 (k0)) hw) ⟨⟨rfl, rfl⟩, Nat.le_of_ble_eq_true rfl, Nat.le_of_ble_eq_true rfl, Nat.zero_le _, Nat.zero_le _⟩ (tw_1136 B.2.2.2.2.1) rfl hl.1 rfl (Nat.le_of_ble_eq_true rfl) dX8_load_36 ?_
      clear hw hH
      intro h7 H locs hw hH
      refine lv_aload_n B.1 B.2.1 dX8_load_39 rfl (lv_at hl 0 rfl) ?_
      refine lv_iconst (v := 0) B.1 B.2.1 dX8_load_40 (by decide) ?_
      refine r_put B hH (own := RX8) (kd_n B (k0) (by decide) (by decide)) (ct_8 (k0)) rfl (ul_8 B.2.2.2.2.1) tyX8 tyX8_ok nmX8 6 (by decide) (ty := .int) rfl rfl rfl rfl (Nat.le_of_ble_eq_true rfl) (cs_8_6 (k0)) (tw_972 B.2.2.2.2.1) dX8_load_41 ?_
      clear hH
      intro H locs hH
      obtain ⟨h8, eh8⟩ : ∃ z : PH, z = up2 h7 a0 6 0 := ⟨_, rfl⟩
      rw [← eh8] at hH
      replace hw := hw h8 eh8
      refine lv_aload_n B.1 B.2.1 dX8_load_44 rfl (lv_at hl 0 rfl) ?_
      refine r_get B hH (own := RX8) (kd_n B (k0) (by decide) (by decide)) (ct_8 (k0)) rfl (ul_8 B.2.2.2.2.1) 8 (by decide) rfl (tw_974 B.2.2.2.2.1) dX8_load_45 ?_
      refine lv_iconst (v := 0) B.1 B.2.1 dX8_load_48 (by decide) ?_
      refine lv_iconst (v := 0) B.1 B.2.1 dX8_load_49 (by decide) ?_
      have q9 := hw.1
      replace hw := hw.2
      refine r_zast B hH (kf_8_8 (k0)) q9 (by decide) dX8_load_50 ?_
      clear hH
      intro H locs hH
      obtain ⟨h10, eh10⟩ : ∃ z : PH, z = up2 h8 (a0 + 6) (0 : Int32).toNatClampNeg 0 := ⟨_, rfl⟩
      rw [← eh10] at hH
      replace hw := hw h10 eh10
      refine lv_aload_n B.1 B.2.1 dX8_load_51 rfl (lv_at hl 0 rfl) ?_
      refine r_get B hH (own := RX8) (kd_n B (k0) (by decide) (by decide)) (ct_8 (k0)) rfl (ul_8 B.2.2.2.2.1) 8 (by decide) rfl (tw_974 B.2.2.2.2.1) dX8_load_52 ?_
      refine lv_iconst (v := 1) B.1 B.2.1 dX8_load_55 (by decide) ?_
      refine lv_iconst (v := 0) B.1 B.2.1 dX8_load_56 (by decide) ?_
      have q11 := hw.1
      replace hw := hw.2
      refine r_zast B hH (kf_8_8 (k0)) q11 (by decide) dX8_load_57 ?_
      clear hH
      intro H locs hH
      obtain ⟨h12, eh12⟩ : ∃ z : PH, z = up2 h10 (a0 + 6) (1 : Int32).toNatClampNeg 0 := ⟨_, rfl⟩
      rw [← eh12] at hH
      replace hw := hw h12 eh12
      refine lv_aload_n B.1 B.2.1 dX8_load_58 rfl (lv_at hl 0 rfl) ?_
      refine r_get B hH (own := RX8) (kd_n B (k0) (by decide) (by decide)) (ct_8 (k0)) rfl (ul_8 B.2.2.2.2.1) 10 (by decide) rfl (tw_976 B.2.2.2.2.1) dX8_load_59 ?_
      exact e_i B hr hH hw dX8_load_62
    · replace hw := hw.2 c6
      refine lv_iconst (v := 0) B.1 B.2.1 dX8_load_24 (by decide) ?_
      exact e_i B hr hH hw dX8_load_25
  · replace hw := hw.2 c3
    refine lv_iconst (v := 0) B.1 B.2.1 dX8_load_13 (by decide) ?_
    refine lv_goto (tgt := 18) B.1 B.2.1 dX8_load_14 (by decide) ?_
    refine c_V_I (own := RX8) (As := [.int 0]) (rest := []) B hH (cy_X8_refused B.2.2.2.2.1) (ct_X8_refused B.2.2.2.2.2.2.2 l a0 0 h1 _ _ (k0) hw) ⟨⟨rfl, rfl⟩, Nat.le_of_ble_eq_true rfl, Nat.le_of_ble_eq_true rfl, Nat.zero_le _, Nat.zero_le _⟩ (rv_8 B hH (k0)) (tw_1013 B.2.2.2.2.1) rfl hl.1 rfl (Nat.le_of_ble_eq_true rfl) dX8_load_18 ?_
    clear hw hH
    intro r14 h13 H locs hw hH
    refine lv_if_eq (tgt := 26) B.1 B.2.1 dX8_load_21 (by decide) (fun c15 => ?_) (fun c15 => ?_)
    · replace hw := hw.1 c15
      refine lv_aload_n B.1 B.2.1 dX8_load_26 rfl (lv_at hl 0 rfl) ?_
      refine r_get B hH (own := RX8) (kd_n B (k0) (by decide) (by decide)) (ct_8 (k0)) rfl (ul_8 B.2.2.2.2.1) 4 (by decide) rfl (tw_970 B.2.2.2.2.1) dX8_load_27 ?_
      refine lv_iconst (v := 0) B.1 B.2.1 dX8_load_30 (by decide) ?_
      refine lv_aload_n B.1 B.2.1 dX8_load_31 rfl (lv_at hl 0 rfl) ?_
      refine r_get B hH (own := RX8) (kd_n B (k0) (by decide) (by decide)) (ct_8 (k0)) rfl (ul_8 B.2.2.2.2.1) 3 (by decide) rfl (tw_969 B.2.2.2.2.1) dX8_load_32 ?_
      refine lv_iconst (v := 0) B.1 B.2.1 dX8_load_35 (by decide) ?_
      refine c_S_V (own := RX8) (As := [.ref (zA Z (a0 + 3)), .int 0, .ref (zA Z (a0 + 2)), .int 0]) (rest := []) B hH (cy_X8_copyState B.2.2.2.2.1) (ct_X8_copyState B.2.2.2.2.2.2.2 l (a0 + 3) 0 (a0 + 2) 0 h13 _ _ (kf_8_4 (k0)) (kf_8_3 (k0)) hw) ⟨⟨rfl, rfl⟩, Nat.le_of_ble_eq_true rfl, Nat.le_of_ble_eq_true rfl, Nat.zero_le _, Nat.zero_le _⟩ (tw_1136 B.2.2.2.2.1) rfl hl.1 rfl (Nat.le_of_ble_eq_true rfl) dX8_load_36 ?_
      clear hw hH
      intro h16 H locs hw hH
      refine lv_aload_n B.1 B.2.1 dX8_load_39 rfl (lv_at hl 0 rfl) ?_
      refine lv_iconst (v := 0) B.1 B.2.1 dX8_load_40 (by decide) ?_
      refine r_put B hH (own := RX8) (kd_n B (k0) (by decide) (by decide)) (ct_8 (k0)) rfl (ul_8 B.2.2.2.2.1) tyX8 tyX8_ok nmX8 6 (by decide) (ty := .int) rfl rfl rfl rfl (Nat.le_of_ble_eq_true rfl) (cs_8_6 (k0)) (tw_972 B.2.2.2.2.1) dX8_load_41 ?_
      clear hH
      intro H locs hH
      obtain ⟨h17, eh17⟩ : ∃ z : PH, z = up2 h16 a0 6 0 := ⟨_, rfl⟩
      rw [← eh17] at hH
      replace hw := hw h17 eh17
      refine lv_aload_n B.1 B.2.1 dX8_load_44 rfl (lv_at hl 0 rfl) ?_
      refine r_get B hH (own := RX8) (kd_n B (k0) (by decide) (by decide)) (ct_8 (k0)) rfl (ul_8 B.2.2.2.2.1) 8 (by decide) rfl (tw_974 B.2.2.2.2.1) dX8_load_45 ?_
      refine lv_iconst (v := 0) B.1 B.2.1 dX8_load_48 (by decide) ?_
      refine lv_iconst (v := 0) B.1 B.2.1 dX8_load_49 (by decide) ?_
      have q18 := hw.1
      replace hw := hw.2
      refine r_zast B hH (kf_8_8 (k0)) q18 (by decide) dX8_load_50 ?_
      clear hH
      intro H locs hH
      obtain ⟨h19, eh19⟩ : ∃ z : PH, z = up2 h17 (a0 + 6) (0 : Int32).toNatClampNeg 0 := ⟨_, rfl⟩
      rw [← eh19] at hH
      replace hw := hw h19 eh19
      refine lv_aload_n B.1 B.2.1 dX8_load_51 rfl (lv_at hl 0 rfl) ?_
      refine r_get B hH (own := RX8) (kd_n B (k0) (by decide) (by decide)) (ct_8 (k0)) rfl (ul_8 B.2.2.2.2.1) 8 (by decide) rfl (tw_974 B.2.2.2.2.1) dX8_load_52 ?_
      refine lv_iconst (v := 1) B.1 B.2.1 dX8_load_55 (by decide) ?_
      refine lv_iconst (v := 0) B.1 B.2.1 dX8_load_56 (by decide) ?_
      have q20 := hw.1
      replace hw := hw.2
      refine r_zast B hH (kf_8_8 (k0)) q20 (by decide) dX8_load_57 ?_
      clear hH
      intro H locs hH
      obtain ⟨h21, eh21⟩ : ∃ z : PH, z = up2 h19 (a0 + 6) (1 : Int32).toNatClampNeg 0 := ⟨_, rfl⟩
      rw [← eh21] at hH
      replace hw := hw h21 eh21
      refine lv_aload_n B.1 B.2.1 dX8_load_58 rfl (lv_at hl 0 rfl) ?_
      refine r_get B hH (own := RX8) (kd_n B (k0) (by decide) (by decide)) (ct_8 (k0)) rfl (ul_8 B.2.2.2.2.1) 10 (by decide) rfl (tw_976 B.2.2.2.2.1) dX8_load_59 ?_
      exact e_i B hr hH hw dX8_load_62
    · replace hw := hw.2 c15
      refine lv_iconst (v := 0) B.1 B.2.1 dX8_load_24 (by decide) ?_
      exact e_i B hr hH hw dX8_load_25
theorem cy_X8_allCells {s : State} {args : Array Value} (hG : GG s) : CYS s args yX8_allCells cX8_allCells 3 (some .int) 1 := CYS.of hG (fun _ _ hG => tw_1146 hG) (tw_8 hG) (tw_1145 hG) (by decide +kernel)
set_option maxRecDepth 100000 in
set_option maxHeartbeats 4000000 in
theorem ct_X8_allCells {Z : ZT} (hZ : ZO Z) (l : Launch) (a0 : Nat) (h : PH) (sz : Nat) (Q : Int32 → PH → Prop) (k0 : kd a0 = 10) (hw : wp_X8_allCells a0 h Q) : MI Z l yX8_allCells cX8_allCells 3 (some .int) ({ frames := 1, cells := 0, slots := 0, locals := 22 } : Room) h sz [.ref (zA Z a0)] Q := by
  refine open_M hZ (by decide +kernel) (by exact Nat.le_of_ble_eq_true rfl) ?_
  intro p e s m below meth c B hr hsz ls hl hH
  subst hsz
  have hl : lv_has ls 3 [(0, .ref (zA Z a0))] := hl
  unfold wp_X8_allCells at hw
  have L4 : ∀ (b0 : Nat), kd b0 = 10 → ∀ (n : Nat) (b1 : Int32) (b2 : Int32) (h : PH), ∀ (H : Heap) (locs : List Loc) (ls : Array Slot), wp_X8_allCells_b4 b0 Q n b1 b2 h → HH Z s h H locs → lv_has ls 3 [(0, .ref (zA Z b0)), (1, .int b1), (2, .int b2)] → W p l e ({ frames := 1, cells := 0, slots := 0, locals := 22 } : Room) s m ([.ref (zA Z a0)]).toArray below meth c H locs 0 0 (MQ below (va_Qi Q (BZ Z) (fr Z s.heap.size)) ([.ref (zA Z a0)]).toArray s 0 0 (fr Z s.heap.size)) (F0 m 4 ls []) := by
    intro b0 kb0 n
    induction n with
    | zero => intro b1 b2 h H locs ls hw hH hl; exact absurd hw id
    | succ n ih =>
      intro b1 b2 h H locs ls hw hH hl
      unfold wp_X8_allCells_b4 at hw
      refine lv_iload_n B.1 B.2.1 dX8_allCells_4 rfl (lv_at hl 2 rfl) ?_
      refine lv_aload_n B.1 B.2.1 dX8_allCells_5 rfl (lv_at hl 0 rfl) ?_
      refine lv_iconst (v := 1) B.1 B.2.1 dX8_allCells_6 (by decide) ?_
      have q1 := hw.1
      replace hw := hw.2
      refine r_iald B hH (kb0) q1 dX8_allCells_7 ?_
      refine lv_icmp_ge (tgt := 26) B.1 B.2.1 dX8_allCells_8 (by decide) (fun c2 => ?_) (fun c2 => ?_)
      · replace hw := hw.1 c2
        refine lv_iload_n B.1 B.2.1 dX8_allCells_26 rfl (lv_at hl 1 rfl) ?_
        exact e_i B hr hH hw dX8_allCells_27
      · replace hw := hw.2 c2
        refine lv_iload_n B.1 B.2.1 dX8_allCells_11 rfl (lv_at hl 1 rfl) ?_
        refine lv_aload_n B.1 B.2.1 dX8_allCells_12 rfl (lv_at hl 0 rfl) ?_
        refine lv_iload_n B.1 B.2.1 dX8_allCells_13 rfl (lv_at hl 2 rfl) ?_
        refine lv_iconst (v := 0) B.1 B.2.1 dX8_allCells_14 (by decide) ?_
        refine c_S_I (own := RX8) (As := [.ref (zA Z b0), .int b2, .int 0]) (rest := [.int b1]) B hH (cy_X8_of B.2.2.2.2.1) (ct_X8_of B.2.2.2.2.2.2.2 l b0 b2 0 h _ _ (kb0) hw) ⟨⟨rfl, rfl⟩, Nat.le_of_ble_eq_true rfl, Nat.le_of_ble_eq_true rfl, Nat.zero_le _, Nat.zero_le _⟩ (tw_1098 B.2.2.2.2.1) rfl hl.1 rfl (Nat.le_of_ble_eq_true rfl) dX8_allCells_15 ?_
        clear hw hH
        intro r4 h3 H locs hw hH
        refine lv_iadd B.1 B.2.1 dX8_allCells_18 ?_
        refine lv_topi (fun x5 ex5 => ?_)
        replace hw := hw x5 ex5
        refine lv_istore_n (lv' := [(1, .int x5), (0, .ref (zA Z b0)), (2, .int b2)]) B.1 B.2.1 dX8_allCells_19 rfl hl (by decide) (by first | rfl | simp [va_re_cat, Value.category]) ?_
        clear hl
        intro ls hl
        obtain ⟨x6, ex6⟩ : ∃ y : Int32, y = b2 + 1 := ⟨_, rfl⟩
        replace hw := hw x6 ex6
        refine lv_iinc (v := x6) (lv' := [(2, .int x6), (1, .int x5), (0, .ref (zA Z b0))]) B.1 B.2.1 dX8_allCells_20 hl (k := 2) rfl (by rw [ex6]; rfl) (by decide) (by first | rfl | simp [va_re_cat, Value.category]) ?_
        clear hl
        intro ls hl
        refine lv_goto (tgt := 4) B.1 B.2.1 dX8_allCells_23 (by decide) ?_
        exact ih x5 x6 h3  _ _ _ hw hH (lv_sub hl [2, 1, 0] rfl)
  refine lv_iconst (v := 0) B.1 B.2.1 dX8_allCells_0 (by decide) ?_
  refine lv_istore_n (lv' := [(1, .int 0), (0, .ref (zA Z a0))]) B.1 B.2.1 dX8_allCells_1 rfl hl (by decide) (by first | rfl | simp [va_re_cat, Value.category]) ?_
  clear hl
  intro ls hl
  refine lv_iconst (v := 0) B.1 B.2.1 dX8_allCells_2 (by decide) ?_
  refine lv_istore_n (lv' := [(2, .int 0), (1, .int 0), (0, .ref (zA Z a0))]) B.1 B.2.1 dX8_allCells_3 rfl hl (by decide) (by first | rfl | simp [va_re_cat, Value.category]) ?_
  clear hl
  intro ls hl
  obtain ⟨n7, hw⟩ := hw
  exact L4 a0 (k0) n7 0 0 h  _ _ _ hw hH (lv_sub hl [2, 1, 0] rfl)
theorem cy_X8_about {s : State} {args : Array Value} (hG : GG s) : CYV s args yX8_about cX8_about 5 (some .int) 1 := CYV.of hG (fun _ _ hG => tw_1142 hG) (tw_8 hG) (tw_1140 hG) (tw_1141 hG) (by decide +kernel)
set_option maxRecDepth 100000 in
set_option maxHeartbeats 4000000 in
theorem ct_X8_about {Z : ZT} (hZ : ZO Z) (l : Launch) (a0 : Nat) (a1 : Int32) (h : PH) (sz : Nat) (Q : Int32 → PH → Prop) (k0 : kd a0 = 8) (hw : wp_X8_about a0 a1 h Q) : MI Z l yX8_about cX8_about 5 (some .int) ({ frames := 4, cells := 0, slots := 0, locals := 90 } : Room) h sz [.ref (zA Z a0), .int a1] Q := by
  refine open_M hZ (by decide +kernel) (by exact Nat.le_of_ble_eq_true rfl) ?_
  intro p e s m below meth c B hr hsz ls hl hH
  subst hsz
  have hl : lv_has ls 5 [(0, .ref (zA Z a0)), (1, .int a1)] := hl
  unfold wp_X8_about at hw
  have L33 : ∀ (b0 : Nat) (b1 : Int32), kd b0 = 8 → ∀ (n : Nat) (b2 : Int32) (b3 : Int32) (b4 : Int32) (h : PH), ∀ (H : Heap) (locs : List Loc) (ls : Array Slot), wp_X8_about_b33 b0 b1 Q n b2 b3 b4 h → HH Z s h H locs → lv_has ls 5 [(0, .ref (zA Z b0)), (1, .int b1), (2, .int b2), (3, .int b3), (4, .int b4)] → W p l e ({ frames := 4, cells := 0, slots := 0, locals := 90 } : Room) s m ([.ref (zA Z a0), .int a1]).toArray below meth c H locs 0 0 (MQ below (va_Qi Q (BZ Z) (fr Z s.heap.size)) ([.ref (zA Z a0), .int a1]).toArray s 0 0 (fr Z s.heap.size)) (F0 m 33 ls []) := by
    intro b0 b1 kb0 n
    induction n with
    | zero => intro b2 b3 b4 h H locs ls hw hH hl; exact absurd hw id
    | succ n ih =>
      intro b2 b3 b4 h H locs ls hw hH hl
      unfold wp_X8_about_b33 at hw
      refine lv_iload B.1 B.2.1 dX8_about_33 (lv_at hl 4 rfl) ?_
      refine lv_aload_n B.1 B.2.1 dX8_about_35 rfl (lv_at hl 0 rfl) ?_
      refine r_get B hH (own := RX8) (kd_n B (kb0) (by decide) (by decide)) (ct_8 (kb0)) rfl (ul_8 B.2.2.2.2.1) 3 (by decide) rfl (tw_969 B.2.2.2.2.1) dX8_about_36 ?_
      refine lv_iconst (v := 1) B.1 B.2.1 dX8_about_39 (by decide) ?_
      have q7 := hw.1
      replace hw := hw.2
      refine r_iald B hH (kf_8_3 (kb0)) q7 dX8_about_40 ?_
      refine lv_icmp_ge (tgt := 87) B.1 B.2.1 dX8_about_41 (by decide) (fun c8 => ?_) (fun c8 => ?_)
      · replace hw := hw.1 c8
        refine lv_iload_n B.1 B.2.1 dX8_about_87 rfl (lv_at hl 1 rfl) ?_
        by_cases c9 : (b1 = 3)
        · replace hw := hw.1 c9
          refine lv_tableIn (off := 36) (tgt := 124) B.1 B.2.1 dX8_about_88 (by rw [c9]; decide) (by rw [c9]; decide) (by rw [c9]; rfl) (by decide) ?_
          refine lv_aload_n B.1 B.2.1 dX8_about_124 rfl (lv_at hl 0 rfl) ?_
          refine r_get B hH (own := RX8) (kd_n B (kb0) (by decide) (by decide)) (ct_8 (kb0)) rfl (ul_8 B.2.2.2.2.1) 3 (by decide) rfl (tw_969 B.2.2.2.2.1) dX8_about_125 ?_
          refine lv_lconst (v := 0) B.1 B.2.1 dX8_about_128 (by decide) ?_
          refine c_S_I (own := RX8) (As := [.ref (zA Z (b0 + 2)), .long 0]) (rest := []) B hH (cy_X8_soundLater B.2.2.2.2.1) (ct_X8_soundLater B.2.2.2.2.2.2.2 l (b0 + 2) 0 h _ _ (kf_8_3 (kb0)) hw) ⟨⟨rfl, rfl⟩, Nat.le_of_ble_eq_true rfl, Nat.le_of_ble_eq_true rfl, Nat.zero_le _, Nat.zero_le _⟩ (tw_1114 B.2.2.2.2.1) rfl hl.1 rfl (Nat.le_of_ble_eq_true rfl) dX8_about_129 ?_
          clear hw hH
          intro r11 h10 H locs hw hH
          exact e_i B hr hH hw dX8_about_132
        · by_cases c12 : (b1 = 4)
          · replace hw := hw.2.1 c12
            refine lv_tableIn (off := 45) (tgt := 133) B.1 B.2.1 dX8_about_88 (by rw [c12]; decide) (by rw [c12]; decide) (by rw [c12]; rfl) (by decide) ?_
            refine lv_iload_n B.1 B.2.1 dX8_about_133 rfl (lv_at hl 2 rfl) ?_
            exact e_i B hr hH hw dX8_about_134
          · by_cases c13 : (b1 = 5)
            · replace hw := hw.2.2.1 c13
              refine lv_tableIn (off := 47) (tgt := 135) B.1 B.2.1 dX8_about_88 (by rw [c13]; decide) (by rw [c13]; decide) (by rw [c13]; rfl) (by decide) ?_
              refine lv_iload_n B.1 B.2.1 dX8_about_135 rfl (lv_at hl 3 rfl) ?_
              exact e_i B hr hH hw dX8_about_136
            · by_cases c14 : (b1 = 6)
              · replace hw := hw.2.2.2.1 c14
                refine lv_tableIn (off := 49) (tgt := 137) B.1 B.2.1 dX8_about_88 (by rw [c14]; decide) (by rw [c14]; decide) (by rw [c14]; rfl) (by decide) ?_
                refine lv_aload_n B.1 B.2.1 dX8_about_137 rfl (lv_at hl 0 rfl) ?_
                refine r_get B hH (own := RX8) (kd_n B (kb0) (by decide) (by decide)) (ct_8 (kb0)) rfl (ul_8 B.2.2.2.2.1) 3 (by decide) rfl (tw_969 B.2.2.2.2.1) dX8_about_138 ?_
                refine c_S_I (own := RX8) (As := [.ref (zA Z (b0 + 2))]) (rest := []) B hH (cy_X8_allCells B.2.2.2.2.1) (ct_X8_allCells B.2.2.2.2.2.2.2 l (b0 + 2) h _ _ (kf_8_3 (kb0)) hw) ⟨⟨rfl, rfl⟩, Nat.le_of_ble_eq_true rfl, Nat.le_of_ble_eq_true rfl, Nat.zero_le _, Nat.zero_le _⟩ (tw_1144 B.2.2.2.2.1) rfl hl.1 rfl (Nat.le_of_ble_eq_true rfl) dX8_about_141 ?_
                clear hw hH
                intro r16 h15 H locs hw hH
                exact e_i B hr hH hw dX8_about_144
              · by_cases c17 : (b1 = 7)
                · replace hw := hw.2.2.2.2.1 c17
                  refine lv_tableIn (off := 57) (tgt := 145) B.1 B.2.1 dX8_about_88 (by rw [c17]; decide) (by rw [c17]; decide) (by rw [c17]; rfl) (by decide) ?_
                  refine lv_aload_n B.1 B.2.1 dX8_about_145 rfl (lv_at hl 0 rfl) ?_
                  refine r_get B hH (own := RX8) (kd_n B (kb0) (by decide) (by decide)) (ct_8 (kb0)) rfl (ul_8 B.2.2.2.2.1) 3 (by decide) rfl (tw_969 B.2.2.2.2.1) dX8_about_146 ?_
                  refine lv_iconst (v := 3) B.1 B.2.1 dX8_about_149 (by decide) ?_
                  have q18 := hw.1
                  replace hw := hw.2
                  refine r_iald B hH (kf_8_3 (kb0)) q18 dX8_about_150 ?_
                  exact e_i B hr hH hw dX8_about_151
                · replace hw := hw.2.2.2.2.2 c9 c12 c13 c14 c17
                  have t3 := lv_neT (x := b1) (k := 3) (a := 3) c9 (by decide)
                  have t4 := lv_neT (x := b1) (k := 4) (a := 4) c12 (by decide)
                  have t5 := lv_neT (x := b1) (k := 5) (a := 5) c13 (by decide)
                  have t6 := lv_neT (x := b1) (k := 6) (a := 6) c14 (by decide)
                  have t7 := lv_neT (x := b1) (k := 7) (a := 7) c17 (by decide)
                  refine lv_tableOut (tgt := 152) B.1 B.2.1 dX8_about_88 (by omega) (by decide) ?_
                  refine lv_aload_n B.1 B.2.1 dX8_about_152 rfl (lv_at hl 0 rfl) ?_
                  refine r_get B hH (own := RX8) (kd_n B (kb0) (by decide) (by decide)) (ct_8 (kb0)) rfl (ul_8 B.2.2.2.2.1) 3 (by decide) rfl (tw_969 B.2.2.2.2.1) dX8_about_153 ?_
                  refine lv_iload_n B.1 B.2.1 dX8_about_156 rfl (lv_at hl 1 rfl) ?_
                  have q19 := hw.1
                  replace hw := hw.2
                  refine r_iald B hH (kf_8_3 (kb0)) q19 dX8_about_157 ?_
                  exact e_i B hr hH hw dX8_about_158
      · replace hw := hw.2 c8
        refine lv_iload_n B.1 B.2.1 dX8_about_44 rfl (lv_at hl 2 rfl) ?_
        refine lv_aload_n B.1 B.2.1 dX8_about_45 rfl (lv_at hl 0 rfl) ?_
        refine r_get B hH (own := RX8) (kd_n B (kb0) (by decide) (by decide)) (ct_8 (kb0)) rfl (ul_8 B.2.2.2.2.1) 3 (by decide) rfl (tw_969 B.2.2.2.2.1) dX8_about_46 ?_
        refine lv_iload B.1 B.2.1 dX8_about_49 (lv_at hl 4 rfl) ?_
        refine lv_iconst (v := 0) B.1 B.2.1 dX8_about_51 (by decide) ?_
        refine c_S_I (own := RX8) (As := [.ref (zA Z (b0 + 2)), .int b4, .int 0]) (rest := [.int b2]) B hH (cy_X8_of B.2.2.2.2.1) (ct_X8_of B.2.2.2.2.2.2.2 l (b0 + 2) b4 0 h _ _ (kf_8_3 (kb0)) hw) ⟨⟨rfl, rfl⟩, Nat.le_of_ble_eq_true rfl, Nat.le_of_ble_eq_true rfl, Nat.zero_le _, Nat.zero_le _⟩ (tw_1098 B.2.2.2.2.1) rfl hl.1 rfl (Nat.le_of_ble_eq_true rfl) dX8_about_52 ?_
        clear hw hH
        intro r21 h20 H locs hw hH
        refine lv_if_le (tgt := 62) B.1 B.2.1 dX8_about_55 (by decide) (fun c22 => ?_) (fun c22 => ?_)
        · replace hw := hw.1 c22
          refine lv_iconst (v := 0) B.1 B.2.1 dX8_about_62 (by decide) ?_
          refine lv_iadd B.1 B.2.1 dX8_about_63 ?_
          refine lv_topi (fun x23 ex23 => ?_)
          replace hw := hw x23 ex23
          refine lv_istore_n (lv' := [(2, .int x23), (0, .ref (zA Z b0)), (1, .int b1), (3, .int b3), (4, .int b4)]) B.1 B.2.1 dX8_about_64 rfl hl (by decide) (by first | rfl | simp [va_re_cat, Value.category]) ?_
          clear hl
          intro ls hl
          refine lv_iload_n B.1 B.2.1 dX8_about_65 rfl (lv_at hl 3 rfl) ?_
          refine lv_aload_n B.1 B.2.1 dX8_about_66 rfl (lv_at hl 1 rfl) ?_
          refine r_get B hH (own := RX8) (kd_n B (kb0) (by decide) (by decide)) (ct_8 (kb0)) rfl (ul_8 B.2.2.2.2.1) 3 (by decide) rfl (tw_969 B.2.2.2.2.1) dX8_about_67 ?_
          refine lv_iload B.1 B.2.1 dX8_about_70 (lv_at hl 4 rfl) ?_
          refine lv_iconst (v := 4) B.1 B.2.1 dX8_about_72 (by decide) ?_
          refine c_S_I (own := RX8) (As := [.ref (zA Z (b0 + 2)), .int b4, .int 4]) (rest := [.int b3]) B hH (cy_X8_of B.2.2.2.2.1) (ct_X8_of B.2.2.2.2.2.2.2 l (b0 + 2) b4 4 h20 _ _ (kf_8_3 (kb0)) hw) ⟨⟨rfl, rfl⟩, Nat.le_of_ble_eq_true rfl, Nat.le_of_ble_eq_true rfl, Nat.zero_le _, Nat.zero_le _⟩ (tw_1098 B.2.2.2.2.1) rfl hl.1 rfl (Nat.le_of_ble_eq_true rfl) dX8_about_73 ?_
          clear hw hH
          intro r25 h24 H locs hw hH
          refine lv_iload B.1 B.2.1 dX8_about_76 (lv_at hl 4 rfl) ?_
          refine lv_ishl B.1 B.2.1 dX8_about_78 ?_
          refine lv_ior B.1 B.2.1 dX8_about_79 ?_
          refine lv_topi (fun x26 ex26 => ?_)
          replace hw := hw x26 ex26
          refine lv_istore_n (lv' := [(3, .int x26), (2, .int x23), (0, .ref (zA Z b0)), (1, .int b1), (4, .int b4)]) B.1 B.2.1 dX8_about_80 rfl hl (by decide) (by first | rfl | simp [va_re_cat, Value.category]) ?_
          clear hl
          intro ls hl
          obtain ⟨x27, ex27⟩ : ∃ y : Int32, y = b4 + 1 := ⟨_, rfl⟩
          replace hw := hw x27 ex27
          refine lv_iinc (v := x27) (lv' := [(4, .int x27), (3, .int x26), (2, .int x23), (0, .ref (zA Z b0)), (1, .int b1)]) B.1 B.2.1 dX8_about_81 hl (k := 4) rfl (by rw [ex27]; rfl) (by decide) (by first | rfl | simp [va_re_cat, Value.category]) ?_
          clear hl
          intro ls hl
          refine lv_goto (tgt := 33) B.1 B.2.1 dX8_about_84 (by decide) ?_
          exact ih x23 x26 x27 h24  _ _ _ hw hH (lv_sub hl [3, 4, 2, 1, 0] rfl)
        · replace hw := hw.2 c22
          refine lv_iconst (v := 1) B.1 B.2.1 dX8_about_58 (by decide) ?_
          refine lv_goto (tgt := 63) B.1 B.2.1 dX8_about_59 (by decide) ?_
          refine lv_iadd B.1 B.2.1 dX8_about_63 ?_
          refine lv_topi (fun x28 ex28 => ?_)
          replace hw := hw x28 ex28
          refine lv_istore_n (lv' := [(2, .int x28), (0, .ref (zA Z b0)), (1, .int b1), (3, .int b3), (4, .int b4)]) B.1 B.2.1 dX8_about_64 rfl hl (by decide) (by first | rfl | simp [va_re_cat, Value.category]) ?_
          clear hl
          intro ls hl
          refine lv_iload_n B.1 B.2.1 dX8_about_65 rfl (lv_at hl 3 rfl) ?_
          refine lv_aload_n B.1 B.2.1 dX8_about_66 rfl (lv_at hl 1 rfl) ?_
          refine r_get B hH (own := RX8) (kd_n B (kb0) (by decide) (by decide)) (ct_8 (kb0)) rfl (ul_8 B.2.2.2.2.1) 3 (by decide) rfl (tw_969 B.2.2.2.2.1) dX8_about_67 ?_
          refine lv_iload B.1 B.2.1 dX8_about_70 (lv_at hl 4 rfl) ?_
          refine lv_iconst (v := 4) B.1 B.2.1 dX8_about_72 (by decide) ?_
          refine c_S_I (own := RX8) (As := [.ref (zA Z (b0 + 2)), .int b4, .int 4]) (rest := [.int b3]) B hH (cy_X8_of B.2.2.2.2.1) (ct_X8_of B.2.2.2.2.2.2.2 l (b0 + 2) b4 4 h20 _ _ (kf_8_3 (kb0)) hw) ⟨⟨rfl, rfl⟩, Nat.le_of_ble_eq_true rfl, Nat.le_of_ble_eq_true rfl, Nat.zero_le _, Nat.zero_le _⟩ (tw_1098 B.2.2.2.2.1) rfl hl.1 rfl (Nat.le_of_ble_eq_true rfl) dX8_about_73 ?_
          clear hw hH
          intro r30 h29 H locs hw hH
          refine lv_iload B.1 B.2.1 dX8_about_76 (lv_at hl 4 rfl) ?_
          refine lv_ishl B.1 B.2.1 dX8_about_78 ?_
          refine lv_ior B.1 B.2.1 dX8_about_79 ?_
          refine lv_topi (fun x31 ex31 => ?_)
          replace hw := hw x31 ex31
          refine lv_istore_n (lv' := [(3, .int x31), (2, .int x28), (0, .ref (zA Z b0)), (1, .int b1), (4, .int b4)]) B.1 B.2.1 dX8_about_80 rfl hl (by decide) (by first | rfl | simp [va_re_cat, Value.category]) ?_
          clear hl
          intro ls hl
          obtain ⟨x32, ex32⟩ : ∃ y : Int32, y = b4 + 1 := ⟨_, rfl⟩
          replace hw := hw x32 ex32
          refine lv_iinc (v := x32) (lv' := [(4, .int x32), (3, .int x31), (2, .int x28), (0, .ref (zA Z b0)), (1, .int b1)]) B.1 B.2.1 dX8_about_81 hl (k := 4) rfl (by rw [ex32]; rfl) (by decide) (by first | rfl | simp [va_re_cat, Value.category]) ?_
          clear hl
          intro ls hl
          refine lv_goto (tgt := 33) B.1 B.2.1 dX8_about_84 (by decide) ?_
          exact ih x28 x31 x32 h29  _ _ _ hw hH (lv_sub hl [3, 4, 2, 1, 0] rfl)
  refine lv_aload_n B.1 B.2.1 dX8_about_0 rfl (lv_at hl 0 rfl) ?_
  refine lv_iload_n B.1 B.2.1 dX8_about_1 rfl (lv_at hl 1 rfl) ?_
  refine lv_i2l B.1 B.2.1 dX8_about_2 rfl ?_
  refine lv_lconst (v := 0) B.1 B.2.1 dX8_about_3 (by decide) ?_
  refine lv_ldc2 (own := RX8) B.1 B.2.1 B.2.2.2.1 (tw_1143 B.2.2.2.2.1) dX8_about_4 ?_
  refine c_S_I (own := RX8) (As := [.long (a1.toInt64), .long 0, .long 7]) (rest := [.ref (zA Z a0)]) B hH (cy_X8_in B.2.2.2.2.1) (ct_X8_in B.2.2.2.2.2.2.2 l (a1.toInt64) 0 7 h _ _  hw) ⟨⟨rfl, rfl⟩, Nat.le_of_ble_eq_true rfl, Nat.le_of_ble_eq_true rfl, Nat.zero_le _, Nat.zero_le _⟩ (tw_1010 B.2.2.2.2.1) rfl hl.1 rfl (Nat.le_of_ble_eq_true rfl) dX8_about_7 ?_
  clear hw hH
  intro r2 h1 H locs hw hH
  refine lv_if_eq (tgt := 17) B.1 B.2.1 dX8_about_10 (by decide) (fun c3 => ?_) (fun c3 => ?_)
  · replace hw := hw.1 c3
    refine lv_iconst (v := 1) B.1 B.2.1 dX8_about_17 (by decide) ?_
    refine c_V_I (own := RX8) (As := [.int 1]) (rest := []) B hH (cy_X8_refused B.2.2.2.2.1) (ct_X8_refused B.2.2.2.2.2.2.2 l a0 1 h1 _ _ (k0) hw) ⟨⟨rfl, rfl⟩, Nat.le_of_ble_eq_true rfl, Nat.le_of_ble_eq_true rfl, Nat.zero_le _, Nat.zero_le _⟩ (rv_8 B hH (k0)) (tw_1013 B.2.2.2.2.1) rfl hl.1 rfl (Nat.le_of_ble_eq_true rfl) dX8_about_18 ?_
    clear hw hH
    intro r5 h4 H locs hw hH
    refine lv_if_eq (tgt := 26) B.1 B.2.1 dX8_about_21 (by decide) (fun c6 => ?_) (fun c6 => ?_)
    · replace hw := hw.1 c6
      refine lv_iconst (v := 0) B.1 B.2.1 dX8_about_26 (by decide) ?_
      refine lv_istore_n (lv' := [(2, .int 0), (0, .ref (zA Z a0)), (1, .int a1)]) B.1 B.2.1 dX8_about_27 rfl hl (by decide) (by first | rfl | simp [va_re_cat, Value.category]) ?_
      clear hl
      intro ls hl
      refine lv_iconst (v := 0) B.1 B.2.1 dX8_about_28 (by decide) ?_
      refine lv_istore_n (lv' := [(3, .int 0), (2, .int 0), (0, .ref (zA Z a0)), (1, .int a1)]) B.1 B.2.1 dX8_about_29 rfl hl (by decide) (by first | rfl | simp [va_re_cat, Value.category]) ?_
      clear hl
      intro ls hl
      refine lv_iconst (v := 0) B.1 B.2.1 dX8_about_30 (by decide) ?_
      refine lv_istore (lv' := [(4, .int 0), (3, .int 0), (2, .int 0), (0, .ref (zA Z a0)), (1, .int a1)]) B.1 B.2.1 dX8_about_31 hl (by decide) (by first | rfl | simp [va_re_cat, Value.category]) ?_
      clear hl
      intro ls hl
      obtain ⟨n33, hw⟩ := hw
      exact L33 a0 a1 (k0) n33 0 0 0 h4  _ _ _ hw hH (lv_sub hl [3, 4, 2, 1, 0] rfl)
    · replace hw := hw.2 c6
      refine lv_iconst (v := 0) B.1 B.2.1 dX8_about_24 (by decide) ?_
      exact e_i B hr hH hw dX8_about_25
  · replace hw := hw.2 c3
    refine lv_iconst (v := 0) B.1 B.2.1 dX8_about_13 (by decide) ?_
    refine lv_goto (tgt := 18) B.1 B.2.1 dX8_about_14 (by decide) ?_
    refine c_V_I (own := RX8) (As := [.int 0]) (rest := []) B hH (cy_X8_refused B.2.2.2.2.1) (ct_X8_refused B.2.2.2.2.2.2.2 l a0 0 h1 _ _ (k0) hw) ⟨⟨rfl, rfl⟩, Nat.le_of_ble_eq_true rfl, Nat.le_of_ble_eq_true rfl, Nat.zero_le _, Nat.zero_le _⟩ (rv_8 B hH (k0)) (tw_1013 B.2.2.2.2.1) rfl hl.1 rfl (Nat.le_of_ble_eq_true rfl) dX8_about_18 ?_
    clear hw hH
    intro r35 h34 H locs hw hH
    refine lv_if_eq (tgt := 26) B.1 B.2.1 dX8_about_21 (by decide) (fun c36 => ?_) (fun c36 => ?_)
    · replace hw := hw.1 c36
      refine lv_iconst (v := 0) B.1 B.2.1 dX8_about_26 (by decide) ?_
      refine lv_istore_n (lv' := [(2, .int 0), (0, .ref (zA Z a0)), (1, .int a1)]) B.1 B.2.1 dX8_about_27 rfl hl (by decide) (by first | rfl | simp [va_re_cat, Value.category]) ?_
      clear hl
      intro ls hl
      refine lv_iconst (v := 0) B.1 B.2.1 dX8_about_28 (by decide) ?_
      refine lv_istore_n (lv' := [(3, .int 0), (2, .int 0), (0, .ref (zA Z a0)), (1, .int a1)]) B.1 B.2.1 dX8_about_29 rfl hl (by decide) (by first | rfl | simp [va_re_cat, Value.category]) ?_
      clear hl
      intro ls hl
      refine lv_iconst (v := 0) B.1 B.2.1 dX8_about_30 (by decide) ?_
      refine lv_istore (lv' := [(4, .int 0), (3, .int 0), (2, .int 0), (0, .ref (zA Z a0)), (1, .int a1)]) B.1 B.2.1 dX8_about_31 hl (by decide) (by first | rfl | simp [va_re_cat, Value.category]) ?_
      clear hl
      intro ls hl
      obtain ⟨n37, hw⟩ := hw
      exact L33 a0 a1 (k0) n37 0 0 0 h34  _ _ _ hw hH (lv_sub hl [3, 4, 2, 1, 0] rfl)
    · replace hw := hw.2 c36
      refine lv_iconst (v := 0) B.1 B.2.1 dX8_about_24 (by decide) ?_
      exact e_i B hr hH hw dX8_about_25
theorem cy_X8_reelOf {s : State} {args : Array Value} (hG : GG s) : CYV s args yX8_reelOf cX8_reelOf 7 (some .int) 2 := CYV.of hG (fun _ _ hG => tw_1150 hG) (tw_8 hG) (tw_1148 hG) (tw_1149 hG) (by decide +kernel)
set_option maxRecDepth 100000 in
set_option maxHeartbeats 4000000 in
theorem ct_X8_reelOf {Z : ZT} (hZ : ZO Z) (l : Launch) (a0 : Nat) (a1 : Int32) (a2 : Int32) (h : PH) (sz : Nat) (Q : Int32 → PH → Prop) (k0 : kd a0 = 8) (hw : wp_X8_reelOf a0 a1 a2 h Q) : MI Z l yX8_reelOf cX8_reelOf 7 (some .int) ({ frames := 3, cells := 0, slots := 0, locals := 69 } : Room) h sz [.ref (zA Z a0), .int a1, .int a2] Q := by
  refine open_M hZ (by decide +kernel) (by exact Nat.le_of_ble_eq_true rfl) ?_
  intro p e s m below meth c B hr hsz ls hl hH
  subst hsz
  have hl : lv_has ls 7 [(0, .ref (zA Z a0)), (1, .int a1), (2, .int a2)] := hl
  unfold wp_X8_reelOf at hw
  have L49 : ∀ (b0 : Nat) (b1 : Int32) (b2 : Int32), kd b0 = 8 → ∀ (n : Nat) (b3 : Int32) (b4 : Int32) (b5 : Int32) (h : PH), ∀ (H : Heap) (locs : List Loc) (ls : Array Slot), wp_X8_reelOf_b49 b0 b1 b2 Q n b3 b4 b5 h → HH Z s h H locs → lv_has ls 7 [(0, .ref (zA Z b0)), (1, .int b1), (2, .int b2), (3, .int b3), (4, .int b4), (5, .int b5)] → W p l e ({ frames := 3, cells := 0, slots := 0, locals := 69 } : Room) s m ([.ref (zA Z a0), .int a1, .int a2]).toArray below meth c H locs 0 0 (MQ below (va_Qi Q (BZ Z) (fr Z s.heap.size)) ([.ref (zA Z a0), .int a1, .int a2]).toArray s 0 0 (fr Z s.heap.size)) (F0 m 49 ls []) := by
    intro b0 b1 b2 kb0 n
    induction n with
    | zero => intro b3 b4 b5 h H locs ls hw hH hl; exact absurd hw id
    | succ n ih =>
      intro b3 b4 b5 h H locs ls hw hH hl
      unfold wp_X8_reelOf_b49 at hw
      refine lv_iload B.1 B.2.1 dX8_reelOf_49 (lv_at hl 5 rfl) ?_
      refine lv_aload_n B.1 B.2.1 dX8_reelOf_51 rfl (lv_at hl 0 rfl) ?_
      refine r_get B hH (own := RX8) (kd_n B (kb0) (by decide) (by decide)) (ct_8 (kb0)) rfl (ul_8 B.2.2.2.2.1) 3 (by decide) rfl (tw_969 B.2.2.2.2.1) dX8_reelOf_52 ?_
      refine lv_iload_n B.1 B.2.1 dX8_reelOf_55 rfl (lv_at hl 1 rfl) ?_
      refine c_S_I (own := RX8) (As := [.ref (zA Z (b0 + 2)), .int b1]) (rest := [.int b5]) B hH (cy_X8_cells B.2.2.2.2.1) (ct_X8_cells B.2.2.2.2.2.2.2 l (b0 + 2) b1 h _ _ (kf_8_3 (kb0)) hw) ⟨⟨rfl, rfl⟩, Nat.le_of_ble_eq_true rfl, Nat.le_of_ble_eq_true rfl, Nat.zero_le _, Nat.zero_le _⟩ (tw_1063 B.2.2.2.2.1) rfl hl.1 rfl (Nat.le_of_ble_eq_true rfl) dX8_reelOf_56 ?_
      clear hw hH
      intro r11 h10 H locs hw hH
      refine lv_icmp_ge (tgt := 127) B.1 B.2.1 dX8_reelOf_59 (by decide) (fun c12 => ?_) (fun c12 => ?_)
      · replace hw := hw.1 c12
        refine lv_iload_n B.1 B.2.1 dX8_reelOf_127 rfl (lv_at hl 2 rfl) ?_
        refine lv_if_ne (tgt := 142) B.1 B.2.1 dX8_reelOf_128 (by decide) (fun c13 => ?_) (fun c13 => ?_)
        · replace hw := hw.1 c13
          refine lv_iload_n B.1 B.2.1 dX8_reelOf_142 rfl (lv_at hl 2 rfl) ?_
          refine lv_iconst (v := 3) B.1 B.2.1 dX8_reelOf_143 (by decide) ?_
          refine lv_icmp_ge (tgt := 168) B.1 B.2.1 dX8_reelOf_144 (by decide) (fun c14 => ?_) (fun c14 => ?_)
          · replace hw := hw.1 c14
            refine lv_iload_n B.1 B.2.1 dX8_reelOf_168 rfl (lv_at hl 2 rfl) ?_
            refine lv_iconst (v := 3) B.1 B.2.1 dX8_reelOf_169 (by decide) ?_
            refine lv_icmp_ne (tgt := 177) B.1 B.2.1 dX8_reelOf_170 (by decide) (fun c15 => ?_) (fun c15 => ?_)
            · replace hw := hw.1 c15
              refine lv_iload B.1 B.2.1 dX8_reelOf_177 (lv_at hl 4 rfl) ?_
              exact e_i B hr hH hw dX8_reelOf_179
            · replace hw := hw.2 c15
              refine lv_iload_n B.1 B.2.1 dX8_reelOf_173 rfl (lv_at hl 3 rfl) ?_
              refine lv_goto (tgt := 179) B.1 B.2.1 dX8_reelOf_174 (by decide) ?_
              exact e_i B hr hH hw dX8_reelOf_179
          · replace hw := hw.2 c14
            refine lv_aload_n B.1 B.2.1 dX8_reelOf_147 rfl (lv_at hl 0 rfl) ?_
            refine r_get B hH (own := RX8) (kd_n B (kb0) (by decide) (by decide)) (ct_8 (kb0)) rfl (ul_8 B.2.2.2.2.1) 3 (by decide) rfl (tw_969 B.2.2.2.2.1) dX8_reelOf_148 ?_
            refine lv_iload_n B.1 B.2.1 dX8_reelOf_151 rfl (lv_at hl 1 rfl) ?_
            refine lv_iload_n B.1 B.2.1 dX8_reelOf_152 rfl (lv_at hl 2 rfl) ?_
            refine lv_iconst (v := 1) B.1 B.2.1 dX8_reelOf_153 (by decide) ?_
            refine lv_icmp_ne (tgt := 161) B.1 B.2.1 dX8_reelOf_154 (by decide) (fun c16 => ?_) (fun c16 => ?_)
            · replace hw := hw.1 c16
              refine lv_iconst (v := 0) B.1 B.2.1 dX8_reelOf_161 (by decide) ?_
              refine c_S_I (own := RX8) (As := [.ref (zA Z (b0 + 2)), .int b1, .int 0]) (rest := []) B hH (cy_X8_rows B.2.2.2.2.1) (ct_X8_rows B.2.2.2.2.2.2.2 l (b0 + 2) b1 0 h10 _ _ (kf_8_3 (kb0)) hw) ⟨⟨rfl, rfl⟩, Nat.le_of_ble_eq_true rfl, Nat.le_of_ble_eq_true rfl, Nat.zero_le _, Nat.zero_le _⟩ (tw_1158 B.2.2.2.2.1) rfl hl.1 rfl (Nat.le_of_ble_eq_true rfl) dX8_reelOf_162 ?_
              clear hw hH
              intro r18 h17 H locs hw hH
              refine lv_goto (tgt := 179) B.1 B.2.1 dX8_reelOf_165 (by decide) ?_
              exact e_i B hr hH hw dX8_reelOf_179
            · replace hw := hw.2 c16
              refine lv_iconst (v := 1) B.1 B.2.1 dX8_reelOf_157 (by decide) ?_
              refine lv_goto (tgt := 162) B.1 B.2.1 dX8_reelOf_158 (by decide) ?_
              refine c_S_I (own := RX8) (As := [.ref (zA Z (b0 + 2)), .int b1, .int 1]) (rest := []) B hH (cy_X8_rows B.2.2.2.2.1) (ct_X8_rows B.2.2.2.2.2.2.2 l (b0 + 2) b1 1 h10 _ _ (kf_8_3 (kb0)) hw) ⟨⟨rfl, rfl⟩, Nat.le_of_ble_eq_true rfl, Nat.le_of_ble_eq_true rfl, Nat.zero_le _, Nat.zero_le _⟩ (tw_1158 B.2.2.2.2.1) rfl hl.1 rfl (Nat.le_of_ble_eq_true rfl) dX8_reelOf_162 ?_
              clear hw hH
              intro r20 h19 H locs hw hH
              refine lv_goto (tgt := 179) B.1 B.2.1 dX8_reelOf_165 (by decide) ?_
              exact e_i B hr hH hw dX8_reelOf_179
        · replace hw := hw.2 c13
          refine lv_aload_n B.1 B.2.1 dX8_reelOf_131 rfl (lv_at hl 0 rfl) ?_
          refine r_get B hH (own := RX8) (kd_n B (kb0) (by decide) (by decide)) (ct_8 (kb0)) rfl (ul_8 B.2.2.2.2.1) 3 (by decide) rfl (tw_969 B.2.2.2.2.1) dX8_reelOf_132 ?_
          refine lv_iload_n B.1 B.2.1 dX8_reelOf_135 rfl (lv_at hl 1 rfl) ?_
          refine c_S_I (own := RX8) (As := [.ref (zA Z (b0 + 2)), .int b1]) (rest := []) B hH (cy_X8_cells B.2.2.2.2.1) (ct_X8_cells B.2.2.2.2.2.2.2 l (b0 + 2) b1 h10 _ _ (kf_8_3 (kb0)) hw) ⟨⟨rfl, rfl⟩, Nat.le_of_ble_eq_true rfl, Nat.le_of_ble_eq_true rfl, Nat.zero_le _, Nat.zero_le _⟩ (tw_1063 B.2.2.2.2.1) rfl hl.1 rfl (Nat.le_of_ble_eq_true rfl) dX8_reelOf_136 ?_
          clear hw hH
          intro r22 h21 H locs hw hH
          refine lv_goto (tgt := 179) B.1 B.2.1 dX8_reelOf_139 (by decide) ?_
          exact e_i B hr hH hw dX8_reelOf_179
      · replace hw := hw.2 c12
        refine lv_iload_n B.1 B.2.1 dX8_reelOf_62 rfl (lv_at hl 3 rfl) ?_
        refine lv_aload_n B.1 B.2.1 dX8_reelOf_63 rfl (lv_at hl 0 rfl) ?_
        refine r_get B hH (own := RX8) (kd_n B (kb0) (by decide) (by decide)) (ct_8 (kb0)) rfl (ul_8 B.2.2.2.2.1) 3 (by decide) rfl (tw_969 B.2.2.2.2.1) dX8_reelOf_64 ?_
        refine lv_iload_n B.1 B.2.1 dX8_reelOf_67 rfl (lv_at hl 1 rfl) ?_
        refine lv_iload B.1 B.2.1 dX8_reelOf_68 (lv_at hl 5 rfl) ?_
        refine c_S_I (own := RX8) (As := [.ref (zA Z (b0 + 2)), .int b1, .int b5]) (rest := [.int b3]) B hH (cy_X8_soundAt B.2.2.2.2.1) (ct_X8_soundAt B.2.2.2.2.2.2.2 l (b0 + 2) b1 b5 h10 _ _ (kf_8_3 (kb0)) hw) ⟨⟨rfl, rfl⟩, Nat.le_of_ble_eq_true rfl, Nat.le_of_ble_eq_true rfl, Nat.zero_le _, Nat.zero_le _⟩ (tw_1095 B.2.2.2.2.1) rfl hl.1 rfl (Nat.le_of_ble_eq_true rfl) dX8_reelOf_70 ?_
        clear hw hH
        intro r24 h23 H locs hw hH
        refine lv_iadd B.1 B.2.1 dX8_reelOf_73 ?_
        refine lv_topi (fun x25 ex25 => ?_)
        replace hw := hw x25 ex25
        refine lv_istore_n (lv' := [(3, .int x25), (0, .ref (zA Z b0)), (1, .int b1), (2, .int b2), (4, .int b4), (5, .int b5)]) B.1 B.2.1 dX8_reelOf_74 rfl hl (by decide) (by first | rfl | simp [va_re_cat, Value.category]) ?_
        clear hl
        intro ls hl
        refine lv_aload_n B.1 B.2.1 dX8_reelOf_75 rfl (lv_at hl 1 rfl) ?_
        refine r_get B hH (own := RX8) (kd_n B (kb0) (by decide) (by decide)) (ct_8 (kb0)) rfl (ul_8 B.2.2.2.2.1) 3 (by decide) rfl (tw_969 B.2.2.2.2.1) dX8_reelOf_76 ?_
        refine lv_iload_n B.1 B.2.1 dX8_reelOf_79 rfl (lv_at hl 2 rfl) ?_
        refine lv_iload B.1 B.2.1 dX8_reelOf_80 (lv_at hl 5 rfl) ?_
        refine lv_iconst (v := 1) B.1 B.2.1 dX8_reelOf_82 (by decide) ?_
        refine c_S_I (own := RX8) (As := [.ref (zA Z (b0 + 2)), .int b1, .int b5, .int 1]) (rest := []) B hH (cy_X8_begins B.2.2.2.2.1) (ct_X8_begins B.2.2.2.2.2.2.2 l (b0 + 2) b1 b5 1 h23 _ _ (kf_8_3 (kb0)) hw) ⟨⟨rfl, rfl⟩, Nat.le_of_ble_eq_true rfl, Nat.le_of_ble_eq_true rfl, Nat.zero_le _, Nat.zero_le _⟩ (tw_1152 B.2.2.2.2.1) rfl hl.1 rfl (Nat.le_of_ble_eq_true rfl) dX8_reelOf_83 ?_
        clear hw hH
        intro r27 h26 H locs hw hH
        refine lv_if_eq (tgt := 102) B.1 B.2.1 dX8_reelOf_86 (by decide) (fun c28 => ?_) (fun c28 => ?_)
        · replace hw := hw.1 c28
          refine lv_iconst (v := 0) B.1 B.2.1 dX8_reelOf_102 (by decide) ?_
          refine lv_istore (lv' := [(6, .int 0), (3, .int x25), (0, .ref (zA Z b0)), (1, .int b1), (2, .int b2), (4, .int b4), (5, .int b5)]) B.1 B.2.1 dX8_reelOf_103 hl (by decide) (by first | rfl | simp [va_re_cat, Value.category]) ?_
          clear hl
          intro ls hl
          refine lv_iload B.1 B.2.1 dX8_reelOf_105 (lv_at hl 0 rfl) ?_
          refine lv_iload B.1 B.2.1 dX8_reelOf_107 (lv_at hl 5 rfl) ?_
          refine lv_icmp_le (tgt := 117) B.1 B.2.1 dX8_reelOf_109 (by decide) (fun c29 => ?_) (fun c29 => ?_)
          · replace hw := hw.1 c29
            refine lv_iload B.1 B.2.1 dX8_reelOf_117 (lv_at hl 5 rfl) ?_
            refine lv_istore (lv' := [(4, .int b4), (6, .int 0), (3, .int x25), (0, .ref (zA Z b0)), (1, .int b1), (2, .int b2), (5, .int b5)]) B.1 B.2.1 dX8_reelOf_119 hl (by decide) (by first | rfl | simp [va_re_cat, Value.category]) ?_
            clear hl
            intro ls hl
            obtain ⟨x30, ex30⟩ : ∃ y : Int32, y = b5 + 1 := ⟨_, rfl⟩
            replace hw := hw x30 ex30
            refine lv_iinc (v := x30) (lv' := [(5, .int x30), (4, .int b4), (6, .int 0), (3, .int x25), (0, .ref (zA Z b0)), (1, .int b1), (2, .int b2)]) B.1 B.2.1 dX8_reelOf_121 hl (k := 6) rfl (by rw [ex30]; rfl) (by decide) (by first | rfl | simp [va_re_cat, Value.category]) ?_
            clear hl
            intro ls hl
            refine lv_goto (tgt := 49) B.1 B.2.1 dX8_reelOf_124 (by decide) ?_
            exact ih x25 b4 x30 h26  _ _ _ hw hH (lv_sub hl [4, 5, 6, 3, 1, 0] rfl)
          · replace hw := hw.2 c29
            refine lv_iload B.1 B.2.1 dX8_reelOf_112 (lv_at hl 0 rfl) ?_
            refine lv_goto (tgt := 119) B.1 B.2.1 dX8_reelOf_114 (by decide) ?_
            refine lv_istore (lv' := [(4, .int 0), (6, .int 0), (3, .int x25), (0, .ref (zA Z b0)), (1, .int b1), (2, .int b2), (5, .int b5)]) B.1 B.2.1 dX8_reelOf_119 hl (by decide) (by first | rfl | simp [va_re_cat, Value.category]) ?_
            clear hl
            intro ls hl
            obtain ⟨x31, ex31⟩ : ∃ y : Int32, y = b5 + 1 := ⟨_, rfl⟩
            replace hw := hw x31 ex31
            refine lv_iinc (v := x31) (lv' := [(5, .int x31), (4, .int 0), (6, .int 0), (3, .int x25), (0, .ref (zA Z b0)), (1, .int b1), (2, .int b2)]) B.1 B.2.1 dX8_reelOf_121 hl (k := 6) rfl (by rw [ex31]; rfl) (by decide) (by first | rfl | simp [va_re_cat, Value.category]) ?_
            clear hl
            intro ls hl
            refine lv_goto (tgt := 49) B.1 B.2.1 dX8_reelOf_124 (by decide) ?_
            exact ih x25 0 x31 h26  _ _ _ hw hH (lv_sub hl [4, 5, 6, 3, 1, 0] rfl)
        · replace hw := hw.2 c28
          refine lv_aload_n B.1 B.2.1 dX8_reelOf_89 rfl (lv_at hl 1 rfl) ?_
          refine r_get B hH (own := RX8) (kd_n B (kb0) (by decide) (by decide)) (ct_8 (kb0)) rfl (ul_8 B.2.2.2.2.1) 3 (by decide) rfl (tw_969 B.2.2.2.2.1) dX8_reelOf_90 ?_
          refine lv_iload_n B.1 B.2.1 dX8_reelOf_93 rfl (lv_at hl 2 rfl) ?_
          refine lv_iload B.1 B.2.1 dX8_reelOf_94 (lv_at hl 5 rfl) ?_
          refine c_S_I (own := RX8) (As := [.ref (zA Z (b0 + 2)), .int b1, .int b5]) (rest := []) B hH (cy_X8_rowMany B.2.2.2.2.1) (ct_X8_rowMany B.2.2.2.2.2.2.2 l (b0 + 2) b1 b5 h26 _ _ (kf_8_3 (kb0)) hw) ⟨⟨rfl, rfl⟩, Nat.le_of_ble_eq_true rfl, Nat.le_of_ble_eq_true rfl, Nat.zero_le _, Nat.zero_le _⟩ (tw_1155 B.2.2.2.2.1) rfl hl.1 rfl (Nat.le_of_ble_eq_true rfl) dX8_reelOf_96 ?_
          clear hw hH
          intro r33 h32 H locs hw hH
          refine lv_goto (tgt := 103) B.1 B.2.1 dX8_reelOf_99 (by decide) ?_
          refine lv_istore (lv' := [(6, .int r33), (3, .int x25), (0, .ref (zA Z b0)), (1, .int b1), (2, .int b2), (4, .int b4), (5, .int b5)]) B.1 B.2.1 dX8_reelOf_103 hl (by decide) (by first | rfl | simp [va_re_cat, Value.category]) ?_
          clear hl
          intro ls hl
          refine lv_iload B.1 B.2.1 dX8_reelOf_105 (lv_at hl 0 rfl) ?_
          refine lv_iload B.1 B.2.1 dX8_reelOf_107 (lv_at hl 5 rfl) ?_
          refine lv_icmp_le (tgt := 117) B.1 B.2.1 dX8_reelOf_109 (by decide) (fun c34 => ?_) (fun c34 => ?_)
          · replace hw := hw.1 c34
            refine lv_iload B.1 B.2.1 dX8_reelOf_117 (lv_at hl 5 rfl) ?_
            refine lv_istore (lv' := [(4, .int b4), (6, .int r33), (3, .int x25), (0, .ref (zA Z b0)), (1, .int b1), (2, .int b2), (5, .int b5)]) B.1 B.2.1 dX8_reelOf_119 hl (by decide) (by first | rfl | simp [va_re_cat, Value.category]) ?_
            clear hl
            intro ls hl
            obtain ⟨x35, ex35⟩ : ∃ y : Int32, y = b5 + 1 := ⟨_, rfl⟩
            replace hw := hw x35 ex35
            refine lv_iinc (v := x35) (lv' := [(5, .int x35), (4, .int b4), (6, .int r33), (3, .int x25), (0, .ref (zA Z b0)), (1, .int b1), (2, .int b2)]) B.1 B.2.1 dX8_reelOf_121 hl (k := 6) rfl (by rw [ex35]; rfl) (by decide) (by first | rfl | simp [va_re_cat, Value.category]) ?_
            clear hl
            intro ls hl
            refine lv_goto (tgt := 49) B.1 B.2.1 dX8_reelOf_124 (by decide) ?_
            exact ih x25 b4 x35 h32  _ _ _ hw hH (lv_sub hl [4, 5, 6, 3, 1, 0] rfl)
          · replace hw := hw.2 c34
            refine lv_iload B.1 B.2.1 dX8_reelOf_112 (lv_at hl 0 rfl) ?_
            refine lv_goto (tgt := 119) B.1 B.2.1 dX8_reelOf_114 (by decide) ?_
            refine lv_istore (lv' := [(4, .int r33), (6, .int r33), (3, .int x25), (0, .ref (zA Z b0)), (1, .int b1), (2, .int b2), (5, .int b5)]) B.1 B.2.1 dX8_reelOf_119 hl (by decide) (by first | rfl | simp [va_re_cat, Value.category]) ?_
            clear hl
            intro ls hl
            obtain ⟨x36, ex36⟩ : ∃ y : Int32, y = b5 + 1 := ⟨_, rfl⟩
            replace hw := hw x36 ex36
            refine lv_iinc (v := x36) (lv' := [(5, .int x36), (4, .int r33), (6, .int r33), (3, .int x25), (0, .ref (zA Z b0)), (1, .int b1), (2, .int b2)]) B.1 B.2.1 dX8_reelOf_121 hl (k := 6) rfl (by rw [ex36]; rfl) (by decide) (by first | rfl | simp [va_re_cat, Value.category]) ?_
            clear hl
            intro ls hl
            refine lv_goto (tgt := 49) B.1 B.2.1 dX8_reelOf_124 (by decide) ?_
            exact ih x25 r33 x36 h32  _ _ _ hw hH (lv_sub hl [4, 5, 6, 3, 1, 0] rfl)
  refine lv_aload_n B.1 B.2.1 dX8_reelOf_0 rfl (lv_at hl 0 rfl) ?_
  refine lv_aload_n B.1 B.2.1 dX8_reelOf_1 rfl (lv_at hl 0 rfl) ?_
  refine r_get B hH (own := RX8) (kd_n B (k0) (by decide) (by decide)) (ct_8 (k0)) rfl (ul_8 B.2.2.2.2.1) 3 (by decide) rfl (tw_969 B.2.2.2.2.1) dX8_reelOf_2 ?_
  refine lv_iload_n B.1 B.2.1 dX8_reelOf_5 rfl (lv_at hl 1 rfl) ?_
  refine c_S_I (own := RX8) (As := [.ref (zA Z (a0 + 2)), .int a1]) (rest := [.ref (zA Z a0)]) B hH (cy_X8_isReel B.2.2.2.2.1) (ct_X8_isReel B.2.2.2.2.2.2.2 l (a0 + 2) a1 h _ _ (kf_8_3 (k0)) hw) ⟨⟨rfl, rfl⟩, Nat.le_of_ble_eq_true rfl, Nat.le_of_ble_eq_true rfl, Nat.zero_le _, Nat.zero_le _⟩ (tw_1060 B.2.2.2.2.1) rfl hl.1 rfl (Nat.le_of_ble_eq_true rfl) dX8_reelOf_6 ?_
  clear hw hH
  intro r2 h1 H locs hw hH
  refine lv_if_ne (tgt := 16) B.1 B.2.1 dX8_reelOf_9 (by decide) (fun c3 => ?_) (fun c3 => ?_)
  · replace hw := hw.1 c3
    refine lv_iload_n B.1 B.2.1 dX8_reelOf_16 rfl (lv_at hl 2 rfl) ?_
    refine lv_i2l B.1 B.2.1 dX8_reelOf_17 rfl ?_
    refine lv_lconst (v := 0) B.1 B.2.1 dX8_reelOf_18 (by decide) ?_
    refine lv_ldc2 (own := RX8) B.1 B.2.1 B.2.2.2.1 (tw_1151 B.2.2.2.2.1) dX8_reelOf_19 ?_
    refine c_S_I (own := RX8) (As := [.long (a2.toInt64), .long 0, .long 4]) (rest := [.ref (zA Z a0)]) B hH (cy_X8_in B.2.2.2.2.1) (ct_X8_in B.2.2.2.2.2.2.2 l (a2.toInt64) 0 4 h1 _ _  hw) ⟨⟨rfl, rfl⟩, Nat.le_of_ble_eq_true rfl, Nat.le_of_ble_eq_true rfl, Nat.zero_le _, Nat.zero_le _⟩ (tw_1010 B.2.2.2.2.1) rfl hl.1 rfl (Nat.le_of_ble_eq_true rfl) dX8_reelOf_22 ?_
    clear hw hH
    intro r5 h4 H locs hw hH
    refine lv_if_eq (tgt := 32) B.1 B.2.1 dX8_reelOf_25 (by decide) (fun c6 => ?_) (fun c6 => ?_)
    · replace hw := hw.1 c6
      refine lv_iconst (v := 2) B.1 B.2.1 dX8_reelOf_32 (by decide) ?_
      refine c_V_I (own := RX8) (As := [.int 2]) (rest := []) B hH (cy_X8_refused B.2.2.2.2.1) (ct_X8_refused B.2.2.2.2.2.2.2 l a0 2 h4 _ _ (k0) hw) ⟨⟨rfl, rfl⟩, Nat.le_of_ble_eq_true rfl, Nat.le_of_ble_eq_true rfl, Nat.zero_le _, Nat.zero_le _⟩ (rv_8 B hH (k0)) (tw_1013 B.2.2.2.2.1) rfl hl.1 rfl (Nat.le_of_ble_eq_true rfl) dX8_reelOf_33 ?_
      clear hw hH
      intro r8 h7 H locs hw hH
      refine lv_if_eq (tgt := 41) B.1 B.2.1 dX8_reelOf_36 (by decide) (fun c9 => ?_) (fun c9 => ?_)
      · replace hw := hw.1 c9
        refine lv_iconst (v := 0) B.1 B.2.1 dX8_reelOf_41 (by decide) ?_
        refine lv_istore_n (lv' := [(3, .int 0), (0, .ref (zA Z a0)), (1, .int a1), (2, .int a2)]) B.1 B.2.1 dX8_reelOf_42 rfl hl (by decide) (by first | rfl | simp [va_re_cat, Value.category]) ?_
        clear hl
        intro ls hl
        refine lv_iconst (v := 0) B.1 B.2.1 dX8_reelOf_43 (by decide) ?_
        refine lv_istore (lv' := [(4, .int 0), (3, .int 0), (0, .ref (zA Z a0)), (1, .int a1), (2, .int a2)]) B.1 B.2.1 dX8_reelOf_44 hl (by decide) (by first | rfl | simp [va_re_cat, Value.category]) ?_
        clear hl
        intro ls hl
        refine lv_iconst (v := 0) B.1 B.2.1 dX8_reelOf_46 (by decide) ?_
        refine lv_istore (lv' := [(5, .int 0), (4, .int 0), (3, .int 0), (0, .ref (zA Z a0)), (1, .int a1), (2, .int a2)]) B.1 B.2.1 dX8_reelOf_47 hl (by decide) (by first | rfl | simp [va_re_cat, Value.category]) ?_
        clear hl
        intro ls hl
        obtain ⟨n37, hw⟩ := hw
        exact L49 a0 a1 a2 (k0) n37 0 0 0 h7  _ _ _ hw hH (lv_sub hl [3, 4, 5, 2, 1, 0] rfl)
      · replace hw := hw.2 c9
        refine lv_iconst (v := 0) B.1 B.2.1 dX8_reelOf_39 (by decide) ?_
        exact e_i B hr hH hw dX8_reelOf_40
    · replace hw := hw.2 c6
      refine lv_iconst (v := 0) B.1 B.2.1 dX8_reelOf_28 (by decide) ?_
      refine lv_goto (tgt := 33) B.1 B.2.1 dX8_reelOf_29 (by decide) ?_
      refine c_V_I (own := RX8) (As := [.int 0]) (rest := []) B hH (cy_X8_refused B.2.2.2.2.1) (ct_X8_refused B.2.2.2.2.2.2.2 l a0 0 h4 _ _ (k0) hw) ⟨⟨rfl, rfl⟩, Nat.le_of_ble_eq_true rfl, Nat.le_of_ble_eq_true rfl, Nat.zero_le _, Nat.zero_le _⟩ (rv_8 B hH (k0)) (tw_1013 B.2.2.2.2.1) rfl hl.1 rfl (Nat.le_of_ble_eq_true rfl) dX8_reelOf_33 ?_
      clear hw hH
      intro r39 h38 H locs hw hH
      refine lv_if_eq (tgt := 41) B.1 B.2.1 dX8_reelOf_36 (by decide) (fun c40 => ?_) (fun c40 => ?_)
      · replace hw := hw.1 c40
        refine lv_iconst (v := 0) B.1 B.2.1 dX8_reelOf_41 (by decide) ?_
        refine lv_istore_n (lv' := [(3, .int 0), (0, .ref (zA Z a0)), (1, .int a1), (2, .int a2)]) B.1 B.2.1 dX8_reelOf_42 rfl hl (by decide) (by first | rfl | simp [va_re_cat, Value.category]) ?_
        clear hl
        intro ls hl
        refine lv_iconst (v := 0) B.1 B.2.1 dX8_reelOf_43 (by decide) ?_
        refine lv_istore (lv' := [(4, .int 0), (3, .int 0), (0, .ref (zA Z a0)), (1, .int a1), (2, .int a2)]) B.1 B.2.1 dX8_reelOf_44 hl (by decide) (by first | rfl | simp [va_re_cat, Value.category]) ?_
        clear hl
        intro ls hl
        refine lv_iconst (v := 0) B.1 B.2.1 dX8_reelOf_46 (by decide) ?_
        refine lv_istore (lv' := [(5, .int 0), (4, .int 0), (3, .int 0), (0, .ref (zA Z a0)), (1, .int a1), (2, .int a2)]) B.1 B.2.1 dX8_reelOf_47 hl (by decide) (by first | rfl | simp [va_re_cat, Value.category]) ?_
        clear hl
        intro ls hl
        obtain ⟨n41, hw⟩ := hw
        exact L49 a0 a1 a2 (k0) n41 0 0 0 h38  _ _ _ hw hH (lv_sub hl [3, 4, 5, 2, 1, 0] rfl)
      · replace hw := hw.2 c40
        refine lv_iconst (v := 0) B.1 B.2.1 dX8_reelOf_39 (by decide) ?_
        exact e_i B hr hH hw dX8_reelOf_40
  · replace hw := hw.2 c3
    refine lv_iconst (v := 1) B.1 B.2.1 dX8_reelOf_12 (by decide) ?_
    refine lv_goto (tgt := 33) B.1 B.2.1 dX8_reelOf_13 (by decide) ?_
    refine c_V_I (own := RX8) (As := [.int 1]) (rest := []) B hH (cy_X8_refused B.2.2.2.2.1) (ct_X8_refused B.2.2.2.2.2.2.2 l a0 1 h1 _ _ (k0) hw) ⟨⟨rfl, rfl⟩, Nat.le_of_ble_eq_true rfl, Nat.le_of_ble_eq_true rfl, Nat.zero_le _, Nat.zero_le _⟩ (rv_8 B hH (k0)) (tw_1013 B.2.2.2.2.1) rfl hl.1 rfl (Nat.le_of_ble_eq_true rfl) dX8_reelOf_33 ?_
    clear hw hH
    intro r43 h42 H locs hw hH
    refine lv_if_eq (tgt := 41) B.1 B.2.1 dX8_reelOf_36 (by decide) (fun c44 => ?_) (fun c44 => ?_)
    · replace hw := hw.1 c44
      refine lv_iconst (v := 0) B.1 B.2.1 dX8_reelOf_41 (by decide) ?_
      refine lv_istore_n (lv' := [(3, .int 0), (0, .ref (zA Z a0)), (1, .int a1), (2, .int a2)]) B.1 B.2.1 dX8_reelOf_42 rfl hl (by decide) (by first | rfl | simp [va_re_cat, Value.category]) ?_
      clear hl
      intro ls hl
      refine lv_iconst (v := 0) B.1 B.2.1 dX8_reelOf_43 (by decide) ?_
      refine lv_istore (lv' := [(4, .int 0), (3, .int 0), (0, .ref (zA Z a0)), (1, .int a1), (2, .int a2)]) B.1 B.2.1 dX8_reelOf_44 hl (by decide) (by first | rfl | simp [va_re_cat, Value.category]) ?_
      clear hl
      intro ls hl
      refine lv_iconst (v := 0) B.1 B.2.1 dX8_reelOf_46 (by decide) ?_
      refine lv_istore (lv' := [(5, .int 0), (4, .int 0), (3, .int 0), (0, .ref (zA Z a0)), (1, .int a1), (2, .int a2)]) B.1 B.2.1 dX8_reelOf_47 hl (by decide) (by first | rfl | simp [va_re_cat, Value.category]) ?_
      clear hl
      intro ls hl
      obtain ⟨n45, hw⟩ := hw
      exact L49 a0 a1 a2 (k0) n45 0 0 0 h42  _ _ _ hw hH (lv_sub hl [3, 4, 5, 2, 1, 0] rfl)
    · replace hw := hw.2 c44
      refine lv_iconst (v := 0) B.1 B.2.1 dX8_reelOf_39 (by decide) ?_
      exact e_i B hr hH hw dX8_reelOf_40
theorem cy_X8_sound {s : State} {args : Array Value} (hG : GG s) : CYV s args yX8_sound cX8_sound 3 (some .int) 2 := CYV.of hG (fun _ _ hG => tw_1164 hG) (tw_8 hG) (tw_1162 hG) (tw_1163 hG) (by decide +kernel)
set_option maxRecDepth 100000 in
set_option maxHeartbeats 4000000 in
theorem ct_X8_sound {Z : ZT} (hZ : ZO Z) (l : Launch) (a0 : Nat) (a1 : Int32) (a2 : Int32) (h : PH) (sz : Nat) (Q : Int32 → PH → Prop) (k0 : kd a0 = 8) (hw : wp_X8_sound a0 a1 a2 h Q) : MI Z l yX8_sound cX8_sound 3 (some .int) ({ frames := 3, cells := 0, slots := 0, locals := 68 } : Room) h sz [.ref (zA Z a0), .int a1, .int a2] Q := by
  refine open_M hZ (by decide +kernel) (by exact Nat.le_of_ble_eq_true rfl) ?_
  intro p e s m below meth c B hr hsz ls hl hH
  subst hsz
  have hl : lv_has ls 3 [(0, .ref (zA Z a0)), (1, .int a1), (2, .int a2)] := hl
  unfold wp_X8_sound at hw
  refine lv_aload_n B.1 B.2.1 dX8_sound_0 rfl (lv_at hl 0 rfl) ?_
  refine lv_aload_n B.1 B.2.1 dX8_sound_1 rfl (lv_at hl 0 rfl) ?_
  refine r_get B hH (own := RX8) (kd_n B (k0) (by decide) (by decide)) (ct_8 (k0)) rfl (ul_8 B.2.2.2.2.1) 3 (by decide) rfl (tw_969 B.2.2.2.2.1) dX8_sound_2 ?_
  refine lv_iload_n B.1 B.2.1 dX8_sound_5 rfl (lv_at hl 1 rfl) ?_
  refine lv_iload_n B.1 B.2.1 dX8_sound_6 rfl (lv_at hl 2 rfl) ?_
  refine c_S_I (own := RX8) (As := [.ref (zA Z (a0 + 2)), .int a1, .int a2]) (rest := [.ref (zA Z a0)]) B hH (cy_X8_isCell B.2.2.2.2.1) (ct_X8_isCell B.2.2.2.2.2.2.2 l (a0 + 2) a1 a2 h _ _ (kf_8_3 (k0)) hw) ⟨⟨rfl, rfl⟩, Nat.le_of_ble_eq_true rfl, Nat.le_of_ble_eq_true rfl, Nat.zero_le _, Nat.zero_le _⟩ (tw_1057 B.2.2.2.2.1) rfl hl.1 rfl (Nat.le_of_ble_eq_true rfl) dX8_sound_7 ?_
  clear hw hH
  intro r2 h1 H locs hw hH
  refine lv_if_eq (tgt := 17) B.1 B.2.1 dX8_sound_10 (by decide) (fun c3 => ?_) (fun c3 => ?_)
  · replace hw := hw.1 c3
    refine lv_iconst (v := 1) B.1 B.2.1 dX8_sound_17 (by decide) ?_
    refine c_V_I (own := RX8) (As := [.int 1]) (rest := []) B hH (cy_X8_refused B.2.2.2.2.1) (ct_X8_refused B.2.2.2.2.2.2.2 l a0 1 h1 _ _ (k0) hw) ⟨⟨rfl, rfl⟩, Nat.le_of_ble_eq_true rfl, Nat.le_of_ble_eq_true rfl, Nat.zero_le _, Nat.zero_le _⟩ (rv_8 B hH (k0)) (tw_1013 B.2.2.2.2.1) rfl hl.1 rfl (Nat.le_of_ble_eq_true rfl) dX8_sound_18 ?_
    clear hw hH
    intro r5 h4 H locs hw hH
    refine lv_if_eq (tgt := 26) B.1 B.2.1 dX8_sound_21 (by decide) (fun c6 => ?_) (fun c6 => ?_)
    · replace hw := hw.1 c6
      refine lv_aload_n B.1 B.2.1 dX8_sound_26 rfl (lv_at hl 0 rfl) ?_
      refine r_get B hH (own := RX8) (kd_n B (k0) (by decide) (by decide)) (ct_8 (k0)) rfl (ul_8 B.2.2.2.2.1) 3 (by decide) rfl (tw_969 B.2.2.2.2.1) dX8_sound_27 ?_
      refine lv_iload_n B.1 B.2.1 dX8_sound_30 rfl (lv_at hl 1 rfl) ?_
      refine lv_iload_n B.1 B.2.1 dX8_sound_31 rfl (lv_at hl 2 rfl) ?_
      refine c_S_I (own := RX8) (As := [.ref (zA Z (a0 + 2)), .int a1, .int a2]) (rest := []) B hH (cy_X8_soundAt B.2.2.2.2.1) (ct_X8_soundAt B.2.2.2.2.2.2.2 l (a0 + 2) a1 a2 h4 _ _ (kf_8_3 (k0)) hw) ⟨⟨rfl, rfl⟩, Nat.le_of_ble_eq_true rfl, Nat.le_of_ble_eq_true rfl, Nat.zero_le _, Nat.zero_le _⟩ (tw_1095 B.2.2.2.2.1) rfl hl.1 rfl (Nat.le_of_ble_eq_true rfl) dX8_sound_32 ?_
      clear hw hH
      intro r8 h7 H locs hw hH
      exact e_i B hr hH hw dX8_sound_35
    · replace hw := hw.2 c6
      refine lv_iconst (v := 0) B.1 B.2.1 dX8_sound_24 (by decide) ?_
      exact e_i B hr hH hw dX8_sound_25
  · replace hw := hw.2 c3
    refine lv_iconst (v := 0) B.1 B.2.1 dX8_sound_13 (by decide) ?_
    refine lv_goto (tgt := 18) B.1 B.2.1 dX8_sound_14 (by decide) ?_
    refine c_V_I (own := RX8) (As := [.int 0]) (rest := []) B hH (cy_X8_refused B.2.2.2.2.1) (ct_X8_refused B.2.2.2.2.2.2.2 l a0 0 h1 _ _ (k0) hw) ⟨⟨rfl, rfl⟩, Nat.le_of_ble_eq_true rfl, Nat.le_of_ble_eq_true rfl, Nat.zero_le _, Nat.zero_le _⟩ (rv_8 B hH (k0)) (tw_1013 B.2.2.2.2.1) rfl hl.1 rfl (Nat.le_of_ble_eq_true rfl) dX8_sound_18 ?_
    clear hw hH
    intro r10 h9 H locs hw hH
    refine lv_if_eq (tgt := 26) B.1 B.2.1 dX8_sound_21 (by decide) (fun c11 => ?_) (fun c11 => ?_)
    · replace hw := hw.1 c11
      refine lv_aload_n B.1 B.2.1 dX8_sound_26 rfl (lv_at hl 0 rfl) ?_
      refine r_get B hH (own := RX8) (kd_n B (k0) (by decide) (by decide)) (ct_8 (k0)) rfl (ul_8 B.2.2.2.2.1) 3 (by decide) rfl (tw_969 B.2.2.2.2.1) dX8_sound_27 ?_
      refine lv_iload_n B.1 B.2.1 dX8_sound_30 rfl (lv_at hl 1 rfl) ?_
      refine lv_iload_n B.1 B.2.1 dX8_sound_31 rfl (lv_at hl 2 rfl) ?_
      refine c_S_I (own := RX8) (As := [.ref (zA Z (a0 + 2)), .int a1, .int a2]) (rest := []) B hH (cy_X8_soundAt B.2.2.2.2.1) (ct_X8_soundAt B.2.2.2.2.2.2.2 l (a0 + 2) a1 a2 h9 _ _ (kf_8_3 (k0)) hw) ⟨⟨rfl, rfl⟩, Nat.le_of_ble_eq_true rfl, Nat.le_of_ble_eq_true rfl, Nat.zero_le _, Nat.zero_le _⟩ (tw_1095 B.2.2.2.2.1) rfl hl.1 rfl (Nat.le_of_ble_eq_true rfl) dX8_sound_32 ?_
      clear hw hH
      intro r13 h12 H locs hw hH
      exact e_i B hr hH hw dX8_sound_35
    · replace hw := hw.2 c11
      refine lv_iconst (v := 0) B.1 B.2.1 dX8_sound_24 (by decide) ?_
      exact e_i B hr hH hw dX8_sound_25
theorem cy_X8_silence {s : State} {args : Array Value} (hG : GG s) : CYV s args yX8_silence cX8_silence 8 (some .int) 3 := CYV.of hG (fun _ _ hG => tw_1168 hG) (tw_8 hG) (tw_1166 hG) (tw_1167 hG) (by decide +kernel)
set_option maxRecDepth 100000 in
set_option maxHeartbeats 4000000 in
theorem ct_X8_silence {Z : ZT} (hZ : ZO Z) (l : Launch) (a0 : Nat) (a1 : Int32) (a2 : Int32) (a3 : Int32) (h : PH) (sz : Nat) (Q : Int32 → PH → Prop) (k0 : kd a0 = 8) (hw : wp_X8_silence a0 a1 a2 a3 h Q) : MI Z l yX8_silence cX8_silence 8 (some .int) ({ frames := 3, cells := 0, slots := 0, locals := 70 } : Room) h sz [.ref (zA Z a0), .int a1, .int a2, .int a3] Q := by
  refine open_M hZ (by decide +kernel) (by exact Nat.le_of_ble_eq_true rfl) ?_
  intro p e s m below meth c B hr hsz ls hl hH
  subst hsz
  have hl : lv_has ls 8 [(0, .ref (zA Z a0)), (1, .int a1), (2, .int a2), (3, .int a3)] := hl
  unfold wp_X8_silence at hw
  have L119 : ∀ (b0 : Nat) (b1 : Int32) (b5 : Int32) (b6 : Int32), kd b0 = 8 → ∀ (n : Nat) (b7 : Int32) (h : PH), ∀ (H : Heap) (locs : List Loc) (ls : Array Slot), wp_X8_silence_b119 b0 b1 b5 b6 Q n b7 h → HH Z s h H locs → lv_has ls 8 [(0, .ref (zA Z b0)), (1, .int b1), (5, .int b5), (6, .int b6), (7, .int b7)] → W p l e ({ frames := 3, cells := 0, slots := 0, locals := 70 } : Room) s m ([.ref (zA Z a0), .int a1, .int a2, .int a3]).toArray below meth c H locs 0 0 (MQ below (va_Qi Q (BZ Z) (fr Z s.heap.size)) ([.ref (zA Z a0), .int a1, .int a2, .int a3]).toArray s 0 0 (fr Z s.heap.size)) (F0 m 119 ls []) := by
    intro b0 b1 b5 b6 kb0 n
    induction n with
    | zero => intro b7 h H locs ls hw hH hl; exact absurd hw id
    | succ n ih =>
      intro b7 h H locs ls hw hH hl
      unfold wp_X8_silence_b119 at hw
      refine lv_iload B.1 B.2.1 dX8_silence_119 (lv_at hl 4 rfl) ?_
      refine lv_iload B.1 B.2.1 dX8_silence_121 (lv_at hl 2 rfl) ?_
      refine lv_iload B.1 B.2.1 dX8_silence_123 (lv_at hl 3 rfl) ?_
      refine lv_iadd B.1 B.2.1 dX8_silence_125 ?_
      refine lv_icmp_gt (tgt := 151) B.1 B.2.1 dX8_silence_126 (by decide) (fun c12 => ?_) (fun c12 => ?_)
      · replace hw := hw.1 c12
        refine lv_iconst (v := (-1)) B.1 B.2.1 dX8_silence_151 (by decide) ?_
        exact e_i B hr hH hw dX8_silence_152
      · replace hw := hw.2 c12
        refine lv_aload_n B.1 B.2.1 dX8_silence_129 rfl (lv_at hl 0 rfl) ?_
        refine r_get B hH (own := RX8) (kd_n B (kb0) (by decide) (by decide)) (ct_8 (kb0)) rfl (ul_8 B.2.2.2.2.1) 3 (by decide) rfl (tw_969 B.2.2.2.2.1) dX8_silence_130 ?_
        refine lv_iload_n B.1 B.2.1 dX8_silence_133 rfl (lv_at hl 1 rfl) ?_
        refine lv_iload B.1 B.2.1 dX8_silence_134 (lv_at hl 4 rfl) ?_
        refine c_S_I (own := RX8) (As := [.ref (zA Z (b0 + 2)), .int b1, .int b7]) (rest := []) B hH (cy_X8_isQuiet B.2.2.2.2.1) (ct_X8_isQuiet B.2.2.2.2.2.2.2 l (b0 + 2) b1 b7 h _ _ (kf_8_3 (kb0)) hw) ⟨⟨rfl, rfl⟩, Nat.le_of_ble_eq_true rfl, Nat.le_of_ble_eq_true rfl, Nat.zero_le _, Nat.zero_le _⟩ (tw_1092 B.2.2.2.2.1) rfl hl.1 rfl (Nat.le_of_ble_eq_true rfl) dX8_silence_136 ?_
        clear hw hH
        intro r14 h13 H locs hw hH
        refine lv_if_eq (tgt := 145) B.1 B.2.1 dX8_silence_139 (by decide) (fun c15 => ?_) (fun c15 => ?_)
        · replace hw := hw.1 c15
          obtain ⟨x16, ex16⟩ : ∃ y : Int32, y = b7 + 1 := ⟨_, rfl⟩
          replace hw := hw x16 ex16
          refine lv_iinc (v := x16) (lv' := [(7, .int x16), (0, .ref (zA Z b0)), (1, .int b1), (5, .int b5), (6, .int b6)]) B.1 B.2.1 dX8_silence_145 hl (k := 4) rfl (by rw [ex16]; rfl) (by decide) (by first | rfl | simp [va_re_cat, Value.category]) ?_
          clear hl
          intro ls hl
          refine lv_goto (tgt := 119) B.1 B.2.1 dX8_silence_148 (by decide) ?_
          exact ih x16 h13  _ _ _ hw hH (lv_sub hl [1, 2, 3, 4, 0] rfl)
        · replace hw := hw.2 c15
          refine lv_iload B.1 B.2.1 dX8_silence_142 (lv_at hl 4 rfl) ?_
          exact e_i B hr hH hw dX8_silence_144
  refine lv_aload_n B.1 B.2.1 dX8_silence_0 rfl (lv_at hl 0 rfl) ?_
  refine r_get B hH (own := RX8) (kd_n B (k0) (by decide) (by decide)) (ct_8 (k0)) rfl (ul_8 B.2.2.2.2.1) 3 (by decide) rfl (tw_969 B.2.2.2.2.1) dX8_silence_1 ?_
  refine lv_iload_n B.1 B.2.1 dX8_silence_4 rfl (lv_at hl 1 rfl) ?_
  refine c_S_I (own := RX8) (As := [.ref (zA Z (a0 + 2)), .int a1]) (rest := []) B hH (cy_X8_isReel B.2.2.2.2.1) (ct_X8_isReel B.2.2.2.2.2.2.2 l (a0 + 2) a1 h _ _ (kf_8_3 (k0)) hw) ⟨⟨rfl, rfl⟩, Nat.le_of_ble_eq_true rfl, Nat.le_of_ble_eq_true rfl, Nat.zero_le _, Nat.zero_le _⟩ (tw_1060 B.2.2.2.2.1) rfl hl.1 rfl (Nat.le_of_ble_eq_true rfl) dX8_silence_5 ?_
  clear hw hH
  intro r2 h1 H locs hw hH
  refine lv_if_eq (tgt := 36) B.1 B.2.1 dX8_silence_8 (by decide) (fun c3 => ?_) (fun c3 => ?_)
  · replace hw := hw.1 c3
    refine lv_iconst (v := 0) B.1 B.2.1 dX8_silence_36 (by decide) ?_
    refine lv_istore (lv' := [(4, .int 0), (0, .ref (zA Z a0)), (1, .int a1), (2, .int a2), (3, .int a3)]) B.1 B.2.1 dX8_silence_37 hl (by decide) (by first | rfl | simp [va_re_cat, Value.category]) ?_
    clear hl
    intro ls hl
    refine lv_aload_n B.1 B.2.1 dX8_silence_39 rfl (lv_at hl 1 rfl) ?_
    refine lv_iload B.1 B.2.1 dX8_silence_40 (lv_at hl 0 rfl) ?_
    refine lv_if_ne (tgt := 49) B.1 B.2.1 dX8_silence_42 (by decide) (fun z => absurd z (by decide)) (fun _ => ?_)
    refine lv_iconst (v := 1) B.1 B.2.1 dX8_silence_45 (by decide) ?_
    refine lv_goto (tgt := 66) B.1 B.2.1 dX8_silence_46 (by decide) ?_
    refine c_V_I (own := RX8) (As := [.int 1]) (rest := []) B hH (cy_X8_refused B.2.2.2.2.1) (ct_X8_refused B.2.2.2.2.2.2.2 l a0 1 h1 _ _ (k0) hw) ⟨⟨rfl, rfl⟩, Nat.le_of_ble_eq_true rfl, Nat.le_of_ble_eq_true rfl, Nat.zero_le _, Nat.zero_le _⟩ (rv_8 B hH (k0)) (tw_1013 B.2.2.2.2.1) rfl hl.1 rfl (Nat.le_of_ble_eq_true rfl) dX8_silence_66 ?_
    clear hw hH
    intro r5 h4 H locs hw hH
    refine lv_if_eq (tgt := 74) B.1 B.2.1 dX8_silence_69 (by decide) (fun c6 => ?_) (fun c6 => ?_)
    · replace hw := hw.1 c6
      refine lv_aload_n B.1 B.2.1 dX8_silence_74 rfl (lv_at hl 1 rfl) ?_
      refine r_get B hH (own := RX8) (kd_n B (k0) (by decide) (by decide)) (ct_8 (k0)) rfl (ul_8 B.2.2.2.2.1) 3 (by decide) rfl (tw_969 B.2.2.2.2.1) dX8_silence_75 ?_
      refine lv_iload_n B.1 B.2.1 dX8_silence_78 rfl (lv_at hl 2 rfl) ?_
      refine lv_iload_n B.1 B.2.1 dX8_silence_79 rfl (lv_at hl 3 rfl) ?_
      refine lv_iconst (v := 1) B.1 B.2.1 dX8_silence_80 (by decide) ?_
      refine c_S_I (own := RX8) (As := [.ref (zA Z (a0 + 2)), .int a1, .int a2, .int 1]) (rest := []) B hH (cy_X8_rowFirst B.2.2.2.2.1) (ct_X8_rowFirst B.2.2.2.2.2.2.2 l (a0 + 2) a1 a2 1 h4 _ _ (kf_8_3 (k0)) hw) ⟨⟨rfl, rfl⟩, Nat.le_of_ble_eq_true rfl, Nat.le_of_ble_eq_true rfl, Nat.zero_le _, Nat.zero_le _⟩ (tw_1170 B.2.2.2.2.1) rfl hl.1 rfl (Nat.le_of_ble_eq_true rfl) dX8_silence_81 ?_
      clear hw hH
      intro r8 h7 H locs hw hH
      refine lv_istore (lv' := [(5, .int r8), (4, .int 0), (0, .ref (zA Z a0)), (1, .int a1), (2, .int a2), (3, .int a3)]) B.1 B.2.1 dX8_silence_84 hl (by decide) (by first | rfl | simp [va_re_cat, Value.category]) ?_
      clear hl
      intro ls hl
      refine lv_aload_n B.1 B.2.1 dX8_silence_86 rfl (lv_at hl 2 rfl) ?_
      refine r_get B hH (own := RX8) (kd_n B (k0) (by decide) (by decide)) (ct_8 (k0)) rfl (ul_8 B.2.2.2.2.1) 3 (by decide) rfl (tw_969 B.2.2.2.2.1) dX8_silence_87 ?_
      refine lv_iload_n B.1 B.2.1 dX8_silence_90 rfl (lv_at hl 3 rfl) ?_
      refine lv_iload B.1 B.2.1 dX8_silence_91 (lv_at hl 0 rfl) ?_
      refine c_S_I (own := RX8) (As := [.ref (zA Z (a0 + 2)), .int a1, .int r8]) (rest := []) B hH (cy_X8_rowMany B.2.2.2.2.1) (ct_X8_rowMany B.2.2.2.2.2.2.2 l (a0 + 2) a1 r8 h7 _ _ (kf_8_3 (k0)) hw) ⟨⟨rfl, rfl⟩, Nat.le_of_ble_eq_true rfl, Nat.le_of_ble_eq_true rfl, Nat.zero_le _, Nat.zero_le _⟩ (tw_1155 B.2.2.2.2.1) rfl hl.1 rfl (Nat.le_of_ble_eq_true rfl) dX8_silence_93 ?_
      clear hw hH
      intro r10 h9 H locs hw hH
      refine lv_istore (lv' := [(6, .int r10), (5, .int r8), (4, .int 0), (0, .ref (zA Z a0)), (1, .int a1), (2, .int a2), (3, .int a3)]) B.1 B.2.1 dX8_silence_96 hl (by decide) (by first | rfl | simp [va_re_cat, Value.category]) ?_
      clear hl
      intro ls hl
      refine lv_iload_n B.1 B.2.1 dX8_silence_98 rfl (lv_at hl 6 rfl) ?_
      refine lv_iconst (v := 2) B.1 B.2.1 dX8_silence_99 (by decide) ?_
      refine lv_icmp_ge (tgt := 115) B.1 B.2.1 dX8_silence_100 (by decide) (fun c11 => ?_) (fun c11 => ?_)
      · replace hw := hw.1 c11
        refine lv_iload B.1 B.2.1 dX8_silence_115 (lv_at hl 1 rfl) ?_
        refine lv_istore (lv' := [(7, .int r8), (6, .int r10), (5, .int r8), (4, .int 0), (0, .ref (zA Z a0)), (1, .int a1), (2, .int a2), (3, .int a3)]) B.1 B.2.1 dX8_silence_117 hl (by decide) (by first | rfl | simp [va_re_cat, Value.category]) ?_
        clear hl
        intro ls hl
        obtain ⟨n17, hw⟩ := hw
        exact L119 a0 a1 r8 r10 (k0) n17 r8 h9  _ _ _ hw hH (lv_sub hl [4, 5, 2, 1, 0] rfl)
      · replace hw := hw.2 c11
        refine lv_iload_n B.1 B.2.1 dX8_silence_103 rfl (lv_at hl 6 rfl) ?_
        refine lv_if_ne (tgt := 112) B.1 B.2.1 dX8_silence_104 (by decide) (fun c18 => ?_) (fun c18 => ?_)
        · replace hw := hw.1 c18
          refine lv_iload B.1 B.2.1 dX8_silence_112 (lv_at hl 0 rfl) ?_
          exact e_i B hr hH hw dX8_silence_114
        · replace hw := hw.2 c18
          refine lv_iload B.1 B.2.1 dX8_silence_107 (lv_at hl 1 rfl) ?_
          refine lv_goto (tgt := 114) B.1 B.2.1 dX8_silence_109 (by decide) ?_
          exact e_i B hr hH hw dX8_silence_114
    · replace hw := hw.2 c6
      refine lv_iconst (v := 0) B.1 B.2.1 dX8_silence_72 (by decide) ?_
      exact e_i B hr hH hw dX8_silence_73
  · replace hw := hw.2 c3
    refine lv_iload_n B.1 B.2.1 dX8_silence_11 rfl (lv_at hl 2 rfl) ?_
    refine lv_i2l B.1 B.2.1 dX8_silence_12 rfl ?_
    refine lv_lconst (v := 0) B.1 B.2.1 dX8_silence_13 (by decide) ?_
    refine lv_aload_n B.1 B.2.1 dX8_silence_14 rfl (lv_at hl 0 rfl) ?_
    refine r_get B hH (own := RX8) (kd_n B (k0) (by decide) (by decide)) (ct_8 (k0)) rfl (ul_8 B.2.2.2.2.1) 3 (by decide) rfl (tw_969 B.2.2.2.2.1) dX8_silence_15 ?_
    refine lv_iload_n B.1 B.2.1 dX8_silence_18 rfl (lv_at hl 1 rfl) ?_
    refine lv_iconst (v := 1) B.1 B.2.1 dX8_silence_19 (by decide) ?_
    refine c_S_I (own := RX8) (As := [.ref (zA Z (a0 + 2)), .int a1, .int 1]) (rest := [.long 0, .long (a2.toInt64)]) B hH (cy_X8_rows B.2.2.2.2.1) (ct_X8_rows B.2.2.2.2.2.2.2 l (a0 + 2) a1 1 h1 _ _ (kf_8_3 (k0)) hw) ⟨⟨rfl, rfl⟩, Nat.le_of_ble_eq_true rfl, Nat.le_of_ble_eq_true rfl, Nat.zero_le _, Nat.zero_le _⟩ (tw_1158 B.2.2.2.2.1) rfl hl.1 rfl (Nat.le_of_ble_eq_true rfl) dX8_silence_20 ?_
    clear hw hH
    intro r20 h19 H locs hw hH
    refine lv_iconst (v := 1) B.1 B.2.1 dX8_silence_23 (by decide) ?_
    refine lv_isub B.1 B.2.1 dX8_silence_24 ?_
    refine lv_i2l B.1 B.2.1 dX8_silence_25 rfl ?_
    refine c_S_I (own := RX8) (As := [.long (a2.toInt64), .long 0, .long ((r20 - 1).toInt64)]) (rest := []) B hH (cy_X8_in B.2.2.2.2.1) (ct_X8_in B.2.2.2.2.2.2.2 l (a2.toInt64) 0 ((r20 - 1).toInt64) h19 _ _  hw) ⟨⟨rfl, rfl⟩, Nat.le_of_ble_eq_true rfl, Nat.le_of_ble_eq_true rfl, Nat.zero_le _, Nat.zero_le _⟩ (tw_1010 B.2.2.2.2.1) rfl hl.1 rfl (Nat.le_of_ble_eq_true rfl) dX8_silence_26 ?_
    clear hw hH
    intro r22 h21 H locs hw hH
    refine lv_if_eq (tgt := 36) B.1 B.2.1 dX8_silence_29 (by decide) (fun c23 => ?_) (fun c23 => ?_)
    · replace hw := hw.1 c23
      refine lv_iconst (v := 0) B.1 B.2.1 dX8_silence_36 (by decide) ?_
      refine lv_istore (lv' := [(4, .int 0), (0, .ref (zA Z a0)), (1, .int a1), (2, .int a2), (3, .int a3)]) B.1 B.2.1 dX8_silence_37 hl (by decide) (by first | rfl | simp [va_re_cat, Value.category]) ?_
      clear hl
      intro ls hl
      refine lv_aload_n B.1 B.2.1 dX8_silence_39 rfl (lv_at hl 1 rfl) ?_
      refine lv_iload B.1 B.2.1 dX8_silence_40 (lv_at hl 0 rfl) ?_
      refine lv_if_ne (tgt := 49) B.1 B.2.1 dX8_silence_42 (by decide) (fun z => absurd z (by decide)) (fun _ => ?_)
      refine lv_iconst (v := 1) B.1 B.2.1 dX8_silence_45 (by decide) ?_
      refine lv_goto (tgt := 66) B.1 B.2.1 dX8_silence_46 (by decide) ?_
      refine c_V_I (own := RX8) (As := [.int 1]) (rest := []) B hH (cy_X8_refused B.2.2.2.2.1) (ct_X8_refused B.2.2.2.2.2.2.2 l a0 1 h21 _ _ (k0) hw) ⟨⟨rfl, rfl⟩, Nat.le_of_ble_eq_true rfl, Nat.le_of_ble_eq_true rfl, Nat.zero_le _, Nat.zero_le _⟩ (rv_8 B hH (k0)) (tw_1013 B.2.2.2.2.1) rfl hl.1 rfl (Nat.le_of_ble_eq_true rfl) dX8_silence_66 ?_
      clear hw hH
      intro r25 h24 H locs hw hH
      refine lv_if_eq (tgt := 74) B.1 B.2.1 dX8_silence_69 (by decide) (fun c26 => ?_) (fun c26 => ?_)
      · replace hw := hw.1 c26
        refine lv_aload_n B.1 B.2.1 dX8_silence_74 rfl (lv_at hl 1 rfl) ?_
        refine r_get B hH (own := RX8) (kd_n B (k0) (by decide) (by decide)) (ct_8 (k0)) rfl (ul_8 B.2.2.2.2.1) 3 (by decide) rfl (tw_969 B.2.2.2.2.1) dX8_silence_75 ?_
        refine lv_iload_n B.1 B.2.1 dX8_silence_78 rfl (lv_at hl 2 rfl) ?_
        refine lv_iload_n B.1 B.2.1 dX8_silence_79 rfl (lv_at hl 3 rfl) ?_
        refine lv_iconst (v := 1) B.1 B.2.1 dX8_silence_80 (by decide) ?_
        refine c_S_I (own := RX8) (As := [.ref (zA Z (a0 + 2)), .int a1, .int a2, .int 1]) (rest := []) B hH (cy_X8_rowFirst B.2.2.2.2.1) (ct_X8_rowFirst B.2.2.2.2.2.2.2 l (a0 + 2) a1 a2 1 h24 _ _ (kf_8_3 (k0)) hw) ⟨⟨rfl, rfl⟩, Nat.le_of_ble_eq_true rfl, Nat.le_of_ble_eq_true rfl, Nat.zero_le _, Nat.zero_le _⟩ (tw_1170 B.2.2.2.2.1) rfl hl.1 rfl (Nat.le_of_ble_eq_true rfl) dX8_silence_81 ?_
        clear hw hH
        intro r28 h27 H locs hw hH
        refine lv_istore (lv' := [(5, .int r28), (4, .int 0), (0, .ref (zA Z a0)), (1, .int a1), (2, .int a2), (3, .int a3)]) B.1 B.2.1 dX8_silence_84 hl (by decide) (by first | rfl | simp [va_re_cat, Value.category]) ?_
        clear hl
        intro ls hl
        refine lv_aload_n B.1 B.2.1 dX8_silence_86 rfl (lv_at hl 2 rfl) ?_
        refine r_get B hH (own := RX8) (kd_n B (k0) (by decide) (by decide)) (ct_8 (k0)) rfl (ul_8 B.2.2.2.2.1) 3 (by decide) rfl (tw_969 B.2.2.2.2.1) dX8_silence_87 ?_
        refine lv_iload_n B.1 B.2.1 dX8_silence_90 rfl (lv_at hl 3 rfl) ?_
        refine lv_iload B.1 B.2.1 dX8_silence_91 (lv_at hl 0 rfl) ?_
        refine c_S_I (own := RX8) (As := [.ref (zA Z (a0 + 2)), .int a1, .int r28]) (rest := []) B hH (cy_X8_rowMany B.2.2.2.2.1) (ct_X8_rowMany B.2.2.2.2.2.2.2 l (a0 + 2) a1 r28 h27 _ _ (kf_8_3 (k0)) hw) ⟨⟨rfl, rfl⟩, Nat.le_of_ble_eq_true rfl, Nat.le_of_ble_eq_true rfl, Nat.zero_le _, Nat.zero_le _⟩ (tw_1155 B.2.2.2.2.1) rfl hl.1 rfl (Nat.le_of_ble_eq_true rfl) dX8_silence_93 ?_
        clear hw hH
        intro r30 h29 H locs hw hH
        refine lv_istore (lv' := [(6, .int r30), (5, .int r28), (4, .int 0), (0, .ref (zA Z a0)), (1, .int a1), (2, .int a2), (3, .int a3)]) B.1 B.2.1 dX8_silence_96 hl (by decide) (by first | rfl | simp [va_re_cat, Value.category]) ?_
        clear hl
        intro ls hl
        refine lv_iload_n B.1 B.2.1 dX8_silence_98 rfl (lv_at hl 6 rfl) ?_
        refine lv_iconst (v := 2) B.1 B.2.1 dX8_silence_99 (by decide) ?_
        refine lv_icmp_ge (tgt := 115) B.1 B.2.1 dX8_silence_100 (by decide) (fun c31 => ?_) (fun c31 => ?_)
        · replace hw := hw.1 c31
          refine lv_iload B.1 B.2.1 dX8_silence_115 (lv_at hl 1 rfl) ?_
          refine lv_istore (lv' := [(7, .int r28), (6, .int r30), (5, .int r28), (4, .int 0), (0, .ref (zA Z a0)), (1, .int a1), (2, .int a2), (3, .int a3)]) B.1 B.2.1 dX8_silence_117 hl (by decide) (by first | rfl | simp [va_re_cat, Value.category]) ?_
          clear hl
          intro ls hl
          obtain ⟨n32, hw⟩ := hw
          exact L119 a0 a1 r28 r30 (k0) n32 r28 h29  _ _ _ hw hH (lv_sub hl [4, 5, 2, 1, 0] rfl)
        · replace hw := hw.2 c31
          refine lv_iload_n B.1 B.2.1 dX8_silence_103 rfl (lv_at hl 6 rfl) ?_
          refine lv_if_ne (tgt := 112) B.1 B.2.1 dX8_silence_104 (by decide) (fun c33 => ?_) (fun c33 => ?_)
          · replace hw := hw.1 c33
            refine lv_iload B.1 B.2.1 dX8_silence_112 (lv_at hl 0 rfl) ?_
            exact e_i B hr hH hw dX8_silence_114
          · replace hw := hw.2 c33
            refine lv_iload B.1 B.2.1 dX8_silence_107 (lv_at hl 1 rfl) ?_
            refine lv_goto (tgt := 114) B.1 B.2.1 dX8_silence_109 (by decide) ?_
            exact e_i B hr hH hw dX8_silence_114
      · replace hw := hw.2 c26
        refine lv_iconst (v := 0) B.1 B.2.1 dX8_silence_72 (by decide) ?_
        exact e_i B hr hH hw dX8_silence_73
    · replace hw := hw.2 c23
      refine lv_iconst (v := 1) B.1 B.2.1 dX8_silence_32 (by decide) ?_
      refine lv_goto (tgt := 37) B.1 B.2.1 dX8_silence_33 (by decide) ?_
      refine lv_istore (lv' := [(4, .int 1), (0, .ref (zA Z a0)), (1, .int a1), (2, .int a2), (3, .int a3)]) B.1 B.2.1 dX8_silence_37 hl (by decide) (by first | rfl | simp [va_re_cat, Value.category]) ?_
      clear hl
      intro ls hl
      refine lv_aload_n B.1 B.2.1 dX8_silence_39 rfl (lv_at hl 1 rfl) ?_
      refine lv_iload B.1 B.2.1 dX8_silence_40 (lv_at hl 0 rfl) ?_
      refine lv_if_ne (tgt := 49) B.1 B.2.1 dX8_silence_42 (by decide) (fun _ => ?_) (fun z => absurd z (by decide))
      refine lv_iload_n B.1 B.2.1 dX8_silence_49 rfl (lv_at hl 4 rfl) ?_
      refine lv_i2l B.1 B.2.1 dX8_silence_50 rfl ?_
      refine lv_lconst (v := 0) B.1 B.2.1 dX8_silence_51 (by decide) ?_
      refine lv_ldc2 (own := RX8) B.1 B.2.1 B.2.2.2.1 (tw_1169 B.2.2.2.2.1) dX8_silence_52 ?_
      refine c_S_I (own := RX8) (As := [.long (a3.toInt64), .long 0, .long 2]) (rest := [.ref (zA Z a0)]) B hH (cy_X8_in B.2.2.2.2.1) (ct_X8_in B.2.2.2.2.2.2.2 l (a3.toInt64) 0 2 h21 _ _  hw) ⟨⟨rfl, rfl⟩, Nat.le_of_ble_eq_true rfl, Nat.le_of_ble_eq_true rfl, Nat.zero_le _, Nat.zero_le _⟩ (tw_1010 B.2.2.2.2.1) rfl hl.1 rfl (Nat.le_of_ble_eq_true rfl) dX8_silence_55 ?_
      clear hw hH
      intro r35 h34 H locs hw hH
      refine lv_if_eq (tgt := 65) B.1 B.2.1 dX8_silence_58 (by decide) (fun c36 => ?_) (fun c36 => ?_)
      · replace hw := hw.1 c36
        refine lv_iconst (v := 2) B.1 B.2.1 dX8_silence_65 (by decide) ?_
        refine c_V_I (own := RX8) (As := [.int 2]) (rest := []) B hH (cy_X8_refused B.2.2.2.2.1) (ct_X8_refused B.2.2.2.2.2.2.2 l a0 2 h34 _ _ (k0) hw) ⟨⟨rfl, rfl⟩, Nat.le_of_ble_eq_true rfl, Nat.le_of_ble_eq_true rfl, Nat.zero_le _, Nat.zero_le _⟩ (rv_8 B hH (k0)) (tw_1013 B.2.2.2.2.1) rfl hl.1 rfl (Nat.le_of_ble_eq_true rfl) dX8_silence_66 ?_
        clear hw hH
        intro r38 h37 H locs hw hH
        refine lv_if_eq (tgt := 74) B.1 B.2.1 dX8_silence_69 (by decide) (fun c39 => ?_) (fun c39 => ?_)
        · replace hw := hw.1 c39
          refine lv_aload_n B.1 B.2.1 dX8_silence_74 rfl (lv_at hl 1 rfl) ?_
          refine r_get B hH (own := RX8) (kd_n B (k0) (by decide) (by decide)) (ct_8 (k0)) rfl (ul_8 B.2.2.2.2.1) 3 (by decide) rfl (tw_969 B.2.2.2.2.1) dX8_silence_75 ?_
          refine lv_iload_n B.1 B.2.1 dX8_silence_78 rfl (lv_at hl 2 rfl) ?_
          refine lv_iload_n B.1 B.2.1 dX8_silence_79 rfl (lv_at hl 3 rfl) ?_
          refine lv_iconst (v := 1) B.1 B.2.1 dX8_silence_80 (by decide) ?_
          refine c_S_I (own := RX8) (As := [.ref (zA Z (a0 + 2)), .int a1, .int a2, .int 1]) (rest := []) B hH (cy_X8_rowFirst B.2.2.2.2.1) (ct_X8_rowFirst B.2.2.2.2.2.2.2 l (a0 + 2) a1 a2 1 h37 _ _ (kf_8_3 (k0)) hw) ⟨⟨rfl, rfl⟩, Nat.le_of_ble_eq_true rfl, Nat.le_of_ble_eq_true rfl, Nat.zero_le _, Nat.zero_le _⟩ (tw_1170 B.2.2.2.2.1) rfl hl.1 rfl (Nat.le_of_ble_eq_true rfl) dX8_silence_81 ?_
          clear hw hH
          intro r41 h40 H locs hw hH
          refine lv_istore (lv' := [(5, .int r41), (4, .int 1), (0, .ref (zA Z a0)), (1, .int a1), (2, .int a2), (3, .int a3)]) B.1 B.2.1 dX8_silence_84 hl (by decide) (by first | rfl | simp [va_re_cat, Value.category]) ?_
          clear hl
          intro ls hl
          refine lv_aload_n B.1 B.2.1 dX8_silence_86 rfl (lv_at hl 2 rfl) ?_
          refine r_get B hH (own := RX8) (kd_n B (k0) (by decide) (by decide)) (ct_8 (k0)) rfl (ul_8 B.2.2.2.2.1) 3 (by decide) rfl (tw_969 B.2.2.2.2.1) dX8_silence_87 ?_
          refine lv_iload_n B.1 B.2.1 dX8_silence_90 rfl (lv_at hl 3 rfl) ?_
          refine lv_iload B.1 B.2.1 dX8_silence_91 (lv_at hl 0 rfl) ?_
          refine c_S_I (own := RX8) (As := [.ref (zA Z (a0 + 2)), .int a1, .int r41]) (rest := []) B hH (cy_X8_rowMany B.2.2.2.2.1) (ct_X8_rowMany B.2.2.2.2.2.2.2 l (a0 + 2) a1 r41 h40 _ _ (kf_8_3 (k0)) hw) ⟨⟨rfl, rfl⟩, Nat.le_of_ble_eq_true rfl, Nat.le_of_ble_eq_true rfl, Nat.zero_le _, Nat.zero_le _⟩ (tw_1155 B.2.2.2.2.1) rfl hl.1 rfl (Nat.le_of_ble_eq_true rfl) dX8_silence_93 ?_
          clear hw hH
          intro r43 h42 H locs hw hH
          refine lv_istore (lv' := [(6, .int r43), (5, .int r41), (4, .int 1), (0, .ref (zA Z a0)), (1, .int a1), (2, .int a2), (3, .int a3)]) B.1 B.2.1 dX8_silence_96 hl (by decide) (by first | rfl | simp [va_re_cat, Value.category]) ?_
          clear hl
          intro ls hl
          refine lv_iload_n B.1 B.2.1 dX8_silence_98 rfl (lv_at hl 6 rfl) ?_
          refine lv_iconst (v := 2) B.1 B.2.1 dX8_silence_99 (by decide) ?_
          refine lv_icmp_ge (tgt := 115) B.1 B.2.1 dX8_silence_100 (by decide) (fun c44 => ?_) (fun c44 => ?_)
          · replace hw := hw.1 c44
            refine lv_iload B.1 B.2.1 dX8_silence_115 (lv_at hl 1 rfl) ?_
            refine lv_istore (lv' := [(7, .int r41), (6, .int r43), (5, .int r41), (4, .int 1), (0, .ref (zA Z a0)), (1, .int a1), (2, .int a2), (3, .int a3)]) B.1 B.2.1 dX8_silence_117 hl (by decide) (by first | rfl | simp [va_re_cat, Value.category]) ?_
            clear hl
            intro ls hl
            obtain ⟨n45, hw⟩ := hw
            exact L119 a0 a1 r41 r43 (k0) n45 r41 h42  _ _ _ hw hH (lv_sub hl [4, 5, 2, 1, 0] rfl)
          · replace hw := hw.2 c44
            refine lv_iload_n B.1 B.2.1 dX8_silence_103 rfl (lv_at hl 6 rfl) ?_
            refine lv_if_ne (tgt := 112) B.1 B.2.1 dX8_silence_104 (by decide) (fun c46 => ?_) (fun c46 => ?_)
            · replace hw := hw.1 c46
              refine lv_iload B.1 B.2.1 dX8_silence_112 (lv_at hl 0 rfl) ?_
              exact e_i B hr hH hw dX8_silence_114
            · replace hw := hw.2 c46
              refine lv_iload B.1 B.2.1 dX8_silence_107 (lv_at hl 1 rfl) ?_
              refine lv_goto (tgt := 114) B.1 B.2.1 dX8_silence_109 (by decide) ?_
              exact e_i B hr hH hw dX8_silence_114
        · replace hw := hw.2 c39
          refine lv_iconst (v := 0) B.1 B.2.1 dX8_silence_72 (by decide) ?_
          exact e_i B hr hH hw dX8_silence_73
      · replace hw := hw.2 c36
        refine lv_iconst (v := 0) B.1 B.2.1 dX8_silence_61 (by decide) ?_
        refine lv_goto (tgt := 66) B.1 B.2.1 dX8_silence_62 (by decide) ?_
        refine c_V_I (own := RX8) (As := [.int 0]) (rest := []) B hH (cy_X8_refused B.2.2.2.2.1) (ct_X8_refused B.2.2.2.2.2.2.2 l a0 0 h34 _ _ (k0) hw) ⟨⟨rfl, rfl⟩, Nat.le_of_ble_eq_true rfl, Nat.le_of_ble_eq_true rfl, Nat.zero_le _, Nat.zero_le _⟩ (rv_8 B hH (k0)) (tw_1013 B.2.2.2.2.1) rfl hl.1 rfl (Nat.le_of_ble_eq_true rfl) dX8_silence_66 ?_
        clear hw hH
        intro r48 h47 H locs hw hH
        refine lv_if_eq (tgt := 74) B.1 B.2.1 dX8_silence_69 (by decide) (fun c49 => ?_) (fun c49 => ?_)
        · replace hw := hw.1 c49
          refine lv_aload_n B.1 B.2.1 dX8_silence_74 rfl (lv_at hl 1 rfl) ?_
          refine r_get B hH (own := RX8) (kd_n B (k0) (by decide) (by decide)) (ct_8 (k0)) rfl (ul_8 B.2.2.2.2.1) 3 (by decide) rfl (tw_969 B.2.2.2.2.1) dX8_silence_75 ?_
          refine lv_iload_n B.1 B.2.1 dX8_silence_78 rfl (lv_at hl 2 rfl) ?_
          refine lv_iload_n B.1 B.2.1 dX8_silence_79 rfl (lv_at hl 3 rfl) ?_
          refine lv_iconst (v := 1) B.1 B.2.1 dX8_silence_80 (by decide) ?_
          refine c_S_I (own := RX8) (As := [.ref (zA Z (a0 + 2)), .int a1, .int a2, .int 1]) (rest := []) B hH (cy_X8_rowFirst B.2.2.2.2.1) (ct_X8_rowFirst B.2.2.2.2.2.2.2 l (a0 + 2) a1 a2 1 h47 _ _ (kf_8_3 (k0)) hw) ⟨⟨rfl, rfl⟩, Nat.le_of_ble_eq_true rfl, Nat.le_of_ble_eq_true rfl, Nat.zero_le _, Nat.zero_le _⟩ (tw_1170 B.2.2.2.2.1) rfl hl.1 rfl (Nat.le_of_ble_eq_true rfl) dX8_silence_81 ?_
          clear hw hH
          intro r51 h50 H locs hw hH
          refine lv_istore (lv' := [(5, .int r51), (4, .int 1), (0, .ref (zA Z a0)), (1, .int a1), (2, .int a2), (3, .int a3)]) B.1 B.2.1 dX8_silence_84 hl (by decide) (by first | rfl | simp [va_re_cat, Value.category]) ?_
          clear hl
          intro ls hl
          refine lv_aload_n B.1 B.2.1 dX8_silence_86 rfl (lv_at hl 2 rfl) ?_
          refine r_get B hH (own := RX8) (kd_n B (k0) (by decide) (by decide)) (ct_8 (k0)) rfl (ul_8 B.2.2.2.2.1) 3 (by decide) rfl (tw_969 B.2.2.2.2.1) dX8_silence_87 ?_
          refine lv_iload_n B.1 B.2.1 dX8_silence_90 rfl (lv_at hl 3 rfl) ?_
          refine lv_iload B.1 B.2.1 dX8_silence_91 (lv_at hl 0 rfl) ?_
          refine c_S_I (own := RX8) (As := [.ref (zA Z (a0 + 2)), .int a1, .int r51]) (rest := []) B hH (cy_X8_rowMany B.2.2.2.2.1) (ct_X8_rowMany B.2.2.2.2.2.2.2 l (a0 + 2) a1 r51 h50 _ _ (kf_8_3 (k0)) hw) ⟨⟨rfl, rfl⟩, Nat.le_of_ble_eq_true rfl, Nat.le_of_ble_eq_true rfl, Nat.zero_le _, Nat.zero_le _⟩ (tw_1155 B.2.2.2.2.1) rfl hl.1 rfl (Nat.le_of_ble_eq_true rfl) dX8_silence_93 ?_
          clear hw hH
          intro r53 h52 H locs hw hH
          refine lv_istore (lv' := [(6, .int r53), (5, .int r51), (4, .int 1), (0, .ref (zA Z a0)), (1, .int a1), (2, .int a2), (3, .int a3)]) B.1 B.2.1 dX8_silence_96 hl (by decide) (by first | rfl | simp [va_re_cat, Value.category]) ?_
          clear hl
          intro ls hl
          refine lv_iload_n B.1 B.2.1 dX8_silence_98 rfl (lv_at hl 6 rfl) ?_
          refine lv_iconst (v := 2) B.1 B.2.1 dX8_silence_99 (by decide) ?_
          refine lv_icmp_ge (tgt := 115) B.1 B.2.1 dX8_silence_100 (by decide) (fun c54 => ?_) (fun c54 => ?_)
          · replace hw := hw.1 c54
            refine lv_iload B.1 B.2.1 dX8_silence_115 (lv_at hl 1 rfl) ?_
            refine lv_istore (lv' := [(7, .int r51), (6, .int r53), (5, .int r51), (4, .int 1), (0, .ref (zA Z a0)), (1, .int a1), (2, .int a2), (3, .int a3)]) B.1 B.2.1 dX8_silence_117 hl (by decide) (by first | rfl | simp [va_re_cat, Value.category]) ?_
            clear hl
            intro ls hl
            obtain ⟨n55, hw⟩ := hw
            exact L119 a0 a1 r51 r53 (k0) n55 r51 h52  _ _ _ hw hH (lv_sub hl [4, 5, 2, 1, 0] rfl)
          · replace hw := hw.2 c54
            refine lv_iload_n B.1 B.2.1 dX8_silence_103 rfl (lv_at hl 6 rfl) ?_
            refine lv_if_ne (tgt := 112) B.1 B.2.1 dX8_silence_104 (by decide) (fun c56 => ?_) (fun c56 => ?_)
            · replace hw := hw.1 c56
              refine lv_iload B.1 B.2.1 dX8_silence_112 (lv_at hl 0 rfl) ?_
              exact e_i B hr hH hw dX8_silence_114
            · replace hw := hw.2 c56
              refine lv_iload B.1 B.2.1 dX8_silence_107 (lv_at hl 1 rfl) ?_
              refine lv_goto (tgt := 114) B.1 B.2.1 dX8_silence_109 (by decide) ?_
              exact e_i B hr hH hw dX8_silence_114
        · replace hw := hw.2 c49
          refine lv_iconst (v := 0) B.1 B.2.1 dX8_silence_72 (by decide) ?_
          exact e_i B hr hH hw dX8_silence_73
