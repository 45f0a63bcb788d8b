theorem cy_X1_inverse {s : State} {args : Array Value} (hG : GG s) : CYS s args yX1_inverse cX1_inverse 3 (some .int) 2 := CYS.of hG (fun _ _ hG => tw_875 hG) (tw_20 hG) (tw_874 hG) (by decide +kernel)
set_option maxRecDepth 100000 in
set_option maxHeartbeats 4000000 in
theorem ct_X1_inverse {Z : ZT} (hZ : ZO Z) (l : Launch) (a0 : Int32) (a1 : Int32) (h : PH) (sz : Nat) (Q : Int32 → PH → Prop)  (hw : wp_X1_inverse a0 a1 h Q) : MI Z l yX1_inverse cX1_inverse 3 (some .int) ({ frames := 0, cells := 0, slots := 0, locals := 0 } : Room) h sz [.int a0, .int a1] Q := by
  refine open_M hZ (by decide +kernel) (by exact Nat.le_of_ble_eq_true rfl) ?_
  intro p e s m below meth c B hr hsz ls hl hH
  subst hsz
  have hl : lv_has ls 3 [(0, .int a0), (1, .int a1)] := hl
  unfold wp_X1_inverse at hw
  have L2 : ∀ (b0 : Int32) (b1 : Int32), ∀ (n : Nat) (b2 : Int32) (h : PH), ∀ (H : Heap) (locs : List Loc) (ls : Array Slot), wp_X1_inverse_b2 b0 b1 Q n b2 h → HH Z s h H locs → lv_has ls 3 [(0, .int b0), (1, .int b1), (2, .int b2)] → W p l e ({ frames := 0, cells := 0, slots := 0, locals := 0 } : Room) s m ([.int a0, .int a1]).toArray below meth c H locs 0 0 (MQ below (va_Qi Q (BZ Z) (fr Z s.heap.size)) ([.int a0, .int a1]).toArray s 0 0 (fr Z s.heap.size)) (F0 m 2 ls []) := by
    intro b0 b1 n
    induction n with
    | zero => intro b2 h H locs ls hw hH hl; exact absurd hw id
    | succ n ih =>
      intro b2 h H locs ls hw hH hl
      unfold wp_X1_inverse_b2 at hw
      refine lv_iload_n B.1 B.2.1 dX1_inverse_2 rfl (lv_at hl 2 rfl) ?_
      refine lv_iload_n B.1 B.2.1 dX1_inverse_3 rfl (lv_at hl 1 rfl) ?_
      refine lv_icmp_ge (tgt := 24) B.1 B.2.1 dX1_inverse_4 (by decide) (fun c1 => ?_) (fun c1 => ?_)
      · replace hw := hw.1 c1
        refine lv_iconst (v := 0) B.1 B.2.1 dX1_inverse_24 (by decide) ?_
        exact e_i B hr hH hw dX1_inverse_25
      · replace hw := hw.2 c1
        refine lv_iload_n B.1 B.2.1 dX1_inverse_7 rfl (lv_at hl 0 rfl) ?_
        refine lv_iload_n B.1 B.2.1 dX1_inverse_8 rfl (lv_at hl 2 rfl) ?_
        refine lv_imul B.1 B.2.1 dX1_inverse_9 ?_
        refine lv_iload_n B.1 B.2.1 dX1_inverse_10 rfl (lv_at hl 1 rfl) ?_
        have q2 := hw.1
        replace hw := hw.2
        refine x_irem B dX1_inverse_11 q2 ?_
        refine lv_iconst (v := 1) B.1 B.2.1 dX1_inverse_12 (by decide) ?_
        refine lv_icmp_ne (tgt := 18) B.1 B.2.1 dX1_inverse_13 (by decide) (fun c3 => ?_) (fun c3 => ?_)
        · replace hw := hw.1 c3
          obtain ⟨x4, ex4⟩ : ∃ y : Int32, y = b2 + 1 := ⟨_, rfl⟩
          replace hw := hw x4 ex4
          refine lv_iinc (v := x4) (lv' := [(2, .int x4), (0, .int b0), (1, .int b1)]) B.1 B.2.1 dX1_inverse_18 hl (k := 2) rfl (by rw [ex4]; rfl) (by decide) (by first | rfl | simp [va_re_cat, Value.category]) ?_
          clear hl
          intro ls hl
          refine lv_goto (tgt := 2) B.1 B.2.1 dX1_inverse_21 (by decide) ?_
          exact ih x4 h  _ _ _ hw hH (lv_sub hl [1, 2, 0] rfl)
        · replace hw := hw.2 c3
          refine lv_iload_n B.1 B.2.1 dX1_inverse_16 rfl (lv_at hl 2 rfl) ?_
          exact e_i B hr hH hw dX1_inverse_17
  refine lv_iconst (v := 1) B.1 B.2.1 dX1_inverse_0 (by decide) ?_
  refine lv_istore_n (lv' := [(2, .int 1), (0, .int a0), (1, .int a1)]) B.1 B.2.1 dX1_inverse_1 rfl hl (by decide) (by first | rfl | simp [va_re_cat, Value.category]) ?_
  clear hl
  intro ls hl
  obtain ⟨n5, hw⟩ := hw
  exact L2 a0 a1  n5 1 h  _ _ _ hw hH (lv_sub hl [1, 2, 0] rfl)
theorem cy_X1_byDivisor {s : State} {args : Array Value} (hG : GG s) : CYS s args yX1_byDivisor cX1_byDivisor 8 (some .int) 2 := CYS.of hG (fun _ _ hG => tw_869 hG) (tw_20 hG) (tw_868 hG) (by decide +kernel)
set_option maxRecDepth 100000 in
set_option maxHeartbeats 4000000 in
theorem ct_X1_byDivisor {Z : ZT} (hZ : ZO Z) (l : Launch) (a0 : Nat) (a1 : Nat) (h : PH) (sz : Nat) (Q : Int32 → PH → Prop) (k0 : kd a0 = 4) (k1 : kd a1 = 4) (hw : wp_X1_byDivisor a0 a1 h Q) : MI Z l yX1_byDivisor cX1_byDivisor 8 (some .int) ({ frames := 3, cells := 0, slots := 0, locals := 80 } : Room) h sz [.ref (zA Z a0), .ref (zA Z a1)] Q := by
  refine open_M hZ (by decide +kernel) (by exact Nat.le_of_ble_eq_true rfl) ?_
  intro p e s m below meth c B hr hsz ls hl hH
  subst hsz
  have hl : lv_has ls 8 [(0, .ref (zA Z a0)), (1, .ref (zA Z a1))] := hl
  unfold wp_X1_byDivisor at hw
  refine lv_aload_n B.1 B.2.1 dX1_byDivisor_0 rfl (lv_at hl 0 rfl) ?_
  refine lv_lconst (v := 0) B.1 B.2.1 dX1_byDivisor_1 (by decide) ?_
  refine lv_lconst (v := 1) B.1 B.2.1 dX1_byDivisor_2 (by decide) ?_
  refine c_VN_I (own := RX1) (As := [.long 0, .long 1]) (rest := []) B hH (cy_X0_zeroFrom B.2.2.2.2.1) (ct_X0_zeroFrom B.2.2.2.2.2.2.2 l a0 0 1 h _ _ (k0) hw) ⟨⟨rfl, rfl⟩, Nat.le_of_ble_eq_true rfl, Nat.le_of_ble_eq_true rfl, Nat.zero_le _, Nat.zero_le _⟩ (rv_4 B hH (k0)) (tw_330 B.2.2.2.2.1) rfl hl.1 rfl (Nat.le_of_ble_eq_true rfl) dX1_byDivisor_3 ?_
  clear hw hH
  intro r2 h1 H locs hw hH
  refine lv_istore_n (lv' := [(2, .int r2), (0, .ref (zA Z a0)), (1, .ref (zA Z a1))]) B.1 B.2.1 dX1_byDivisor_6 rfl hl (by decide) (by first | rfl | simp [va_re_cat, Value.category]) ?_
  clear hl
  intro ls hl
  refine lv_aload_n B.1 B.2.1 dX1_byDivisor_7 rfl (lv_at hl 2 rfl) ?_
  refine lv_lconst (v := 0) B.1 B.2.1 dX1_byDivisor_8 (by decide) ?_
  refine lv_lconst (v := 1) B.1 B.2.1 dX1_byDivisor_9 (by decide) ?_
  refine c_VN_I (own := RX1) (As := [.long 0, .long 1]) (rest := []) B hH (cy_X0_zeroFrom B.2.2.2.2.1) (ct_X0_zeroFrom B.2.2.2.2.2.2.2 l a1 0 1 h1 _ _ (k1) hw) ⟨⟨rfl, rfl⟩, Nat.le_of_ble_eq_true rfl, Nat.le_of_ble_eq_true rfl, Nat.zero_le _, Nat.zero_le _⟩ (rv_4 B hH (k1)) (tw_330 B.2.2.2.2.1) rfl hl.1 rfl (Nat.le_of_ble_eq_true rfl) dX1_byDivisor_10 ?_
  clear hw hH
  intro r4 h3 H locs hw hH
  refine lv_istore_n (lv' := [(3, .int r4), (2, .int r2), (0, .ref (zA Z a0)), (1, .ref (zA Z a1))]) B.1 B.2.1 dX1_byDivisor_13 rfl hl (by decide) (by first | rfl | simp [va_re_cat, Value.category]) ?_
  clear hl
  intro ls hl
  refine lv_aload_n B.1 B.2.1 dX1_byDivisor_14 rfl (lv_at hl 2 rfl) ?_
  refine c_VN_I (own := RX1) (As := []) (rest := []) B hH (cy_X0_period B.2.2.2.2.1) (ct_X0_period B.2.2.2.2.2.2.2 l a0 h3 _ _ (k0) hw) ⟨⟨rfl, rfl⟩, Nat.le_of_ble_eq_true rfl, Nat.le_of_ble_eq_true rfl, Nat.zero_le _, Nat.zero_le _⟩ (rv_4 B hH (k0)) (tw_347 B.2.2.2.2.1) rfl hl.1 rfl (Nat.le_of_ble_eq_true rfl) dX1_byDivisor_15 ?_
  clear hw hH
  intro r6 h5 H locs hw hH
  refine lv_i2l B.1 B.2.1 dX1_byDivisor_18 rfl ?_
  refine lv_aload_n B.1 B.2.1 dX1_byDivisor_19 rfl (lv_at hl 3 rfl) ?_
  refine c_VN_I (own := RX1) (As := []) (rest := [.long (r6.toInt64)]) B hH (cy_X0_period B.2.2.2.2.1) (ct_X0_period B.2.2.2.2.2.2.2 l a1 h5 _ _ (k1) hw) ⟨⟨rfl, rfl⟩, Nat.le_of_ble_eq_true rfl, Nat.le_of_ble_eq_true rfl, Nat.zero_le _, Nat.zero_le _⟩ (rv_4 B hH (k1)) (tw_347 B.2.2.2.2.1) rfl hl.1 rfl (Nat.le_of_ble_eq_true rfl) dX1_byDivisor_20 ?_
  clear hw hH
  intro r8 h7 H locs hw hH
  refine lv_i2l B.1 B.2.1 dX1_byDivisor_23 rfl ?_
  refine c_S_L (own := RX1) (As := [.long (r6.toInt64), .long (r8.toInt64)]) (rest := []) B hH (cy_X1_greatestDivisor B.2.2.2.2.1) (ct_X1_greatestDivisor B.2.2.2.2.2.2.2 l (r6.toInt64) (r8.toInt64) h7 _ _  hw) ⟨⟨rfl, rfl⟩, Nat.le_of_ble_eq_true rfl, Nat.le_of_ble_eq_true rfl, Nat.zero_le _, Nat.zero_le _⟩ (tw_351 B.2.2.2.2.1) rfl hl.1 rfl (Nat.le_of_ble_eq_true rfl) dX1_byDivisor_24 ?_
  clear hw hH
  intro r10 h9 H locs hw hH
  refine lv_l2i B.1 B.2.1 dX1_byDivisor_27 rfl ?_
  refine lv_topi (fun x11 ex11 => ?_)
  replace hw := hw x11 ex11
  refine lv_istore (lv' := [(4, .int x11), (3, .int r4), (2, .int r2), (0, .ref (zA Z a0)), (1, .ref (zA Z a1))]) B.1 B.2.1 dX1_byDivisor_28 hl (by decide) (by first | rfl | simp [va_re_cat, Value.category]) ?_
  clear hl
  intro ls hl
  refine lv_iload_n B.1 B.2.1 dX1_byDivisor_30 rfl (lv_at hl 2 rfl) ?_
  refine lv_iconst (v := (-1)) B.1 B.2.1 dX1_byDivisor_31 (by decide) ?_
  refine lv_icmp_eq (tgt := 54) B.1 B.2.1 dX1_byDivisor_32 (by decide) (fun c12 => ?_) (fun c12 => ?_)
  · replace hw := hw.1 c12
    refine lv_iconst (v := (-1)) B.1 B.2.1 dX1_byDivisor_54 (by decide) ?_
    exact e_i B hr hH hw dX1_byDivisor_55
  · replace hw := hw.2 c12
    refine lv_iload_n B.1 B.2.1 dX1_byDivisor_35 rfl (lv_at hl 1 rfl) ?_
    refine lv_iconst (v := (-1)) B.1 B.2.1 dX1_byDivisor_36 (by decide) ?_
    refine lv_icmp_eq (tgt := 54) B.1 B.2.1 dX1_byDivisor_37 (by decide) (fun c13 => ?_) (fun c13 => ?_)
    · replace hw := hw.1 c13
      refine lv_iconst (v := (-1)) B.1 B.2.1 dX1_byDivisor_54 (by decide) ?_
      exact e_i B hr hH hw dX1_byDivisor_55
    · replace hw := hw.2 c13
      refine lv_iload B.1 B.2.1 dX1_byDivisor_40 (lv_at hl 0 rfl) ?_
      refine lv_if_le (tgt := 54) B.1 B.2.1 dX1_byDivisor_42 (by decide) (fun c14 => ?_) (fun c14 => ?_)
      · replace hw := hw.1 c14
        refine lv_iconst (v := (-1)) B.1 B.2.1 dX1_byDivisor_54 (by decide) ?_
        exact e_i B hr hH hw dX1_byDivisor_55
      · replace hw := hw.2 c14
        refine lv_iload_n B.1 B.2.1 dX1_byDivisor_45 rfl (lv_at hl 1 rfl) ?_
        refine lv_iload_n B.1 B.2.1 dX1_byDivisor_46 rfl (lv_at hl 2 rfl) ?_
        refine lv_isub B.1 B.2.1 dX1_byDivisor_47 ?_
        refine lv_iload B.1 B.2.1 dX1_byDivisor_48 (lv_at hl 0 rfl) ?_
        have q15 := hw.1
        replace hw := hw.2
        refine x_irem B dX1_byDivisor_50 q15 ?_
        refine lv_if_eq (tgt := 56) B.1 B.2.1 dX1_byDivisor_51 (by decide) (fun c16 => ?_) (fun c16 => ?_)
        · replace hw := hw.1 c16
          refine lv_aload_n B.1 B.2.1 dX1_byDivisor_56 rfl (lv_at hl 4 rfl) ?_
          refine c_VN_I (own := RX1) (As := []) (rest := []) B hH (cy_X0_period B.2.2.2.2.1) (ct_X0_period B.2.2.2.2.2.2.2 l a1 h9 _ _ (k1) hw) ⟨⟨rfl, rfl⟩, Nat.le_of_ble_eq_true rfl, Nat.le_of_ble_eq_true rfl, Nat.zero_le _, Nat.zero_le _⟩ (rv_4 B hH (k1)) (tw_347 B.2.2.2.2.1) rfl hl.1 rfl (Nat.le_of_ble_eq_true rfl) dX1_byDivisor_57 ?_
          clear hw hH
          intro r18 h17 H locs hw hH
          refine lv_iload B.1 B.2.1 dX1_byDivisor_60 (lv_at hl 0 rfl) ?_
          have q19 := hw.1
          replace hw := hw.2
          refine lv_idiv B.1 B.2.1 dX1_byDivisor_62 q19 ?_
          refine lv_topi (fun x20 ex20 => ?_)
          replace hw := hw x20 ex20
          refine lv_istore (lv' := [(5, .int x20), (4, .int x11), (3, .int r4), (2, .int r2), (0, .ref (zA Z a0)), (1, .ref (zA Z a1))]) B.1 B.2.1 dX1_byDivisor_63 hl (by decide) (by first | rfl | simp [va_re_cat, Value.category]) ?_
          clear hl
          intro ls hl
          refine lv_iload B.1 B.2.1 dX1_byDivisor_65 (lv_at hl 0 rfl) ?_
          refine lv_if_gt (tgt := 72) B.1 B.2.1 dX1_byDivisor_67 (by decide) (fun c21 => ?_) (fun c21 => ?_)
          · replace hw := hw.1 c21
            refine lv_iload_n B.1 B.2.1 dX1_byDivisor_72 rfl (lv_at hl 2 rfl) ?_
            refine lv_iload_n B.1 B.2.1 dX1_byDivisor_73 rfl (lv_at hl 3 rfl) ?_
            refine lv_isub B.1 B.2.1 dX1_byDivisor_74 ?_
            refine lv_iload B.1 B.2.1 dX1_byDivisor_75 (lv_at hl 1 rfl) ?_
            have q22 := hw.1
            replace hw := hw.2
            refine lv_idiv B.1 B.2.1 dX1_byDivisor_77 q22 ?_
            refine lv_iload B.1 B.2.1 dX1_byDivisor_78 (lv_at hl 0 rfl) ?_
            refine c_S_I (own := RX1) (As := [.int ((r4 - r2) / x11), .int x20]) (rest := []) B hH (cy_J9_floorMod_7cf53 B.2.2.2.2.1) (ct_J9_floorMod_7cf53 B.2.2.2.2.2.2.2 l ((r4 - r2) / x11) x20 h17 _ _  hw) ⟨⟨rfl, rfl⟩, Nat.le_of_ble_eq_true rfl, Nat.le_of_ble_eq_true rfl, Nat.zero_le _, Nat.zero_le _⟩ (tw_870 B.2.2.2.2.1) rfl hl.1 rfl (Nat.le_of_ble_eq_true rfl) dX1_byDivisor_80 ?_
            clear hw hH
            intro r24 h23 H locs hw hH
            refine lv_istore (lv' := [(6, .int r24), (5, .int x20), (4, .int x11), (3, .int r4), (2, .int r2), (0, .ref (zA Z a0)), (1, .ref (zA Z a1))]) B.1 B.2.1 dX1_byDivisor_83 hl (by decide) (by first | rfl | simp [va_re_cat, Value.category]) ?_
            clear hl
            intro ls hl
            refine lv_aload_n B.1 B.2.1 dX1_byDivisor_85 rfl (lv_at hl 5 rfl) ?_
            refine c_VN_I (own := RX1) (As := []) (rest := []) B hH (cy_X0_period B.2.2.2.2.1) (ct_X0_period B.2.2.2.2.2.2.2 l a0 h23 _ _ (k0) hw) ⟨⟨rfl, rfl⟩, Nat.le_of_ble_eq_true rfl, Nat.le_of_ble_eq_true rfl, Nat.zero_le _, Nat.zero_le _⟩ (rv_4 B hH (k0)) (tw_347 B.2.2.2.2.1) rfl hl.1 rfl (Nat.le_of_ble_eq_true rfl) dX1_byDivisor_86 ?_
            clear hw hH
            intro r26 h25 H locs hw hH
            refine lv_iload B.1 B.2.1 dX1_byDivisor_89 (lv_at hl 2 rfl) ?_
            have q27 := hw.1
            replace hw := hw.2
            refine lv_idiv B.1 B.2.1 dX1_byDivisor_91 q27 ?_
            refine lv_iload B.1 B.2.1 dX1_byDivisor_92 (lv_at hl 1 rfl) ?_
            have q28 := hw.1
            replace hw := hw.2
            refine x_irem B dX1_byDivisor_94 q28 ?_
            refine lv_topi (fun x29 ex29 => ?_)
            replace hw := hw x29 ex29
            refine lv_istore (lv' := [(7, .int x29), (6, .int r24), (5, .int x20), (4, .int x11), (3, .int r4), (2, .int r2), (0, .ref (zA Z a0)), (1, .ref (zA Z a1))]) B.1 B.2.1 dX1_byDivisor_95 hl (by decide) (by first | rfl | simp [va_re_cat, Value.category]) ?_
            clear hl
            intro ls hl
            refine lv_iload_n B.1 B.2.1 dX1_byDivisor_97 rfl (lv_at hl 5 rfl) ?_
            refine lv_aload_n B.1 B.2.1 dX1_byDivisor_98 rfl (lv_at hl 6 rfl) ?_
            refine c_VN_I (own := RX1) (As := []) (rest := [.int r2]) B hH (cy_X0_period B.2.2.2.2.1) (ct_X0_period B.2.2.2.2.2.2.2 l a0 h25 _ _ (k0) hw) ⟨⟨rfl, rfl⟩, Nat.le_of_ble_eq_true rfl, Nat.le_of_ble_eq_true rfl, Nat.zero_le _, Nat.zero_le _⟩ (rv_4 B hH (k0)) (tw_347 B.2.2.2.2.1) rfl hl.1 rfl (Nat.le_of_ble_eq_true rfl) dX1_byDivisor_99 ?_
            clear hw hH
            intro r31 h30 H locs hw hH
            refine lv_iload B.1 B.2.1 dX1_byDivisor_102 (lv_at hl 1 rfl) ?_
            refine lv_iload B.1 B.2.1 dX1_byDivisor_104 (lv_at hl 0 rfl) ?_
            refine lv_iload B.1 B.2.1 dX1_byDivisor_106 (lv_at hl 2 rfl) ?_
            refine c_S_I (own := RX1) (As := [.int x29, .int x20]) (rest := [.int r24, .int r31, .int r2]) B hH (cy_X1_inverse B.2.2.2.2.1) (ct_X1_inverse B.2.2.2.2.2.2.2 l x29 x20 h30 _ _  hw) ⟨⟨rfl, rfl⟩, Nat.le_of_ble_eq_true rfl, Nat.le_of_ble_eq_true rfl, Nat.zero_le _, Nat.zero_le _⟩ (tw_873 B.2.2.2.2.1) rfl hl.1 rfl (Nat.le_of_ble_eq_true rfl) dX1_byDivisor_108 ?_
            clear hw hH
            intro r33 h32 H locs hw hH
            refine lv_imul B.1 B.2.1 dX1_byDivisor_111 ?_
            refine lv_iload B.1 B.2.1 dX1_byDivisor_112 (lv_at hl 2 rfl) ?_
            have q34 := hw.1
            replace hw := hw.2
            refine x_irem B dX1_byDivisor_114 q34 ?_
            refine lv_imul B.1 B.2.1 dX1_byDivisor_115 ?_
            refine lv_iadd B.1 B.2.1 dX1_byDivisor_116 ?_
            exact e_i B hr hH hw dX1_byDivisor_117
          · replace hw := hw.2 c21
            refine lv_iconst (v := (-1)) B.1 B.2.1 dX1_byDivisor_70 (by decide) ?_
            exact e_i B hr hH hw dX1_byDivisor_71
        · replace hw := hw.2 c16
          refine lv_iconst (v := (-1)) B.1 B.2.1 dX1_byDivisor_54 (by decide) ?_
          exact e_i B hr hH hw dX1_byDivisor_55
theorem cy_X1_leastMultiple {s : State} {args : Array Value} (hG : GG s) : CYS s args yX1_leastMultiple cX1_leastMultiple 6 (some .long) 2 := CYS.of hG (fun _ _ hG => tw_350 hG) (tw_20 hG) (tw_349 hG) (by decide +kernel)
set_option maxRecDepth 100000 in
set_option maxHeartbeats 4000000 in
theorem ct_X1_leastMultiple {Z : ZT} (hZ : ZO Z) (l : Launch) (a0 : Int64) (a2 : Int64) (h : PH) (sz : Nat) (Q : Int64 → PH → Prop)  (hw : wp_X1_leastMultiple a0 a2 h Q) : ML Z l yX1_leastMultiple cX1_leastMultiple 6 (some .long) ({ frames := 1, cells := 0, slots := 0, locals := 30 } : Room) h sz [.long a0, .long a2] Q := by
  refine open_M hZ (by decide +kernel) (by exact Nat.le_of_ble_eq_true rfl) ?_
  intro p e s m below meth c B hr hsz ls hl hH
  subst hsz
  have hl : lv_has ls 6 [(0, .long a0), (2, .long a2)] := hl
  unfold wp_X1_leastMultiple at hw
  refine lv_lload_n B.1 B.2.1 dX1_leastMultiple_0 rfl (lv_at hl 0 rfl) ?_
  refine lv_lload_n B.1 B.2.1 dX1_leastMultiple_1 rfl (lv_at hl 1 rfl) ?_
  refine c_S_L (own := RX1) (As := [.long a0, .long a2]) (rest := []) B hH (cy_X1_greatestDivisor B.2.2.2.2.1) (ct_X1_greatestDivisor B.2.2.2.2.2.2.2 l a0 a2 h _ _  hw) ⟨⟨rfl, rfl⟩, Nat.le_of_ble_eq_true rfl, Nat.le_of_ble_eq_true rfl, Nat.zero_le _, Nat.zero_le _⟩ (tw_351 B.2.2.2.2.1) rfl hl.1 rfl (Nat.le_of_ble_eq_true rfl) dX1_leastMultiple_2 ?_
  clear hw hH
  intro r2 h1 H locs hw hH
  refine lv_lstore (lv' := [(4, .long r2), (0, .long a0), (2, .long a2)]) B.1 B.2.1 dX1_leastMultiple_5 hl (by decide) (by first | rfl | simp [va_re_cat, Value.category]) ?_
  clear hl
  intro ls hl
  refine lv_lload B.1 B.2.1 dX1_leastMultiple_7 (lv_at hl 0 rfl) ?_
  refine lv_lconst (v := 0) B.1 B.2.1 dX1_leastMultiple_9 (by decide) ?_
  refine W.lcmp B.1 B.2.1 dX1_leastMultiple_10 ?_
  refine lv_if_gt (tgt := 18) B.1 B.2.1 dX1_leastMultiple_11 (by decide) (fun c3 => ?_) (fun c3 => ?_)
  · replace hw := hw.1 c3
    refine lv_lload_n B.1 B.2.1 dX1_leastMultiple_18 rfl (lv_at hl 1 rfl) ?_
    refine lv_lload B.1 B.2.1 dX1_leastMultiple_19 (lv_at hl 0 rfl) ?_
    have q4 := hw.1
    replace hw := hw.2
    refine lv_ldiv B.1 B.2.1 dX1_leastMultiple_21 q4 ?_
    refine lv_lload_n B.1 B.2.1 dX1_leastMultiple_22 rfl (lv_at hl 2 rfl) ?_
    refine lv_lmul B.1 B.2.1 dX1_leastMultiple_23 ?_
    exact e_l B hr hH hw dX1_leastMultiple_24
  · replace hw := hw.2 c3
    refine lv_lconst (v := 0) B.1 B.2.1 dX1_leastMultiple_14 (by decide) ?_
    refine lv_goto (tgt := 24) B.1 B.2.1 dX1_leastMultiple_15 (by decide) ?_
    exact e_l B hr hH hw dX1_leastMultiple_24
theorem cy_X7_outside {s : State} {args : Array Value} (hG : GG s) : CYS s args yX7_outside cX7_outside 3 (some .boolean) 3 := CYS.of hG (fun _ _ hG => tw_223 hG) (tw_1 hG) (tw_222 hG) (by decide +kernel)
set_option maxRecDepth 100000 in
set_option maxHeartbeats 4000000 in
theorem ct_X7_outside {Z : ZT} (hZ : ZO Z) (l : Launch) (a0 : Int32) (a1 : Int32) (a2 : Int32) (h : PH) (sz : Nat) (Q : Int32 → PH → Prop)  (hw : wp_X7_outside a0 a1 a2 h Q) : MI Z l yX7_outside cX7_outside 3 (some .boolean) ({ frames := 0, cells := 0, slots := 0, locals := 0 } : Room) h sz [.int a0, .int a1, .int a2] Q := by
  refine open_M hZ (by decide +kernel) (by exact Nat.le_of_ble_eq_true rfl) ?_
  intro p e s m below meth c B hr hsz ls hl hH
  subst hsz
  have hl : lv_has ls 3 [(0, .int a0), (1, .int a1), (2, .int a2)] := hl
  unfold wp_X7_outside at hw
  refine lv_iload_n B.1 B.2.1 dX7_outside_0 rfl (lv_at hl 0 rfl) ?_
  refine lv_iload_n B.1 B.2.1 dX7_outside_1 rfl (lv_at hl 1 rfl) ?_
  refine lv_icmp_lt (tgt := 10) B.1 B.2.1 dX7_outside_2 (by decide) (fun c1 => ?_) (fun c1 => ?_)
  · replace hw := hw.1 c1
    refine lv_iconst (v := 1) B.1 B.2.1 dX7_outside_10 (by decide) ?_
    refine lv_goto (tgt := 15) B.1 B.2.1 dX7_outside_11 (by decide) ?_
    exact e_z B hr (by decide) hH hw dX7_outside_15
  · replace hw := hw.2 c1
    refine lv_iload_n B.1 B.2.1 dX7_outside_5 rfl (lv_at hl 0 rfl) ?_
    refine lv_iload_n B.1 B.2.1 dX7_outside_6 rfl (lv_at hl 2 rfl) ?_
    refine lv_icmp_le (tgt := 14) B.1 B.2.1 dX7_outside_7 (by decide) (fun c2 => ?_) (fun c2 => ?_)
    · replace hw := hw.1 c2
      refine lv_iconst (v := 0) B.1 B.2.1 dX7_outside_14 (by decide) ?_
      exact e_z B hr (by decide) hH hw dX7_outside_15
    · replace hw := hw.2 c2
      refine lv_iconst (v := 1) B.1 B.2.1 dX7_outside_10 (by decide) ?_
      refine lv_goto (tgt := 15) B.1 B.2.1 dX7_outside_11 (by decide) ?_
      exact e_z B hr (by decide) hH hw dX7_outside_15
theorem cy_X5_loopAt {s : State} {args : Array Value} (hG : GG s) : CYV s args yX5_loopAt cX5_loopAt 2 (some (.object "SplicedLoops$Loop")) 1 := CYV.of hG (fun _ _ hG => tw_321 hG) (tw_2 hG) (tw_320 hG) (tp_6 hG) (by decide +kernel)
set_option maxRecDepth 100000 in
set_option maxHeartbeats 4000000 in
theorem ct_X5_loopAt {Z : ZT} (hZ : ZO Z) (l : Launch) (a0 : Nat) (a1 : Int32) (h : PH) (sz : Nat) (Q : Option Nat → PH → Prop) (k0 : kd a0 = 2) (hw : wp_X5_loopAt a0 a1 h Q) : MO Z l yX5_loopAt cX5_loopAt 2 (some (.object "SplicedLoops$Loop")) ({ frames := 1, cells := 0, slots := 0, locals := 22 } : Room) h sz [.ref (zA Z a0), .int a1] (QO Q 4) := by
  refine open_M hZ (by decide +kernel) (by exact Nat.le_of_ble_eq_true rfl) ?_
  intro p e s m below meth c B hr hsz ls hl hH
  subst hsz
  have hl : lv_has ls 2 [(0, .ref (zA Z a0)), (1, .int a1)] := hl
  unfold wp_X5_loopAt at hw
  refine lv_iload_n B.1 B.2.1 dX5_loopAt_0 rfl (lv_at hl 1 rfl) ?_
  refine lv_iconst (v := 0) B.1 B.2.1 dX5_loopAt_1 (by decide) ?_
  refine lv_aload_n B.1 B.2.1 dX5_loopAt_2 rfl (lv_at hl 0 rfl) ?_
  refine r_get B hH (own := RX5) (kd_n B (k0) (by decide) (by decide)) (ct_2 (k0)) rfl (ul_2 B.2.2.2.2.1) 3 (by decide) rfl (tw_103 B.2.2.2.2.1) dX5_loopAt_3 ?_
  refine lv_iconst (v := 1) B.1 B.2.1 dX5_loopAt_6 (by decide) ?_
  refine lv_isub B.1 B.2.1 dX5_loopAt_7 ?_
  refine c_SN_I (own := RX5) (As := [.int a1, .int 0, .int ((h a0 3) - 1)]) (rest := []) B hH (cy_X7_outside B.2.2.2.2.1) (ct_X7_outside B.2.2.2.2.2.2.2 l a1 0 ((h a0 3) - 1) h _ _  hw) ⟨⟨rfl, rfl⟩, Nat.le_of_ble_eq_true rfl, Nat.le_of_ble_eq_true rfl, Nat.zero_le _, Nat.zero_le _⟩ (tw_322 B.2.2.2.2.1) rfl hl.1 rfl (Nat.le_of_ble_eq_true rfl) dX5_loopAt_8 ?_
  clear hw hH
  intro r2 h1 H locs hw hH
  refine lv_if_ne (tgt := 23) B.1 B.2.1 dX5_loopAt_11 (by decide) (fun c3 => ?_) (fun c3 => ?_)
  · replace hw := hw.1 c3
    refine x_null (Z := Z) B dX5_loopAt_23 ?_
    refine lv_goto (tgt := 33) B.1 B.2.1 dX5_loopAt_24 (by decide) ?_
    exact e_o B hr hH ⟨hw, fun _ z => nomatch z⟩ dX5_loopAt_33
  · replace hw := hw.2 c3
    refine lv_iload_n B.1 B.2.1 dX5_loopAt_14 rfl (lv_at hl 1 rfl) ?_
    refine lv_aload_n B.1 B.2.1 dX5_loopAt_15 rfl (lv_at hl 0 rfl) ?_
    refine r_get B hH (own := RX5) (kd_n B (k0) (by decide) (by decide)) (ct_2 (k0)) rfl (ul_2 B.2.2.2.2.1) 1 (by decide) rfl (tw_100 B.2.2.2.2.1) dX5_loopAt_16 ?_
    refine r_alenP B hH (kf_2_1 (k0)) dX5_loopAt_19 ?_
    refine lv_icmp_lt (tgt := 27) B.1 B.2.1 dX5_loopAt_20 (by decide) (fun c4 => ?_) (fun c4 => ?_)
    · replace hw := hw.1 c4
      refine lv_aload_n B.1 B.2.1 dX5_loopAt_27 rfl (lv_at hl 0 rfl) ?_
      refine r_get B hH (own := RX5) (kd_n B (k0) (by decide) (by decide)) (ct_2 (k0)) rfl (ul_2 B.2.2.2.2.1) 1 (by decide) rfl (tw_100 B.2.2.2.2.1) dX5_loopAt_28 ?_
      refine lv_iload_n B.1 B.2.1 dX5_loopAt_31 rfl (lv_at hl 1 rfl) ?_
      have q5 := hw.1
      replace hw := hw.2
      refine r_aldP B hH (kf_2_1 (k0)) q5 dX5_loopAt_32 ?_
      exact e_o (r := some ((a0 + 8) + 1 + 3 * a1.toNatClampNeg)) B hr hH ⟨hw, fun j z => by cases z; exact ka_14 (kf_2_1 (k0)) q5⟩ dX5_loopAt_33
    · replace hw := hw.2 c4
      refine x_null (Z := Z) B dX5_loopAt_23 ?_
      refine lv_goto (tgt := 33) B.1 B.2.1 dX5_loopAt_24 (by decide) ?_
      exact e_o B hr hH ⟨hw, fun _ z => nomatch z⟩ dX5_loopAt_33
theorem cy_X1_ofAll {s : State} {args : Array Value} (hG : GG s) : CYS s args yX1_ofAll cX1_ofAll 6 (some .int) 1 := CYS.of hG (fun _ _ hG => tw_317 hG) (tw_20 hG) (tw_316 hG) (by decide +kernel)
set_option maxRecDepth 100000 in
set_option maxHeartbeats 4000000 in
theorem ct_X1_ofAll {Z : ZT} (hZ : ZO Z) (l : Launch) (a0 : Nat) (h : PH) (sz : Nat) (Q : Int32 → PH → Prop) (k0 : kd a0 = 2) (hw : wp_X1_ofAll a0 h Q) : MI Z l yX1_ofAll cX1_ofAll 6 (some .int) ({ frames := 3, cells := 0, slots := 0, locals := 80 } : Room) h sz [.ref (zA Z a0)] Q := by
  refine open_M hZ (by decide +kernel) (by exact Nat.le_of_ble_eq_true rfl) ?_
  intro p e s m below meth c B hr hsz ls hl hH
  subst hsz
  have hl : lv_has ls 6 [(0, .ref (zA Z a0))] := hl
  unfold wp_X1_ofAll at hw
  have L7 : ∀ (b0 : Nat), kd b0 = 2 → ∀ (n : Nat) (b1 : Int32) (b2 : Int64) (b4 : Int32) (h : PH), ∀ (H : Heap) (locs : List Loc) (ls : Array Slot), wp_X1_ofAll_b7 b0 Q n b1 b2 b4 h → HH Z s h H locs → lv_has ls 6 [(0, .ref (zA Z b0)), (1, .int b1), (2, .long b2), (4, .int b4)] → W p l e ({ frames := 3, cells := 0, slots := 0, locals := 80 } : Room) s m ([.ref (zA Z a0)]).toArray below meth c H locs 0 0 (MQ below (va_Qi Q (BZ Z) (fr Z s.heap.size)) ([.ref (zA Z a0)]).toArray s 0 0 (fr Z s.heap.size)) (F0 m 7 ls []) := by
    intro b0 kb0 n
    induction n with
    | zero => intro b1 b2 b4 h H locs ls hw hH hl; exact absurd hw id
    | succ n ih =>
      intro b1 b2 b4 h H locs ls hw hH hl
      unfold wp_X1_ofAll_b7 at hw
      refine lv_iload B.1 B.2.1 dX1_ofAll_7 (lv_at hl 3 rfl) ?_
      refine lv_aload_n B.1 B.2.1 dX1_ofAll_9 rfl (lv_at hl 0 rfl) ?_
      refine r_getN B hH (own := RX1) (kd_n B (kb0) (by decide) (by decide)) (ct_2 (kb0)) rfl (ul_2 B.2.2.2.2.1) 3 (by decide) rfl (tw_104 B.2.2.2.2.1) dX1_ofAll_10 ?_
      refine lv_icmp_ge (tgt := 74) B.1 B.2.1 dX1_ofAll_13 (by decide) (fun c1 => ?_) (fun c1 => ?_)
      · replace hw := hw.1 c1
        refine lv_iload_n B.1 B.2.1 dX1_ofAll_74 rfl (lv_at hl 1 rfl) ?_
        exact e_i B hr hH hw dX1_ofAll_75
      · replace hw := hw.2 c1
        refine lv_aload_n B.1 B.2.1 dX1_ofAll_16 rfl (lv_at hl 0 rfl) ?_
        refine lv_iload B.1 B.2.1 dX1_ofAll_17 (lv_at hl 3 rfl) ?_
        refine c_VN_O (own := RX1) (As := [.int b4]) (rest := []) B hH (cy_X5_loopAt B.2.2.2.2.1) (ct_X5_loopAt B.2.2.2.2.2.2.2 l b0 b4 h _ _ (kb0) hw) ⟨⟨rfl, rfl⟩, Nat.le_of_ble_eq_true rfl, Nat.le_of_ble_eq_true rfl, Nat.zero_le _, Nat.zero_le _⟩ (rv_2 B hH (kb0)) (tw_318 B.2.2.2.2.1) rfl hl.1 rfl (Nat.le_of_ble_eq_true rfl) dX1_ofAll_19 ?_
        clear hw hH
        intro r3 h2 H locs hw hH
        have kr3 := hw.2
        replace hw := hw.1
        refine x_astore (lv' := [(5, va_re (zA Z) r3), (0, .ref (zA Z b0)), (1, .int b1), (2, .long b2), (4, .int b4)]) B dX1_ofAll_22 hl (by decide) (by first | rfl | simp [va_re_cat]) ?_
        clear hl
        intro ls hl
        refine x_aload B dX1_ofAll_24 (lv_at hl 0 rfl) ?_
        refine x_ifnull (tgt := 68) B dX1_ofAll_26 (by decide) (fun c5 => ?_) (fun j4 c5 => ?_)
        · replace hw := hw.1 c5
          subst c5
          obtain ⟨x6, ex6⟩ : ∃ y : Int32, y = b4 + 1 := ⟨_, rfl⟩
          replace hw := hw x6 ex6
          refine lv_iinc (v := x6) (lv' := [(4, .int x6), (5, va_re (zA Z) none), (0, .ref (zA Z b0)), (1, .int b1), (2, .long b2)]) B.1 B.2.1 dX1_ofAll_68 hl (k := 4) rfl (by rw [ex6]; rfl) (by decide) (by first | rfl | simp [va_re_cat, Value.category]) ?_
          clear hl
          intro ls hl
          refine lv_goto (tgt := 7) B.1 B.2.1 dX1_ofAll_71 (by decide) ?_
          exact ih b1 b2 x6 h2  _ _ _ hw hH (lv_sub hl [2, 3, 4, 0] rfl)
        · replace hw := hw.2 j4 c5
          have kj4 := kr3 j4 c5
          subst c5
          refine lv_aload B.1 B.2.1 dX1_ofAll_29 (lv_at hl 0 rfl) ?_
          refine c_VN_I (own := RX1) (As := []) (rest := []) B hH (cy_X0_isEmpty B.2.2.2.2.1) (ct_X0_isEmpty B.2.2.2.2.2.2.2 l j4 h2 _ _ (kj4) hw) ⟨⟨rfl, rfl⟩, Nat.le_of_ble_eq_true rfl, Nat.le_of_ble_eq_true rfl, Nat.zero_le _, Nat.zero_le _⟩ (rv_4 B hH (kj4)) (tw_323 B.2.2.2.2.1) rfl hl.1 rfl (Nat.le_of_ble_eq_true rfl) dX1_ofAll_31 ?_
          clear hw hH
          intro r8 h7 H locs hw hH
          refine lv_if_ne (tgt := 68) B.1 B.2.1 dX1_ofAll_34 (by decide) (fun c9 => ?_) (fun c9 => ?_)
          · replace hw := hw.1 c9
            obtain ⟨x10, ex10⟩ : ∃ y : Int32, y = b4 + 1 := ⟨_, rfl⟩
            replace hw := hw x10 ex10
            refine lv_iinc (v := x10) (lv' := [(4, .int x10), (5, .ref (zA Z j4)), (0, .ref (zA Z b0)), (1, .int b1), (2, .long b2)]) B.1 B.2.1 dX1_ofAll_68 hl (k := 4) rfl (by rw [ex10]; rfl) (by decide) (by first | rfl | simp [va_re_cat, Value.category]) ?_
            clear hl
            intro ls hl
            refine lv_goto (tgt := 7) B.1 B.2.1 dX1_ofAll_71 (by decide) ?_
            exact ih b1 b2 x10 h7  _ _ _ hw hH (lv_sub hl [2, 3, 4, 0] rfl)
          · replace hw := hw.2 c9
            refine lv_aload B.1 B.2.1 dX1_ofAll_37 (lv_at hl 0 rfl) ?_
            refine lv_iload_n B.1 B.2.1 dX1_ofAll_39 rfl (lv_at hl 2 rfl) ?_
            refine lv_iconst (v := 0) B.1 B.2.1 dX1_ofAll_40 (by decide) ?_
            refine c_S_I (own := RX1) (As := [.int b1, .int 0]) (rest := [.ref (zA Z j4)]) B hH (cy_J9_max_7cf53 B.2.2.2.2.1) (ct_J9_max_7cf53 B.2.2.2.2.2.2.2 l b1 0 h7 _ _  hw) ⟨⟨rfl, rfl⟩, Nat.le_of_ble_eq_true rfl, Nat.le_of_ble_eq_true rfl, Nat.zero_le _, Nat.zero_le _⟩ (tw_327 B.2.2.2.2.1) rfl hl.1 rfl (Nat.le_of_ble_eq_true rfl) dX1_ofAll_41 ?_
            clear hw hH
            intro r12 h11 H locs hw hH
            refine lv_i2l B.1 B.2.1 dX1_ofAll_44 rfl ?_
            refine lv_lload_n B.1 B.2.1 dX1_ofAll_45 rfl (lv_at hl 3 rfl) ?_
            refine c_VN_I (own := RX1) (As := [.long (r12.toInt64), .long b2]) (rest := []) B hH (cy_X0_zeroFrom B.2.2.2.2.1) (ct_X0_zeroFrom B.2.2.2.2.2.2.2 l j4 (r12.toInt64) b2 h11 _ _ (kj4) hw) ⟨⟨rfl, rfl⟩, Nat.le_of_ble_eq_true rfl, Nat.le_of_ble_eq_true rfl, Nat.zero_le _, Nat.zero_le _⟩ (rv_4 B hH (kj4)) (tw_330 B.2.2.2.2.1) rfl hl.1 rfl (Nat.le_of_ble_eq_true rfl) dX1_ofAll_46 ?_
            clear hw hH
            intro r14 h13 H locs hw hH
            refine lv_istore_n (lv' := [(1, .int r14), (5, .ref (zA Z j4)), (0, .ref (zA Z b0)), (2, .long b2), (4, .int b4)]) B.1 B.2.1 dX1_ofAll_49 rfl hl (by decide) (by first | rfl | simp [va_re_cat, Value.category]) ?_
            clear hl
            intro ls hl
            refine lv_iload_n B.1 B.2.1 dX1_ofAll_50 rfl (lv_at hl 0 rfl) ?_
            refine lv_iconst (v := (-1)) B.1 B.2.1 dX1_ofAll_51 (by decide) ?_
            refine lv_icmp_ne (tgt := 57) B.1 B.2.1 dX1_ofAll_52 (by decide) (fun c15 => ?_) (fun c15 => ?_)
            · replace hw := hw.1 c15
              refine lv_lload_n B.1 B.2.1 dX1_ofAll_57 rfl (lv_at hl 3 rfl) ?_
              refine lv_aload B.1 B.2.1 dX1_ofAll_58 (lv_at hl 1 rfl) ?_
              refine c_VN_I (own := RX1) (As := []) (rest := [.long b2]) B hH (cy_X0_period B.2.2.2.2.1) (ct_X0_period B.2.2.2.2.2.2.2 l j4 h13 _ _ (kj4) hw) ⟨⟨rfl, rfl⟩, Nat.le_of_ble_eq_true rfl, Nat.le_of_ble_eq_true rfl, Nat.zero_le _, Nat.zero_le _⟩ (rv_4 B hH (kj4)) (tw_347 B.2.2.2.2.1) rfl hl.1 rfl (Nat.le_of_ble_eq_true rfl) dX1_ofAll_60 ?_
              clear hw hH
              intro r17 h16 H locs hw hH
              refine lv_i2l B.1 B.2.1 dX1_ofAll_63 rfl ?_
              refine c_S_L (own := RX1) (As := [.long b2, .long (r17.toInt64)]) (rest := []) B hH (cy_X1_leastMultiple B.2.2.2.2.1) (ct_X1_leastMultiple B.2.2.2.2.2.2.2 l b2 (r17.toInt64) h16 _ _  hw) ⟨⟨rfl, rfl⟩, Nat.le_of_ble_eq_true rfl, Nat.le_of_ble_eq_true rfl, Nat.zero_le _, Nat.zero_le _⟩ (tw_348 B.2.2.2.2.1) rfl hl.1 rfl (Nat.le_of_ble_eq_true rfl) dX1_ofAll_64 ?_
              clear hw hH
              intro r19 h18 H locs hw hH
              refine lv_lstore_n (lv' := [(2, .long r19), (1, .int r14), (5, .ref (zA Z j4)), (0, .ref (zA Z b0)), (4, .int b4)]) B.1 B.2.1 dX1_ofAll_67 rfl hl (by decide) (by first | rfl | simp [va_re_cat, Value.category]) ?_
              clear hl
              intro ls hl
              obtain ⟨x20, ex20⟩ : ∃ y : Int32, y = b4 + 1 := ⟨_, rfl⟩
              replace hw := hw x20 ex20
              refine lv_iinc (v := x20) (lv' := [(4, .int x20), (2, .long r19), (1, .int r14), (5, .ref (zA Z j4)), (0, .ref (zA Z b0))]) B.1 B.2.1 dX1_ofAll_68 hl (k := 4) rfl (by rw [ex20]; rfl) (by decide) (by first | rfl | simp [va_re_cat, Value.category]) ?_
              clear hl
              intro ls hl
              refine lv_goto (tgt := 7) B.1 B.2.1 dX1_ofAll_71 (by decide) ?_
              exact ih r14 r19 x20 h18  _ _ _ hw hH (lv_sub hl [4, 2, 1, 0] rfl)
            · replace hw := hw.2 c15
              refine lv_iconst (v := (-1)) B.1 B.2.1 dX1_ofAll_55 (by decide) ?_
              exact e_i B hr hH hw dX1_ofAll_56
  refine lv_iconst (v := (-1)) B.1 B.2.1 dX1_ofAll_0 (by decide) ?_
  refine lv_istore_n (lv' := [(1, .int (-1)), (0, .ref (zA Z a0))]) B.1 B.2.1 dX1_ofAll_1 rfl hl (by decide) (by first | rfl | simp [va_re_cat, Value.category]) ?_
  clear hl
  intro ls hl
  refine lv_lconst (v := 1) B.1 B.2.1 dX1_ofAll_2 (by decide) ?_
  refine lv_lstore_n (lv' := [(2, .long 1), (1, .int (-1)), (0, .ref (zA Z a0))]) B.1 B.2.1 dX1_ofAll_3 rfl hl (by decide) (by first | rfl | simp [va_re_cat, Value.category]) ?_
  clear hl
  intro ls hl
  refine lv_iconst (v := 0) B.1 B.2.1 dX1_ofAll_4 (by decide) ?_
  refine lv_istore (lv' := [(4, .int 0), (2, .long 1), (1, .int (-1)), (0, .ref (zA Z a0))]) B.1 B.2.1 dX1_ofAll_5 hl (by decide) (by first | rfl | simp [va_re_cat, Value.category]) ?_
  clear hl
  intro ls hl
  obtain ⟨n21, hw⟩ := hw
  exact L7 a0 (k0) n21 (-1) 1 0 h  _ _ _ hw hH (lv_sub hl [3, 2, 1, 0] rfl)
theorem cy_X2_forget {s : State} {args : Array Value} (hG : GG s) : CYV s args yX2_forget cX2_forget 1 none 0 := CYV.of hG (fun _ _ hG => tw_468 hG) (tw_5 hG) (tw_467 hG) (tp_15 hG) (by decide +kernel)
set_option maxRecDepth 100000 in
set_option maxHeartbeats 4000000 in
theorem ct_X2_forget {Z : ZT} (hZ : ZO Z) (l : Launch) (a0 : Nat) (h : PH) (sz : Nat) (Q : PH → Prop) (k0 : kd a0 = 6) (hw : wp_X2_forget a0 h Q) : MV Z l yX2_forget cX2_forget 1 none ({ frames := 0, cells := 0, slots := 0, locals := 0 } : Room) h sz [.ref (zA Z a0)] Q := by
  refine open_M hZ (by decide +kernel) (by exact Nat.le_of_ble_eq_true rfl) ?_
  intro p e s m below meth c B hr hsz ls hl hH
  subst hsz
  have hl : lv_has ls 1 [(0, .ref (zA Z a0))] := hl
  unfold wp_X2_forget at hw
  refine lv_aload_n B.1 B.2.1 dX2_forget_0 rfl (lv_at hl 0 rfl) ?_
  refine lv_iconst (v := 0) B.1 B.2.1 dX2_forget_1 (by decide) ?_
  refine r_put B hH (own := RX2) (kd_n B (k0) (by decide) (by decide)) (ct_6 (k0)) rfl (ul_6 B.2.2.2.2.1) tyX2 tyX2_ok nmX2 2 (by decide) (ty := .int) rfl rfl rfl rfl (Nat.le_of_ble_eq_true rfl) (cs_6_2 (k0)) (tw_134 B.2.2.2.2.1) dX2_forget_2 ?_
  clear hH
  intro H locs hH
  obtain ⟨h1, eh1⟩ : ∃ z : PH, z = up2 h a0 2 0 := ⟨_, rfl⟩
  rw [← eh1] at hH
  replace hw := hw h1 eh1
  exact e_v B hr hH hw dX2_forget_5
theorem cy_X2_stateAt {s : State} {args : Array Value} (hG : GG s) : CYV s args yX2_stateAt cX2_stateAt 2 (some (.object "SplicedLoops$Studio")) 1 := CYV.of hG (fun _ _ hG => tw_754 hG) (tw_5 hG) (tw_753 hG) (tp_53 hG) (by decide +kernel)
set_option maxRecDepth 100000 in
set_option maxHeartbeats 4000000 in
theorem ct_X2_stateAt {Z : ZT} (hZ : ZO Z) (l : Launch) (a0 : Nat) (a1 : Int32) (h : PH) (sz : Nat) (Q : Option Nat → PH → Prop) (k0 : kd a0 = 6) (hw : wp_X2_stateAt a0 a1 h Q) : MO Z l yX2_stateAt cX2_stateAt 2 (some (.object "SplicedLoops$Studio")) ({ frames := 1, cells := 0, slots := 0, locals := 22 } : Room) h sz [.ref (zA Z a0), .int a1] (QO Q 2) := by
  refine open_M hZ (by decide +kernel) (by exact Nat.le_of_ble_eq_true rfl) ?_
  intro p e s m below meth c B hr hsz ls hl hH
  subst hsz
  have hl : lv_has ls 2 [(0, .ref (zA Z a0)), (1, .int a1)] := hl
  unfold wp_X2_stateAt at hw
  refine lv_iload_n B.1 B.2.1 dX2_stateAt_0 rfl (lv_at hl 1 rfl) ?_
  refine lv_iconst (v := 0) B.1 B.2.1 dX2_stateAt_1 (by decide) ?_
  refine lv_aload_n B.1 B.2.1 dX2_stateAt_2 rfl (lv_at hl 0 rfl) ?_
  refine r_get B hH (own := RX2) (kd_n B (k0) (by decide) (by decide)) (ct_6 (k0)) rfl (ul_6 B.2.2.2.2.1) 0 (by decide) rfl (tw_132 B.2.2.2.2.1) dX2_stateAt_3 ?_
  refine r_alenS B hH (kf_6_0 (k0)) dX2_stateAt_6 ?_
  refine lv_iconst (v := 1) B.1 B.2.1 dX2_stateAt_7 (by decide) ?_
  refine lv_isub B.1 B.2.1 dX2_stateAt_8 ?_
  refine c_SN_I (own := RX2) (As := [.int a1, .int 0, .int ((nI (al (a0 + 1))) - 1)]) (rest := []) B hH (cy_X7_outside B.2.2.2.2.1) (ct_X7_outside B.2.2.2.2.2.2.2 l a1 0 ((nI (al (a0 + 1))) - 1) h _ _  hw) ⟨⟨rfl, rfl⟩, Nat.le_of_ble_eq_true rfl, Nat.le_of_ble_eq_true rfl, Nat.zero_le _, Nat.zero_le _⟩ (tw_755 B.2.2.2.2.1) rfl hl.1 rfl (Nat.le_of_ble_eq_true rfl) dX2_stateAt_9 ?_
  clear hw hH
  intro r2 h1 H locs hw hH
  refine lv_if_eq (tgt := 19) B.1 B.2.1 dX2_stateAt_12 (by decide) (fun c3 => ?_) (fun c3 => ?_)
  · replace hw := hw.1 c3
    refine lv_aload_n B.1 B.2.1 dX2_stateAt_19 rfl (lv_at hl 0 rfl) ?_
    refine r_get B hH (own := RX2) (kd_n B (k0) (by decide) (by decide)) (ct_6 (k0)) rfl (ul_6 B.2.2.2.2.1) 0 (by decide) rfl (tw_132 B.2.2.2.2.1) dX2_stateAt_20 ?_
    refine lv_iload_n B.1 B.2.1 dX2_stateAt_23 rfl (lv_at hl 1 rfl) ?_
    have q4 := hw.1
    replace hw := hw.2
    refine r_aldS B hH (kf_6_0 (k0)) q4 dX2_stateAt_24 ?_
    exact e_o (r := some ((a0 + 1) + 1 + 21 * a1.toNatClampNeg)) B hr hH ⟨hw, fun j z => by cases z; exact ka_15 (kf_6_0 (k0)) q4⟩ dX2_stateAt_25
  · replace hw := hw.2 c3
    refine x_null (Z := Z) B dX2_stateAt_15 ?_
    refine lv_goto (tgt := 25) B.1 B.2.1 dX2_stateAt_16 (by decide) ?_
    exact e_o B hr hH ⟨hw, fun _ z => nomatch z⟩ dX2_stateAt_25
theorem cy_X3_copyFrom {s : State} {args : Array Value} (hG : GG s) : CYV s args yX3_copyFrom cX3_copyFrom 2 none 1 := CYV.of hG (fun _ _ hG => tw_763 hG) (tw_3 hG) (tw_762 hG) (tp_55 hG) (by decide +kernel)
set_option maxRecDepth 100000 in
set_option maxHeartbeats 4000000 in
theorem ct_X3_copyFrom {Z : ZT} (hZ : ZO Z) (l : Launch) (a0 : Nat) (a1 : Nat) (h : PH) (sz : Nat) (Q : PH → Prop) (k0 : kd a0 = 3) (k1 : kd a1 = 3) (hw : wp_X3_copyFrom a0 a1 h Q) : MV Z l yX3_copyFrom cX3_copyFrom 2 none ({ frames := 2, cells := 0, slots := 0, locals := 49 } : Room) h sz [.ref (zA Z a0), .ref (zA Z a1)] Q := by
  refine open_M hZ (by decide +kernel) (by exact Nat.le_of_ble_eq_true rfl) ?_
  intro p e s m below meth c B hr hsz ls hl hH
  subst hsz
  have hl : lv_has ls 2 [(0, .ref (zA Z a0)), (1, .ref (zA Z a1))] := hl
  unfold wp_X3_copyFrom at hw
  refine lv_aload_n B.1 B.2.1 dX3_copyFrom_0 rfl (lv_at hl 0 rfl) ?_
  refine lv_aload_n B.1 B.2.1 dX3_copyFrom_1 rfl (lv_at hl 1 rfl) ?_
  refine r_get B hH (own := RX3) (kd_n B (k1) (by decide) (by decide)) (ct_3 (k1)) rfl (ul_3 B.2.2.2.2.1) 1 (by decide) rfl (tw_47 B.2.2.2.2.1) dX3_copyFrom_2 ?_
  refine r_put B hH (own := RX3) (kd_n B (k0) (by decide) (by decide)) (ct_3 (k0)) rfl (ul_3 B.2.2.2.2.1) tyX3 tyX3_ok nmX3 1 (by decide) (ty := .int) rfl rfl rfl rfl (Nat.le_of_ble_eq_true rfl) (cs_3_1 (k0)) (tw_47 B.2.2.2.2.1) dX3_copyFrom_5 ?_
  clear hH
  intro H locs hH
  obtain ⟨h1, eh1⟩ : ∃ z : PH, z = up2 h a0 1 (h a1 1) := ⟨_, rfl⟩
  rw [← eh1] at hH
  replace hw := hw h1 eh1
  refine lv_aload_n B.1 B.2.1 dX3_copyFrom_8 rfl (lv_at hl 1 rfl) ?_
  refine r_get B hH (own := RX3) (kd_n B (k1) (by decide) (by decide)) (ct_3 (k1)) rfl (ul_3 B.2.2.2.2.1) 0 (by decide) rfl (tw_43 B.2.2.2.2.1) dX3_copyFrom_9 ?_
  refine lv_aload_n B.1 B.2.1 dX3_copyFrom_12 rfl (lv_at hl 0 rfl) ?_
  refine r_get B hH (own := RX3) (kd_n B (k0) (by decide) (by decide)) (ct_3 (k0)) rfl (ul_3 B.2.2.2.2.1) 0 (by decide) rfl (tw_43 B.2.2.2.2.1) dX3_copyFrom_13 ?_
  refine lv_aload_n B.1 B.2.1 dX3_copyFrom_16 rfl (lv_at hl 1 rfl) ?_
  refine r_get B hH (own := RX3) (kd_n B (k1) (by decide) (by decide)) (ct_3 (k1)) rfl (ul_3 B.2.2.2.2.1) 1 (by decide) rfl (tw_47 B.2.2.2.2.1) dX3_copyFrom_17 ?_
  refine c_SN_V (own := RX3) (As := [.ref (zA Z (a1 + 1)), .ref (zA Z (a0 + 1)), .int (h1 a1 1)]) (rest := []) B hH (cy_X7_copyRow B.2.2.2.2.1) (ct_X7_copyRow B.2.2.2.2.2.2.2 l (a1 + 1) (a0 + 1) (h1 a1 1) h1 _ _ (kf_3_0 (k1)) (kf_3_0 (k0)) hw) ⟨⟨rfl, rfl⟩, Nat.le_of_ble_eq_true rfl, Nat.le_of_ble_eq_true rfl, Nat.zero_le _, Nat.zero_le _⟩ (tw_764 B.2.2.2.2.1) rfl hl.1 rfl (Nat.le_of_ble_eq_true rfl) dX3_copyFrom_20 ?_
  clear hw hH
  intro h2 H locs hw hH
  exact e_v B hr hH hw dX3_copyFrom_23
theorem cy_X5_reelAt {s : State} {args : Array Value} (hG : GG s) : CYV s args yX5_reelAt cX5_reelAt 2 (some (.object "SplicedLoops$Reel")) 1 := CYV.of hG (fun _ _ hG => tw_486 hG) (tw_2 hG) (tw_485 hG) (tp_19 hG) (by decide +kernel)
set_option maxRecDepth 100000 in
set_option maxHeartbeats 4000000 in
theorem ct_X5_reelAt {Z : ZT} (hZ : ZO Z) (l : Launch) (a0 : Nat) (a1 : Int32) (h : PH) (sz : Nat) (Q : Option Nat → PH → Prop) (k0 : kd a0 = 2) (hw : wp_X5_reelAt a0 a1 h Q) : MO Z l yX5_reelAt cX5_reelAt 2 (some (.object "SplicedLoops$Reel")) ({ frames := 1, cells := 0, slots := 0, locals := 22 } : Room) h sz [.ref (zA Z a0), .int a1] (QO Q 3) := by
  refine open_M hZ (by decide +kernel) (by exact Nat.le_of_ble_eq_true rfl) ?_
  intro p e s m below meth c B hr hsz ls hl hH
  subst hsz
  have hl : lv_has ls 2 [(0, .ref (zA Z a0)), (1, .int a1)] := hl
  unfold wp_X5_reelAt at hw
  refine lv_iload_n B.1 B.2.1 dX5_reelAt_0 rfl (lv_at hl 1 rfl) ?_
  refine lv_iconst (v := 0) B.1 B.2.1 dX5_reelAt_1 (by decide) ?_
  refine lv_aload_n B.1 B.2.1 dX5_reelAt_2 rfl (lv_at hl 0 rfl) ?_
  refine r_get B hH (own := RX5) (kd_n B (k0) (by decide) (by decide)) (ct_2 (k0)) rfl (ul_2 B.2.2.2.2.1) 2 (by decide) rfl (tw_101 B.2.2.2.2.1) dX5_reelAt_3 ?_
  refine lv_iconst (v := 1) B.1 B.2.1 dX5_reelAt_6 (by decide) ?_
  refine lv_isub B.1 B.2.1 dX5_reelAt_7 ?_
  refine c_SN_I (own := RX5) (As := [.int a1, .int 0, .int ((h a0 2) - 1)]) (rest := []) B hH (cy_X7_outside B.2.2.2.2.1) (ct_X7_outside B.2.2.2.2.2.2.2 l a1 0 ((h a0 2) - 1) h _ _  hw) ⟨⟨rfl, rfl⟩, Nat.le_of_ble_eq_true rfl, Nat.le_of_ble_eq_true rfl, Nat.zero_le _, Nat.zero_le _⟩ (tw_322 B.2.2.2.2.1) rfl hl.1 rfl (Nat.le_of_ble_eq_true rfl) dX5_reelAt_8 ?_
  clear hw hH
  intro r2 h1 H locs hw hH
  refine lv_if_ne (tgt := 23) B.1 B.2.1 dX5_reelAt_11 (by decide) (fun c3 => ?_) (fun c3 => ?_)
  · replace hw := hw.1 c3
    refine x_null (Z := Z) B dX5_reelAt_23 ?_
    refine lv_goto (tgt := 33) B.1 B.2.1 dX5_reelAt_24 (by decide) ?_
    exact e_o B hr hH ⟨hw, fun _ z => nomatch z⟩ dX5_reelAt_33
  · replace hw := hw.2 c3
    refine lv_iload_n B.1 B.2.1 dX5_reelAt_14 rfl (lv_at hl 1 rfl) ?_
    refine lv_aload_n B.1 B.2.1 dX5_reelAt_15 rfl (lv_at hl 0 rfl) ?_
    refine r_get B hH (own := RX5) (kd_n B (k0) (by decide) (by decide)) (ct_2 (k0)) rfl (ul_2 B.2.2.2.2.1) 0 (by decide) rfl (tw_99 B.2.2.2.2.1) dX5_reelAt_16 ?_
    refine r_alenR B hH (kf_2_0 (k0)) dX5_reelAt_19 ?_
    refine lv_icmp_lt (tgt := 27) B.1 B.2.1 dX5_reelAt_20 (by decide) (fun c4 => ?_) (fun c4 => ?_)
    · replace hw := hw.1 c4
      refine lv_aload_n B.1 B.2.1 dX5_reelAt_27 rfl (lv_at hl 0 rfl) ?_
      refine r_get B hH (own := RX5) (kd_n B (k0) (by decide) (by decide)) (ct_2 (k0)) rfl (ul_2 B.2.2.2.2.1) 0 (by decide) rfl (tw_99 B.2.2.2.2.1) dX5_reelAt_28 ?_
      refine lv_iload_n B.1 B.2.1 dX5_reelAt_31 rfl (lv_at hl 1 rfl) ?_
      have q5 := hw.1
      replace hw := hw.2
      refine r_aldR B hH (kf_2_0 (k0)) q5 dX5_reelAt_32 ?_
      exact e_o (r := some ((a0 + 1) + 1 + 2 * a1.toNatClampNeg)) B hr hH ⟨hw, fun j z => by cases z; exact ka_13 (kf_2_0 (k0)) q5⟩ dX5_reelAt_33
    · replace hw := hw.2 c4
      refine x_null (Z := Z) B dX5_reelAt_23 ?_
      refine lv_goto (tgt := 33) B.1 B.2.1 dX5_reelAt_24 (by decide) ?_
      exact e_o B hr hH ⟨hw, fun _ z => nomatch z⟩ dX5_reelAt_33
theorem cy_X5_copyFrom {s : State} {args : Array Value} (hG : GG s) : CYV s args yX5_copyFrom cX5_copyFrom 5 none 1 := CYV.of hG (fun _ _ hG => tw_759 hG) (tw_2 hG) (tw_758 hG) (tp_54 hG) (by decide +kernel)
set_option maxRecDepth 100000 in
set_option maxHeartbeats 4000000 in
theorem ct_X5_copyFrom {Z : ZT} (hZ : ZO Z) (l : Launch) (a0 : Nat) (a1 : Nat) (h : PH) (sz : Nat) (Q : PH → Prop) (k0 : kd a0 = 2) (k1 : kd a1 = 2) (hw : wp_X5_copyFrom a0 a1 h Q) : MV Z l yX5_copyFrom cX5_copyFrom 5 none ({ frames := 3, cells := 0, slots := 0, locals := 70 } : Room) h sz [.ref (zA Z a0), .ref (zA Z a1)] Q := by
  refine open_M hZ (by decide +kernel) (by exact Nat.le_of_ble_eq_true rfl) ?_
  intro p e s m below meth c B hr hsz ls hl hH
  subst hsz
  have hl : lv_has ls 5 [(0, .ref (zA Z a0)), (1, .ref (zA Z a1))] := hl
  unfold wp_X5_copyFrom at hw
  have L78 : ∀ (b0 : Nat) (b1 : Nat), kd b0 = 2 → kd b1 = 2 → ∀ (n : Nat) (b2 : Int32) (h : PH), ∀ (H : Heap) (locs : List Loc) (ls : Array Slot), wp_X5_copyFrom_b78 b0 b1 Q n b2 h → HH Z s h H locs → lv_has ls 5 [(0, .ref (zA Z b0)), (1, .ref (zA Z b1)), (2, .int b2)] → W p l e ({ frames := 3, cells := 0, slots := 0, locals := 70 } : Room) s m ([.ref (zA Z a0), .ref (zA Z a1)]).toArray below meth c H locs 0 0 (MQ below (va_Qv Q (BZ Z) (fr Z s.heap.size)) ([.ref (zA Z a0), .ref (zA Z a1)]).toArray s 0 0 (fr Z s.heap.size)) (F0 m 78 ls []) := by
    intro b0 b1 kb0 kb1 n
    induction n with
    | zero => intro b2 h H locs ls hw hH hl; exact absurd hw id
    | succ n ih =>
      intro b2 h H locs ls hw hH hl
      unfold wp_X5_copyFrom_b78 at hw
      refine lv_iload_n B.1 B.2.1 dX5_copyFrom_78 rfl (lv_at hl 2 rfl) ?_
      refine lv_aload_n B.1 B.2.1 dX5_copyFrom_79 rfl (lv_at hl 0 rfl) ?_
      refine r_get B hH (own := RX5) (kd_n B (kb0) (by decide) (by decide)) (ct_2 (kb0)) rfl (ul_2 B.2.2.2.2.1) 3 (by decide) rfl (tw_103 B.2.2.2.2.1) dX5_copyFrom_80 ?_
      refine lv_icmp_ge (tgt := 120) B.1 B.2.1 dX5_copyFrom_83 (by decide) (fun c6 => ?_) (fun c6 => ?_)
      · replace hw := hw.1 c6
        exact e_v B hr hH hw dX5_copyFrom_120
      · replace hw := hw.2 c6
        refine lv_aload_n B.1 B.2.1 dX5_copyFrom_86 rfl (lv_at hl 0 rfl) ?_
        refine lv_iload_n B.1 B.2.1 dX5_copyFrom_87 rfl (lv_at hl 2 rfl) ?_
        refine c_V_O (own := RX5) (As := [.int b2]) (rest := []) B hH (cy_X5_loopAt B.2.2.2.2.1) (ct_X5_loopAt B.2.2.2.2.2.2.2 l b0 b2 h _ _ (kb0) hw) ⟨⟨rfl, rfl⟩, Nat.le_of_ble_eq_true rfl, Nat.le_of_ble_eq_true rfl, Nat.zero_le _, Nat.zero_le _⟩ (rv_2 B hH (kb0)) (tw_495 B.2.2.2.2.1) rfl hl.1 rfl (Nat.le_of_ble_eq_true rfl) dX5_copyFrom_88 ?_
        clear hw hH
        intro r8 h7 H locs hw hH
        have kr8 := hw.2
        replace hw := hw.1
        refine x_astore_n (lv' := [(3, va_re (zA Z) r8), (0, .ref (zA Z b0)), (1, .ref (zA Z b1)), (2, .int b2)]) B dX5_copyFrom_91 rfl hl (by decide) (by first | rfl | simp [va_re_cat]) ?_
        clear hl
        intro ls hl
        refine lv_aload_n B.1 B.2.1 dX5_copyFrom_92 rfl (lv_at hl 2 rfl) ?_
        refine lv_iload_n B.1 B.2.1 dX5_copyFrom_93 rfl (lv_at hl 3 rfl) ?_
        refine c_V_O (own := RX5) (As := [.int b2]) (rest := []) B hH (cy_X5_loopAt B.2.2.2.2.1) (ct_X5_loopAt B.2.2.2.2.2.2.2 l b1 b2 h7 _ _ (kb1) hw) ⟨⟨rfl, rfl⟩, Nat.le_of_ble_eq_true rfl, Nat.le_of_ble_eq_true rfl, Nat.zero_le _, Nat.zero_le _⟩ (rv_2 B hH (kb1)) (tw_495 B.2.2.2.2.1) rfl hl.1 rfl (Nat.le_of_ble_eq_true rfl) dX5_copyFrom_94 ?_
        clear hw hH
        intro r10 h9 H locs hw hH
        have kr10 := hw.2
        replace hw := hw.1
        refine x_astore (lv' := [(4, va_re (zA Z) r10), (3, va_re (zA Z) r8), (0, .ref (zA Z b0)), (1, .ref (zA Z b1)), (2, .int b2)]) B dX5_copyFrom_97 hl (by decide) (by first | rfl | simp [va_re_cat]) ?_
        clear hl
        intro ls hl
        refine x_aload_n B dX5_copyFrom_99 rfl (lv_at hl 1 rfl) ?_
        refine x_ifnull (tgt := 114) B dX5_copyFrom_100 (by decide) (fun c12 => ?_) (fun j11 c12 => ?_)
        · replace hw := hw.1 c12
          subst c12
          obtain ⟨x13, ex13⟩ : ∃ y : Int32, y = b2 + 1 := ⟨_, rfl⟩
          replace hw := hw x13 ex13
          refine lv_iinc (v := x13) (lv' := [(2, .int x13), (4, va_re (zA Z) r10), (3, va_re (zA Z) none), (0, .ref (zA Z b0)), (1, .ref (zA Z b1))]) B.1 B.2.1 dX5_copyFrom_114 hl (k := 4) rfl (by rw [ex13]; rfl) (by decide) (by first | rfl | simp [va_re_cat, Value.category]) ?_
          clear hl
          intro ls hl
          refine lv_goto (tgt := 78) B.1 B.2.1 dX5_copyFrom_117 (by decide) ?_
          exact ih x13 h9  _ _ _ hw hH (lv_sub hl [3, 4, 0] rfl)
        · replace hw := hw.2 j11 c12
          have kj11 := kr8 j11 c12
          subst c12
          refine x_aload B dX5_copyFrom_103 (lv_at hl 0 rfl) ?_
          refine x_ifnull (tgt := 114) B dX5_copyFrom_105 (by decide) (fun c15 => ?_) (fun j14 c15 => ?_)
          · replace hw := hw.1 c15
            subst c15
            obtain ⟨x16, ex16⟩ : ∃ y : Int32, y = b2 + 1 := ⟨_, rfl⟩
            replace hw := hw x16 ex16
            refine lv_iinc (v := x16) (lv' := [(2, .int x16), (4, va_re (zA Z) none), (3, .ref (zA Z j11)), (0, .ref (zA Z b0)), (1, .ref (zA Z b1))]) B.1 B.2.1 dX5_copyFrom_114 hl (k := 4) rfl (by rw [ex16]; rfl) (by decide) (by first | rfl | simp [va_re_cat, Value.category]) ?_
            clear hl
            intro ls hl
            refine lv_goto (tgt := 78) B.1 B.2.1 dX5_copyFrom_117 (by decide) ?_
            exact ih x16 h9  _ _ _ hw hH (lv_sub hl [3, 4, 0] rfl)
          · replace hw := hw.2 j14 c15
            have kj14 := kr10 j14 c15
            subst c15
            refine lv_aload_n B.1 B.2.1 dX5_copyFrom_108 rfl (lv_at hl 1 rfl) ?_
            refine lv_aload B.1 B.2.1 dX5_copyFrom_109 (lv_at hl 0 rfl) ?_
            refine c_VN_V (own := RX5) (As := [.ref (zA Z j14)]) (rest := []) B hH (cy_X0_copyFrom B.2.2.2.2.1) (ct_X0_copyFrom B.2.2.2.2.2.2.2 l j11 j14 h9 _ _ (kj11) (kj14) hw) ⟨⟨rfl, rfl⟩, Nat.le_of_ble_eq_true rfl, Nat.le_of_ble_eq_true rfl, Nat.zero_le _, Nat.zero_le _⟩ (rv_4 B hH (kj11)) (tw_772 B.2.2.2.2.1) rfl hl.1 rfl (Nat.le_of_ble_eq_true rfl) dX5_copyFrom_111 ?_
            clear hw hH
            intro h17 H locs hw hH
            obtain ⟨x18, ex18⟩ : ∃ y : Int32, y = b2 + 1 := ⟨_, rfl⟩
            replace hw := hw x18 ex18
            refine lv_iinc (v := x18) (lv' := [(2, .int x18), (4, .ref (zA Z j14)), (3, .ref (zA Z j11)), (0, .ref (zA Z b0)), (1, .ref (zA Z b1))]) B.1 B.2.1 dX5_copyFrom_114 hl (k := 4) rfl (by rw [ex18]; rfl) (by decide) (by first | rfl | simp [va_re_cat, Value.category]) ?_
            clear hl
            intro ls hl
            refine lv_goto (tgt := 78) B.1 B.2.1 dX5_copyFrom_117 (by decide) ?_
            exact ih x18 h17  _ _ _ hw hH (lv_sub hl [3, 4, 0] rfl)
  have L34 : ∀ (b0 : Nat) (b1 : Nat), kd b0 = 2 → kd b1 = 2 → ∀ (n : Nat) (b2 : Int32) (h : PH), ∀ (H : Heap) (locs : List Loc) (ls : Array Slot), wp_X5_copyFrom_b34 b0 b1 Q n b2 h → HH Z s h H locs → lv_has ls 5 [(0, .ref (zA Z b0)), (1, .ref (zA Z b1)), (2, .int b2)] → W p l e ({ frames := 3, cells := 0, slots := 0, locals := 70 } : Room) s m ([.ref (zA Z a0), .ref (zA Z a1)]).toArray below meth c H locs 0 0 (MQ below (va_Qv Q (BZ Z) (fr Z s.heap.size)) ([.ref (zA Z a0), .ref (zA Z a1)]).toArray s 0 0 (fr Z s.heap.size)) (F0 m 34 ls []) := by
    intro b0 b1 kb0 kb1 n
    induction n with
    | zero => intro b2 h H locs ls hw hH hl; exact absurd hw id
    | succ n ih =>
      intro b2 h H locs ls hw hH hl
      unfold wp_X5_copyFrom_b34 at hw
      refine lv_iload_n B.1 B.2.1 dX5_copyFrom_34 rfl (lv_at hl 2 rfl) ?_
      refine lv_aload_n B.1 B.2.1 dX5_copyFrom_35 rfl (lv_at hl 0 rfl) ?_
      refine r_get B hH (own := RX5) (kd_n B (kb0) (by decide) (by decide)) (ct_2 (kb0)) rfl (ul_2 B.2.2.2.2.1) 2 (by decide) rfl (tw_101 B.2.2.2.2.1) dX5_copyFrom_36 ?_
      refine lv_icmp_ge (tgt := 76) B.1 B.2.1 dX5_copyFrom_39 (by decide) (fun c5 => ?_) (fun c5 => ?_)
      · replace hw := hw.1 c5
        refine lv_iconst (v := 0) B.1 B.2.1 dX5_copyFrom_76 (by decide) ?_
        refine lv_istore_n (lv' := [(2, .int 0), (0, .ref (zA Z b0)), (1, .ref (zA Z b1))]) B.1 B.2.1 dX5_copyFrom_77 rfl hl (by decide) (by first | rfl | simp [va_re_cat, Value.category]) ?_
        clear hl
        intro ls hl
        obtain ⟨n19, hw⟩ := hw
        exact L78 b0 b1 (kb0) (kb1) n19 0 h  _ _ _ hw hH (lv_sub hl [1, 2, 0] rfl)
      · replace hw := hw.2 c5
        refine lv_aload_n B.1 B.2.1 dX5_copyFrom_42 rfl (lv_at hl 0 rfl) ?_
        refine lv_iload_n B.1 B.2.1 dX5_copyFrom_43 rfl (lv_at hl 2 rfl) ?_
        refine c_V_O (own := RX5) (As := [.int b2]) (rest := []) B hH (cy_X5_reelAt B.2.2.2.2.1) (ct_X5_reelAt B.2.2.2.2.2.2.2 l b0 b2 h _ _ (kb0) hw) ⟨⟨rfl, rfl⟩, Nat.le_of_ble_eq_true rfl, Nat.le_of_ble_eq_true rfl, Nat.zero_le _, Nat.zero_le _⟩ (rv_2 B hH (kb0)) (tw_483 B.2.2.2.2.1) rfl hl.1 rfl (Nat.le_of_ble_eq_true rfl) dX5_copyFrom_44 ?_
        clear hw hH
        intro r21 h20 H locs hw hH
        have kr21 := hw.2
        replace hw := hw.1
        refine x_astore_n (lv' := [(3, va_re (zA Z) r21), (0, .ref (zA Z b0)), (1, .ref (zA Z b1)), (2, .int b2)]) B dX5_copyFrom_47 rfl hl (by decide) (by first | rfl | simp [va_re_cat]) ?_
        clear hl
        intro ls hl
        refine lv_aload_n B.1 B.2.1 dX5_copyFrom_48 rfl (lv_at hl 2 rfl) ?_
        refine lv_iload_n B.1 B.2.1 dX5_copyFrom_49 rfl (lv_at hl 3 rfl) ?_
        refine c_V_O (own := RX5) (As := [.int b2]) (rest := []) B hH (cy_X5_reelAt B.2.2.2.2.1) (ct_X5_reelAt B.2.2.2.2.2.2.2 l b1 b2 h20 _ _ (kb1) hw) ⟨⟨rfl, rfl⟩, Nat.le_of_ble_eq_true rfl, Nat.le_of_ble_eq_true rfl, Nat.zero_le _, Nat.zero_le _⟩ (rv_2 B hH (kb1)) (tw_483 B.2.2.2.2.1) rfl hl.1 rfl (Nat.le_of_ble_eq_true rfl) dX5_copyFrom_50 ?_
        clear hw hH
        intro r23 h22 H locs hw hH
        have kr23 := hw.2
        replace hw := hw.1
        refine x_astore (lv' := [(4, va_re (zA Z) r23), (3, va_re (zA Z) r21), (0, .ref (zA Z b0)), (1, .ref (zA Z b1)), (2, .int b2)]) B dX5_copyFrom_53 hl (by decide) (by first | rfl | simp [va_re_cat]) ?_
        clear hl
        intro ls hl
        refine x_aload_n B dX5_copyFrom_55 rfl (lv_at hl 1 rfl) ?_
        refine x_ifnull (tgt := 70) B dX5_copyFrom_56 (by decide) (fun c25 => ?_) (fun j24 c25 => ?_)
        · replace hw := hw.1 c25
          subst c25
          obtain ⟨x26, ex26⟩ : ∃ y : Int32, y = b2 + 1 := ⟨_, rfl⟩
          replace hw := hw x26 ex26
          refine lv_iinc (v := x26) (lv' := [(2, .int x26), (4, va_re (zA Z) r23), (3, va_re (zA Z) none), (0, .ref (zA Z b0)), (1, .ref (zA Z b1))]) B.1 B.2.1 dX5_copyFrom_70 hl (k := 4) rfl (by rw [ex26]; rfl) (by decide) (by first | rfl | simp [va_re_cat, Value.category]) ?_
          clear hl
          intro ls hl
          refine lv_goto (tgt := 34) B.1 B.2.1 dX5_copyFrom_73 (by decide) ?_
          exact ih x26 h22  _ _ _ hw hH (lv_sub hl [3, 4, 0] rfl)
        · replace hw := hw.2 j24 c25
          have kj24 := kr21 j24 c25
          subst c25
          refine x_aload B dX5_copyFrom_59 (lv_at hl 0 rfl) ?_
          refine x_ifnull (tgt := 70) B dX5_copyFrom_61 (by decide) (fun c28 => ?_) (fun j27 c28 => ?_)
          · replace hw := hw.1 c28
            subst c28
            obtain ⟨x29, ex29⟩ : ∃ y : Int32, y = b2 + 1 := ⟨_, rfl⟩
            replace hw := hw x29 ex29
            refine lv_iinc (v := x29) (lv' := [(2, .int x29), (4, va_re (zA Z) none), (3, .ref (zA Z j24)), (0, .ref (zA Z b0)), (1, .ref (zA Z b1))]) B.1 B.2.1 dX5_copyFrom_70 hl (k := 4) rfl (by rw [ex29]; rfl) (by decide) (by first | rfl | simp [va_re_cat, Value.category]) ?_
            clear hl
            intro ls hl
            refine lv_goto (tgt := 34) B.1 B.2.1 dX5_copyFrom_73 (by decide) ?_
            exact ih x29 h22  _ _ _ hw hH (lv_sub hl [3, 4, 0] rfl)
          · replace hw := hw.2 j27 c28
            have kj27 := kr23 j27 c28
            subst c28
            refine lv_aload_n B.1 B.2.1 dX5_copyFrom_64 rfl (lv_at hl 1 rfl) ?_
            refine lv_aload B.1 B.2.1 dX5_copyFrom_65 (lv_at hl 0 rfl) ?_
            refine c_VN_V (own := RX5) (As := [.ref (zA Z j27)]) (rest := []) B hH (cy_X3_copyFrom B.2.2.2.2.1) (ct_X3_copyFrom B.2.2.2.2.2.2.2 l j24 j27 h22 _ _ (kj24) (kj27) hw) ⟨⟨rfl, rfl⟩, Nat.le_of_ble_eq_true rfl, Nat.le_of_ble_eq_true rfl, Nat.zero_le _, Nat.zero_le _⟩ (rv_3 B hH (kj24)) (tw_760 B.2.2.2.2.1) rfl hl.1 rfl (Nat.le_of_ble_eq_true rfl) dX5_copyFrom_67 ?_
            clear hw hH
            intro h30 H locs hw hH
            obtain ⟨x31, ex31⟩ : ∃ y : Int32, y = b2 + 1 := ⟨_, rfl⟩
            replace hw := hw x31 ex31
            refine lv_iinc (v := x31) (lv' := [(2, .int x31), (4, .ref (zA Z j27)), (3, .ref (zA Z j24)), (0, .ref (zA Z b0)), (1, .ref (zA Z b1))]) B.1 B.2.1 dX5_copyFrom_70 hl (k := 4) rfl (by rw [ex31]; rfl) (by decide) (by first | rfl | simp [va_re_cat, Value.category]) ?_
            clear hl
            intro ls hl
            refine lv_goto (tgt := 34) B.1 B.2.1 dX5_copyFrom_73 (by decide) ?_
            exact ih x31 h30  _ _ _ hw hH (lv_sub hl [3, 4, 0] rfl)
  refine lv_aload_n B.1 B.2.1 dX5_copyFrom_0 rfl (lv_at hl 0 rfl) ?_
  refine lv_aload_n B.1 B.2.1 dX5_copyFrom_1 rfl (lv_at hl 1 rfl) ?_
  refine r_get B hH (own := RX5) (kd_n B (k1) (by decide) (by decide)) (ct_2 (k1)) rfl (ul_2 B.2.2.2.2.1) 2 (by decide) rfl (tw_101 B.2.2.2.2.1) dX5_copyFrom_2 ?_
  refine r_put B hH (own := RX5) (kd_n B (k0) (by decide) (by decide)) (ct_2 (k0)) rfl (ul_2 B.2.2.2.2.1) tyX5 tyX5_ok nmX5 2 (by decide) (ty := .int) rfl rfl rfl rfl (Nat.le_of_ble_eq_true rfl) (cs_2_2 (k0)) (tw_101 B.2.2.2.2.1) dX5_copyFrom_5 ?_
  clear hH
  intro H locs hH
  obtain ⟨h1, eh1⟩ : ∃ z : PH, z = up2 h a0 2 (h a1 2) := ⟨_, rfl⟩
  rw [← eh1] at hH
  replace hw := hw h1 eh1
  refine lv_aload_n B.1 B.2.1 dX5_copyFrom_8 rfl (lv_at hl 0 rfl) ?_
  refine lv_aload_n B.1 B.2.1 dX5_copyFrom_9 rfl (lv_at hl 1 rfl) ?_
  refine r_get B hH (own := RX5) (kd_n B (k1) (by decide) (by decide)) (ct_2 (k1)) rfl (ul_2 B.2.2.2.2.1) 3 (by decide) rfl (tw_103 B.2.2.2.2.1) dX5_copyFrom_10 ?_
  refine r_put B hH (own := RX5) (kd_n B (k0) (by decide) (by decide)) (ct_2 (k0)) rfl (ul_2 B.2.2.2.2.1) tyX5 tyX5_ok nmX5 3 (by decide) (ty := .int) rfl rfl rfl rfl (Nat.le_of_ble_eq_true rfl) (cs_2_3 (k0)) (tw_103 B.2.2.2.2.1) dX5_copyFrom_13 ?_
  clear hH
  intro H locs hH
  obtain ⟨h2, eh2⟩ : ∃ z : PH, z = up2 h1 a0 3 (h1 a1 3) := ⟨_, rfl⟩
  rw [← eh2] at hH
  replace hw := hw h2 eh2
  refine lv_aload_n B.1 B.2.1 dX5_copyFrom_16 rfl (lv_at hl 0 rfl) ?_
  refine lv_aload_n B.1 B.2.1 dX5_copyFrom_17 rfl (lv_at hl 1 rfl) ?_
  refine r_get B hH (own := RX5) (kd_n B (k1) (by decide) (by decide)) (ct_2 (k1)) rfl (ul_2 B.2.2.2.2.1) 4 (by decide) rfl (tw_106 B.2.2.2.2.1) dX5_copyFrom_18 ?_
  refine r_put B hH (own := RX5) (kd_n B (k0) (by decide) (by decide)) (ct_2 (k0)) rfl (ul_2 B.2.2.2.2.1) tyX5 tyX5_ok nmX5 4 (by decide) (ty := .int) rfl rfl rfl rfl (Nat.le_of_ble_eq_true rfl) (cs_2_4 (k0)) (tw_106 B.2.2.2.2.1) dX5_copyFrom_21 ?_
  clear hH
  intro H locs hH
  obtain ⟨h3, eh3⟩ : ∃ z : PH, z = up2 h2 a0 4 (h2 a1 4) := ⟨_, rfl⟩
  rw [← eh3] at hH
  replace hw := hw h3 eh3
  refine lv_aload_n B.1 B.2.1 dX5_copyFrom_24 rfl (lv_at hl 0 rfl) ?_
  refine lv_aload_n B.1 B.2.1 dX5_copyFrom_25 rfl (lv_at hl 1 rfl) ?_
  refine r_get B hH (own := RX5) (kd_n B (k1) (by decide) (by decide)) (ct_2 (k1)) rfl (ul_2 B.2.2.2.2.1) 5 (by decide) rfl (tw_108 B.2.2.2.2.1) dX5_copyFrom_26 ?_
  refine r_put B hH (own := RX5) (kd_n B (k0) (by decide) (by decide)) (ct_2 (k0)) rfl (ul_2 B.2.2.2.2.1) tyX5 tyX5_ok nmX5 5 (by decide) (ty := .int) rfl rfl rfl rfl (Nat.le_of_ble_eq_true rfl) (cs_2_5 (k0)) (tw_108 B.2.2.2.2.1) dX5_copyFrom_29 ?_
  clear hH
  intro H locs hH
  obtain ⟨h4, eh4⟩ : ∃ z : PH, z = up2 h3 a0 5 (h3 a1 5) := ⟨_, rfl⟩
  rw [← eh4] at hH
  replace hw := hw h4 eh4
  refine lv_iconst (v := 0) B.1 B.2.1 dX5_copyFrom_32 (by decide) ?_
  refine lv_istore_n (lv' := [(2, .int 0), (0, .ref (zA Z a0)), (1, .ref (zA Z a1))]) B.1 B.2.1 dX5_copyFrom_33 rfl hl (by decide) (by first | rfl | simp [va_re_cat, Value.category]) ?_
  clear hl
  intro ls hl
  obtain ⟨n32, hw⟩ := hw
  exact L34 a0 a1 (k0) (k1) n32 0 h4  _ _ _ hw hH (lv_sub hl [1, 2, 0] rfl)
theorem cy_X2_remember {s : State} {args : Array Value} (hG : GG s) : CYV s args yX2_remember cX2_remember 3 none 1 := CYV.of hG (fun _ _ hG => tw_750 hG) (tw_5 hG) (tw_749 hG) (tp_52 hG) (by decide +kernel)
set_option maxRecDepth 100000 in
set_option maxHeartbeats 4000000 in
theorem ct_X2_remember {Z : ZT} (hZ : ZO Z) (l : Launch) (a0 : Nat) (a1 : Nat) (h : PH) (sz : Nat) (Q : PH → Prop) (k0 : kd a0 = 6) (k1 : kd a1 = 2) (hw : wp_X2_remember a0 a1 h Q) : MV Z l yX2_remember cX2_remember 3 none ({ frames := 4, cells := 0, slots := 0, locals := 94 } : Room) h sz [.ref (zA Z a0), .ref (zA Z a1)] Q := by
  refine open_M hZ (by decide +kernel) (by exact Nat.le_of_ble_eq_true rfl) ?_
  intro p e s m below meth c B hr hsz ls hl hH
  subst hsz
  have hl : lv_has ls 3 [(0, .ref (zA Z a0)), (1, .ref (zA Z a1))] := hl
  unfold wp_X2_remember at hw
  refine lv_aload_n B.1 B.2.1 dX2_remember_0 rfl (lv_at hl 0 rfl) ?_
  refine lv_aload_n B.1 B.2.1 dX2_remember_1 rfl (lv_at hl 0 rfl) ?_
  refine r_get B hH (own := RX2) (kd_n B (k0) (by decide) (by decide)) (ct_6 (k0)) rfl (ul_6 B.2.2.2.2.1) 1 (by decide) rfl (tw_133 B.2.2.2.2.1) dX2_remember_2 ?_
  refine c_V_O (own := RX2) (As := [.int (h a0 1)]) (rest := []) B hH (cy_X2_stateAt B.2.2.2.2.1) (ct_X2_stateAt B.2.2.2.2.2.2.2 l a0 (h a0 1) h _ _ (k0) hw) ⟨⟨rfl, rfl⟩, Nat.le_of_ble_eq_true rfl, Nat.le_of_ble_eq_true rfl, Nat.zero_le _, Nat.zero_le _⟩ (rv_6 B hH (k0)) (tw_751 B.2.2.2.2.1) rfl hl.1 rfl (Nat.le_of_ble_eq_true rfl) dX2_remember_5 ?_
  clear hw hH
  intro r2 h1 H locs hw hH
  have kr2 := hw.2
  replace hw := hw.1
  refine x_astore_n (lv' := [(2, va_re (zA Z) r2), (0, .ref (zA Z a0)), (1, .ref (zA Z a1))]) B dX2_remember_8 rfl hl (by decide) (by first | rfl | simp [va_re_cat]) ?_
  clear hl
  intro ls hl
  refine x_aload_n B dX2_remember_9 rfl (lv_at hl 0 rfl) ?_
  refine x_ifnull (tgt := 18) B dX2_remember_10 (by decide) (fun c4 => ?_) (fun j3 c4 => ?_)
  · replace hw := hw.1 c4
    subst c4
    refine lv_aload_n B.1 B.2.1 dX2_remember_18 rfl (lv_at hl 1 rfl) ?_
    refine lv_aload_n B.1 B.2.1 dX2_remember_19 rfl (lv_at hl 1 rfl) ?_
    refine r_get B hH (own := RX2) (kd_n B (k0) (by decide) (by decide)) (ct_6 (k0)) rfl (ul_6 B.2.2.2.2.1) 1 (by decide) rfl (tw_133 B.2.2.2.2.1) dX2_remember_20 ?_
    refine lv_iconst (v := 1) B.1 B.2.1 dX2_remember_23 (by decide) ?_
    refine lv_iadd B.1 B.2.1 dX2_remember_24 ?_
    refine lv_bipush (v := 12) B.1 B.2.1 dX2_remember_25 (by decide) ?_
    refine lv_icmp_ge (tgt := 39) B.1 B.2.1 dX2_remember_27 (by decide) (fun c5 => ?_) (fun c5 => ?_)
    · replace hw := hw.1 c5
      refine lv_iconst (v := 0) B.1 B.2.1 dX2_remember_39 (by decide) ?_
      refine r_put B hH (own := RX2) (kd_n B (k0) (by decide) (by decide)) (ct_6 (k0)) rfl (ul_6 B.2.2.2.2.1) tyX2 tyX2_ok nmX2 1 (by decide) (ty := .int) rfl rfl rfl rfl (Nat.le_of_ble_eq_true rfl) (cs_6_1 (k0)) (tw_133 B.2.2.2.2.1) dX2_remember_40 ?_
      clear hH
      intro H locs hH
      obtain ⟨h6, eh6⟩ : ∃ z : PH, z = up2 h1 a0 1 0 := ⟨_, rfl⟩
      rw [← eh6] at hH
      replace hw := hw h6 eh6
      refine lv_aload_n B.1 B.2.1 dX2_remember_43 rfl (lv_at hl 1 rfl) ?_
      refine lv_aload_n B.1 B.2.1 dX2_remember_44 rfl (lv_at hl 1 rfl) ?_
      refine r_get B hH (own := RX2) (kd_n B (k0) (by decide) (by decide)) (ct_6 (k0)) rfl (ul_6 B.2.2.2.2.1) 2 (by decide) rfl (tw_134 B.2.2.2.2.1) dX2_remember_45 ?_
      refine lv_iconst (v := 1) B.1 B.2.1 dX2_remember_48 (by decide) ?_
      refine lv_iadd B.1 B.2.1 dX2_remember_49 ?_
      refine lv_bipush (v := 12) B.1 B.2.1 dX2_remember_50 (by decide) ?_
      refine c_S_I (own := RX2) (As := [.int ((h6 a0 2) + 1), .int 12]) (rest := [.ref (zA Z a0)]) B hH (cy_J9_min_7cf53 B.2.2.2.2.1) (ct_J9_min_7cf53 B.2.2.2.2.2.2.2 l ((h6 a0 2) + 1) 12 h6 _ _  hw) ⟨⟨rfl, rfl⟩, Nat.le_of_ble_eq_true rfl, Nat.le_of_ble_eq_true rfl, Nat.zero_le _, Nat.zero_le _⟩ (tw_777 B.2.2.2.2.1) rfl hl.1 rfl (Nat.le_of_ble_eq_true rfl) dX2_remember_52 ?_
      clear hw hH
      intro r8 h7 H locs hw hH
      refine r_put B hH (own := RX2) (kd_n B (k0) (by decide) (by decide)) (ct_6 (k0)) rfl (ul_6 B.2.2.2.2.1) tyX2 tyX2_ok nmX2 2 (by decide) (ty := .int) rfl rfl rfl rfl (Nat.le_of_ble_eq_true rfl) (cs_6_2 (k0)) (tw_134 B.2.2.2.2.1) dX2_remember_55 ?_
      clear hH
      intro H locs hH
      obtain ⟨h9, eh9⟩ : ∃ z : PH, z = up2 h7 a0 2 r8 := ⟨_, rfl⟩
      rw [← eh9] at hH
      replace hw := hw h9 eh9
      exact e_v B hr hH hw dX2_remember_58
    · replace hw := hw.2 c5
      refine lv_aload_n B.1 B.2.1 dX2_remember_30 rfl (lv_at hl 1 rfl) ?_
      refine r_get B hH (own := RX2) (kd_n B (k0) (by decide) (by decide)) (ct_6 (k0)) rfl (ul_6 B.2.2.2.2.1) 1 (by decide) rfl (tw_133 B.2.2.2.2.1) dX2_remember_31 ?_
      refine lv_iconst (v := 1) B.1 B.2.1 dX2_remember_34 (by decide) ?_
      refine lv_iadd B.1 B.2.1 dX2_remember_35 ?_
      refine lv_goto (tgt := 40) B.1 B.2.1 dX2_remember_36 (by decide) ?_
      refine r_put B hH (own := RX2) (kd_n B (k0) (by decide) (by decide)) (ct_6 (k0)) rfl (ul_6 B.2.2.2.2.1) tyX2 tyX2_ok nmX2 1 (by decide) (ty := .int) rfl rfl rfl rfl (Nat.le_of_ble_eq_true rfl) (cs_6_1 (k0)) (tw_133 B.2.2.2.2.1) dX2_remember_40 ?_
      clear hH
      intro H locs hH
      obtain ⟨h10, eh10⟩ : ∃ z : PH, z = up2 h1 a0 1 ((h1 a0 1) + 1) := ⟨_, rfl⟩
      rw [← eh10] at hH
      replace hw := hw h10 eh10
      refine lv_aload_n B.1 B.2.1 dX2_remember_43 rfl (lv_at hl 1 rfl) ?_
      refine lv_aload_n B.1 B.2.1 dX2_remember_44 rfl (lv_at hl 1 rfl) ?_
      refine r_get B hH (own := RX2) (kd_n B (k0) (by decide) (by decide)) (ct_6 (k0)) rfl (ul_6 B.2.2.2.2.1) 2 (by decide) rfl (tw_134 B.2.2.2.2.1) dX2_remember_45 ?_
      refine lv_iconst (v := 1) B.1 B.2.1 dX2_remember_48 (by decide) ?_
      refine lv_iadd B.1 B.2.1 dX2_remember_49 ?_
      refine lv_bipush (v := 12) B.1 B.2.1 dX2_remember_50 (by decide) ?_
      refine c_S_I (own := RX2) (As := [.int ((h10 a0 2) + 1), .int 12]) (rest := [.ref (zA Z a0)]) B hH (cy_J9_min_7cf53 B.2.2.2.2.1) (ct_J9_min_7cf53 B.2.2.2.2.2.2.2 l ((h10 a0 2) + 1) 12 h10 _ _  hw) ⟨⟨rfl, rfl⟩, Nat.le_of_ble_eq_true rfl, Nat.le_of_ble_eq_true rfl, Nat.zero_le _, Nat.zero_le _⟩ (tw_777 B.2.2.2.2.1) rfl hl.1 rfl (Nat.le_of_ble_eq_true rfl) dX2_remember_52 ?_
      clear hw hH
      intro r12 h11 H locs hw hH
      refine r_put B hH (own := RX2) (kd_n B (k0) (by decide) (by decide)) (ct_6 (k0)) rfl (ul_6 B.2.2.2.2.1) tyX2 tyX2_ok nmX2 2 (by decide) (ty := .int) rfl rfl rfl rfl (Nat.le_of_ble_eq_true rfl) (cs_6_2 (k0)) (tw_134 B.2.2.2.2.1) dX2_remember_55 ?_
      clear hH
      intro H locs hH
      obtain ⟨h13, eh13⟩ : ∃ z : PH, z = up2 h11 a0 2 r12 := ⟨_, rfl⟩
      rw [← eh13] at hH
      replace hw := hw h13 eh13
      exact e_v B hr hH hw dX2_remember_58
  · replace hw := hw.2 j3 c4
    have kj3 := kr2 j3 c4
    subst c4
    refine lv_aload_n B.1 B.2.1 dX2_remember_13 rfl (lv_at hl 0 rfl) ?_
    refine lv_aload_n B.1 B.2.1 dX2_remember_14 rfl (lv_at hl 2 rfl) ?_
    refine c_VN_V (own := RX2) (As := [.ref (zA Z a1)]) (rest := []) B hH (cy_X5_copyFrom B.2.2.2.2.1) (ct_X5_copyFrom B.2.2.2.2.2.2.2 l j3 a1 h1 _ _ (kj3) (k1) hw) ⟨⟨rfl, rfl⟩, Nat.le_of_ble_eq_true rfl, Nat.le_of_ble_eq_true rfl, Nat.zero_le _, Nat.zero_le _⟩ (rv_2 B hH (kj3)) (tw_756 B.2.2.2.2.1) rfl hl.1 rfl (Nat.le_of_ble_eq_true rfl) dX2_remember_15 ?_
    clear hw hH
    intro h14 H locs hw hH
    refine lv_aload_n B.1 B.2.1 dX2_remember_18 rfl (lv_at hl 1 rfl) ?_
    refine lv_aload_n B.1 B.2.1 dX2_remember_19 rfl (lv_at hl 1 rfl) ?_
    refine r_get B hH (own := RX2) (kd_n B (k0) (by decide) (by decide)) (ct_6 (k0)) rfl (ul_6 B.2.2.2.2.1) 1 (by decide) rfl (tw_133 B.2.2.2.2.1) dX2_remember_20 ?_
    refine lv_iconst (v := 1) B.1 B.2.1 dX2_remember_23 (by decide) ?_
    refine lv_iadd B.1 B.2.1 dX2_remember_24 ?_
    refine lv_bipush (v := 12) B.1 B.2.1 dX2_remember_25 (by decide) ?_
    refine lv_icmp_ge (tgt := 39) B.1 B.2.1 dX2_remember_27 (by decide) (fun c15 => ?_) (fun c15 => ?_)
    · replace hw := hw.1 c15
      refine lv_iconst (v := 0) B.1 B.2.1 dX2_remember_39 (by decide) ?_
      refine r_put B hH (own := RX2) (kd_n B (k0) (by decide) (by decide)) (ct_6 (k0)) rfl (ul_6 B.2.2.2.2.1) tyX2 tyX2_ok nmX2 1 (by decide) (ty := .int) rfl rfl rfl rfl (Nat.le_of_ble_eq_true rfl) (cs_6_1 (k0)) (tw_133 B.2.2.2.2.1) dX2_remember_40 ?_
      clear hH
      intro H locs hH
      obtain ⟨h16, eh16⟩ : ∃ z : PH, z = up2 h14 a0 1 0 := ⟨_, rfl⟩
      rw [← eh16] at hH
      replace hw := hw h16 eh16
      refine lv_aload_n B.1 B.2.1 dX2_remember_43 rfl (lv_at hl 1 rfl) ?_
      refine lv_aload_n B.1 B.2.1 dX2_remember_44 rfl (lv_at hl 1 rfl) ?_
      refine r_get B hH (own := RX2) (kd_n B (k0) (by decide) (by decide)) (ct_6 (k0)) rfl (ul_6 B.2.2.2.2.1) 2 (by decide) rfl (tw_134 B.2.2.2.2.1) dX2_remember_45 ?_
      refine lv_iconst (v := 1) B.1 B.2.1 dX2_remember_48 (by decide) ?_
      refine lv_iadd B.1 B.2.1 dX2_remember_49 ?_
      refine lv_bipush (v := 12) B.1 B.2.1 dX2_remember_50 (by decide) ?_
      refine c_S_I (own := RX2) (As := [.int ((h16 a0 2) + 1), .int 12]) (rest := [.ref (zA Z a0)]) B hH (cy_J9_min_7cf53 B.2.2.2.2.1) (ct_J9_min_7cf53 B.2.2.2.2.2.2.2 l ((h16 a0 2) + 1) 12 h16 _ _  hw) ⟨⟨rfl, rfl⟩, Nat.le_of_ble_eq_true rfl, Nat.le_of_ble_eq_true rfl, Nat.zero_le _, Nat.zero_le _⟩ (tw_777 B.2.2.2.2.1) rfl hl.1 rfl (Nat.le_of_ble_eq_true rfl) dX2_remember_52 ?_
      clear hw hH
      intro r18 h17 H locs hw hH
      refine r_put B hH (own := RX2) (kd_n B (k0) (by decide) (by decide)) (ct_6 (k0)) rfl (ul_6 B.2.2.2.2.1) tyX2 tyX2_ok nmX2 2 (by decide) (ty := .int) rfl rfl rfl rfl (Nat.le_of_ble_eq_true rfl) (cs_6_2 (k0)) (tw_134 B.2.2.2.2.1) dX2_remember_55 ?_
      clear hH
      intro H locs hH
      obtain ⟨h19, eh19⟩ : ∃ z : PH, z = up2 h17 a0 2 r18 := ⟨_, rfl⟩
      rw [← eh19] at hH
      replace hw := hw h19 eh19
      exact e_v B hr hH hw dX2_remember_58
    · replace hw := hw.2 c15
      refine lv_aload_n B.1 B.2.1 dX2_remember_30 rfl (lv_at hl 1 rfl) ?_
      refine r_get B hH (own := RX2) (kd_n B (k0) (by decide) (by decide)) (ct_6 (k0)) rfl (ul_6 B.2.2.2.2.1) 1 (by decide) rfl (tw_133 B.2.2.2.2.1) dX2_remember_31 ?_
      refine lv_iconst (v := 1) B.1 B.2.1 dX2_remember_34 (by decide) ?_
      refine lv_iadd B.1 B.2.1 dX2_remember_35 ?_
      refine lv_goto (tgt := 40) B.1 B.2.1 dX2_remember_36 (by decide) ?_
      refine r_put B hH (own := RX2) (kd_n B (k0) (by decide) (by decide)) (ct_6 (k0)) rfl (ul_6 B.2.2.2.2.1) tyX2 tyX2_ok nmX2 1 (by decide) (ty := .int) rfl rfl rfl rfl (Nat.le_of_ble_eq_true rfl) (cs_6_1 (k0)) (tw_133 B.2.2.2.2.1) dX2_remember_40 ?_
      clear hH
      intro H locs hH
      obtain ⟨h20, eh20⟩ : ∃ z : PH, z = up2 h14 a0 1 ((h14 a0 1) + 1) := ⟨_, rfl⟩
      rw [← eh20] at hH
      replace hw := hw h20 eh20
      refine lv_aload_n B.1 B.2.1 dX2_remember_43 rfl (lv_at hl 1 rfl) ?_
      refine lv_aload_n B.1 B.2.1 dX2_remember_44 rfl (lv_at hl 1 rfl) ?_
      refine r_get B hH (own := RX2) (kd_n B (k0) (by decide) (by decide)) (ct_6 (k0)) rfl (ul_6 B.2.2.2.2.1) 2 (by decide) rfl (tw_134 B.2.2.2.2.1) dX2_remember_45 ?_
      refine lv_iconst (v := 1) B.1 B.2.1 dX2_remember_48 (by decide) ?_
      refine lv_iadd B.1 B.2.1 dX2_remember_49 ?_
      refine lv_bipush (v := 12) B.1 B.2.1 dX2_remember_50 (by decide) ?_
      refine c_S_I (own := RX2) (As := [.int ((h20 a0 2) + 1), .int 12]) (rest := [.ref (zA Z a0)]) B hH (cy_J9_min_7cf53 B.2.2.2.2.1) (ct_J9_min_7cf53 B.2.2.2.2.2.2.2 l ((h20 a0 2) + 1) 12 h20 _ _  hw) ⟨⟨rfl, rfl⟩, Nat.le_of_ble_eq_true rfl, Nat.le_of_ble_eq_true rfl, Nat.zero_le _, Nat.zero_le _⟩ (tw_777 B.2.2.2.2.1) rfl hl.1 rfl (Nat.le_of_ble_eq_true rfl) dX2_remember_52 ?_
      clear hw hH
      intro r22 h21 H locs hw hH
      refine r_put B hH (own := RX2) (kd_n B (k0) (by decide) (by decide)) (ct_6 (k0)) rfl (ul_6 B.2.2.2.2.1) tyX2 tyX2_ok nmX2 2 (by decide) (ty := .int) rfl rfl rfl rfl (Nat.le_of_ble_eq_true rfl) (cs_6_2 (k0)) (tw_134 B.2.2.2.2.1) dX2_remember_55 ?_
      clear hH
      intro H locs hH
      obtain ⟨h23, eh23⟩ : ∃ z : PH, z = up2 h21 a0 2 r22 := ⟨_, rfl⟩
      rw [← eh23] at hH
      replace hw := hw h23 eh23
      exact e_v B hr hH hw dX2_remember_58
theorem cy_X2_takeBack {s : State} {args : Array Value} (hG : GG s) : CYV s args yX2_takeBack cX2_takeBack 3 (some .int) 1 := CYV.of hG (fun _ _ hG => tw_846 hG) (tw_5 hG) (tw_845 hG) (tp_57 hG) (by decide +kernel)
set_option maxRecDepth 100000 in
set_option maxHeartbeats 4000000 in
theorem ct_X2_takeBack {Z : ZT} (hZ : ZO Z) (l : Launch) (a0 : Nat) (a1 : Nat) (h : PH) (sz : Nat) (Q : Int32 → PH → Prop) (k0 : kd a0 = 6) (k1 : kd a1 = 2) (hw : wp_X2_takeBack a0 a1 h Q) : MI Z l yX2_takeBack cX2_takeBack 3 (some .int) ({ frames := 4, cells := 0, slots := 0, locals := 94 } : Room) h sz [.ref (zA Z a0), .ref (zA Z a1)] Q := by
  refine open_M hZ (by decide +kernel) (by exact Nat.le_of_ble_eq_true rfl) ?_
  intro p e s m below meth c B hr hsz ls hl hH
  subst hsz
  have hl : lv_has ls 3 [(0, .ref (zA Z a0)), (1, .ref (zA Z a1))] := hl
  unfold wp_X2_takeBack at hw
  refine lv_aload_n B.1 B.2.1 dX2_takeBack_0 rfl (lv_at hl 0 rfl) ?_
  refine lv_aload_n B.1 B.2.1 dX2_takeBack_1 rfl (lv_at hl 0 rfl) ?_
  refine r_get B hH (own := RX2) (kd_n B (k0) (by decide) (by decide)) (ct_6 (k0)) rfl (ul_6 B.2.2.2.2.1) 1 (by decide) rfl (tw_133 B.2.2.2.2.1) dX2_takeBack_2 ?_
  refine lv_if_le (tgt := 17) B.1 B.2.1 dX2_takeBack_5 (by decide) (fun c1 => ?_) (fun c1 => ?_)
  · replace hw := hw.1 c1
    refine lv_bipush (v := 11) B.1 B.2.1 dX2_takeBack_17 (by decide) ?_
    refine r_put B hH (own := RX2) (kd_n B (k0) (by decide) (by decide)) (ct_6 (k0)) rfl (ul_6 B.2.2.2.2.1) tyX2 tyX2_ok nmX2 1 (by decide) (ty := .int) rfl rfl rfl rfl (Nat.le_of_ble_eq_true rfl) (cs_6_1 (k0)) (tw_133 B.2.2.2.2.1) dX2_takeBack_19 ?_
    clear hH
    intro H locs hH
    obtain ⟨h2, eh2⟩ : ∃ z : PH, z = up2 h a0 1 11 := ⟨_, rfl⟩
    rw [← eh2] at hH
    replace hw := hw h2 eh2
    refine lv_aload_n B.1 B.2.1 dX2_takeBack_22 rfl (lv_at hl 0 rfl) ?_
    refine lv_dup B.1 B.2.1 dX2_takeBack_23 rfl ?_
    refine r_get B hH (own := RX2) (kd_n B (k0) (by decide) (by decide)) (ct_6 (k0)) rfl (ul_6 B.2.2.2.2.1) 2 (by decide) rfl (tw_134 B.2.2.2.2.1) dX2_takeBack_24 ?_
    refine lv_iconst (v := 1) B.1 B.2.1 dX2_takeBack_27 (by decide) ?_
    refine lv_isub B.1 B.2.1 dX2_takeBack_28 ?_
    refine r_put B hH (own := RX2) (kd_n B (k0) (by decide) (by decide)) (ct_6 (k0)) rfl (ul_6 B.2.2.2.2.1) tyX2 tyX2_ok nmX2 2 (by decide) (ty := .int) rfl rfl rfl rfl (Nat.le_of_ble_eq_true rfl) (cs_6_2 (k0)) (tw_134 B.2.2.2.2.1) dX2_takeBack_29 ?_
    clear hH
    intro H locs hH
    obtain ⟨h3, eh3⟩ : ∃ z : PH, z = up2 h2 a0 2 ((h2 a0 2) - 1) := ⟨_, rfl⟩
    rw [← eh3] at hH
    replace hw := hw h3 eh3
    refine lv_aload_n B.1 B.2.1 dX2_takeBack_32 rfl (lv_at hl 0 rfl) ?_
    refine lv_aload_n B.1 B.2.1 dX2_takeBack_33 rfl (lv_at hl 0 rfl) ?_
    refine r_get B hH (own := RX2) (kd_n B (k0) (by decide) (by decide)) (ct_6 (k0)) rfl (ul_6 B.2.2.2.2.1) 1 (by decide) rfl (tw_133 B.2.2.2.2.1) dX2_takeBack_34 ?_
    refine c_V_O (own := RX2) (As := [.int (h3 a0 1)]) (rest := []) B hH (cy_X2_stateAt B.2.2.2.2.1) (ct_X2_stateAt B.2.2.2.2.2.2.2 l a0 (h3 a0 1) h3 _ _ (k0) hw) ⟨⟨rfl, rfl⟩, Nat.le_of_ble_eq_true rfl, Nat.le_of_ble_eq_true rfl, Nat.zero_le _, Nat.zero_le _⟩ (rv_6 B hH (k0)) (tw_751 B.2.2.2.2.1) rfl hl.1 rfl (Nat.le_of_ble_eq_true rfl) dX2_takeBack_37 ?_
    clear hw hH
    intro r5 h4 H locs hw hH
    have kr5 := hw.2
    replace hw := hw.1
    refine x_astore_n (lv' := [(2, va_re (zA Z) r5), (0, .ref (zA Z a0)), (1, .ref (zA Z a1))]) B dX2_takeBack_40 rfl hl (by decide) (by first | rfl | simp [va_re_cat]) ?_
    clear hl
    intro ls hl
    refine x_aload_n B dX2_takeBack_41 rfl (lv_at hl 0 rfl) ?_
    refine x_ifnull (tgt := 50) B dX2_takeBack_42 (by decide) (fun c7 => ?_) (fun j6 c7 => ?_)
    · replace hw := hw.1 c7
      subst c7
      refine lv_aload_n B.1 B.2.1 dX2_takeBack_50 rfl (lv_at hl 1 rfl) ?_
      refine r_get B hH (own := RX2) (kd_n B (k0) (by decide) (by decide)) (ct_6 (k0)) rfl (ul_6 B.2.2.2.2.1) 2 (by decide) rfl (tw_134 B.2.2.2.2.1) dX2_takeBack_51 ?_
      exact e_i B hr hH hw dX2_takeBack_54
    · replace hw := hw.2 j6 c7
      have kj6 := kr5 j6 c7
      subst c7
      refine lv_aload_n B.1 B.2.1 dX2_takeBack_45 rfl (lv_at hl 2 rfl) ?_
      refine lv_aload_n B.1 B.2.1 dX2_takeBack_46 rfl (lv_at hl 0 rfl) ?_
      refine c_VN_V (own := RX2) (As := [.ref (zA Z j6)]) (rest := []) B hH (cy_X5_copyFrom B.2.2.2.2.1) (ct_X5_copyFrom B.2.2.2.2.2.2.2 l a1 j6 h4 _ _ (k1) (kj6) hw) ⟨⟨rfl, rfl⟩, Nat.le_of_ble_eq_true rfl, Nat.le_of_ble_eq_true rfl, Nat.zero_le _, Nat.zero_le _⟩ (rv_2 B hH (k1)) (tw_756 B.2.2.2.2.1) rfl hl.1 rfl (Nat.le_of_ble_eq_true rfl) dX2_takeBack_47 ?_
      clear hw hH
      intro h8 H locs hw hH
      refine lv_aload_n B.1 B.2.1 dX2_takeBack_50 rfl (lv_at hl 1 rfl) ?_
      refine r_get B hH (own := RX2) (kd_n B (k0) (by decide) (by decide)) (ct_6 (k0)) rfl (ul_6 B.2.2.2.2.1) 2 (by decide) rfl (tw_134 B.2.2.2.2.1) dX2_takeBack_51 ?_
      exact e_i B hr hH hw dX2_takeBack_54
  · replace hw := hw.2 c1
    refine lv_aload_n B.1 B.2.1 dX2_takeBack_8 rfl (lv_at hl 0 rfl) ?_
    refine r_get B hH (own := RX2) (kd_n B (k0) (by decide) (by decide)) (ct_6 (k0)) rfl (ul_6 B.2.2.2.2.1) 1 (by decide) rfl (tw_133 B.2.2.2.2.1) dX2_takeBack_9 ?_
    refine lv_iconst (v := 1) B.1 B.2.1 dX2_takeBack_12 (by decide) ?_
    refine lv_isub B.1 B.2.1 dX2_takeBack_13 ?_
    refine lv_goto (tgt := 19) B.1 B.2.1 dX2_takeBack_14 (by decide) ?_
    refine r_put B hH (own := RX2) (kd_n B (k0) (by decide) (by decide)) (ct_6 (k0)) rfl (ul_6 B.2.2.2.2.1) tyX2 tyX2_ok nmX2 1 (by decide) (ty := .int) rfl rfl rfl rfl (Nat.le_of_ble_eq_true rfl) (cs_6_1 (k0)) (tw_133 B.2.2.2.2.1) dX2_takeBack_19 ?_
    clear hH
    intro H locs hH
    obtain ⟨h9, eh9⟩ : ∃ z : PH, z = up2 h a0 1 ((h a0 1) - 1) := ⟨_, rfl⟩
    rw [← eh9] at hH
    replace hw := hw h9 eh9
    refine lv_aload_n B.1 B.2.1 dX2_takeBack_22 rfl (lv_at hl 0 rfl) ?_
    refine lv_dup B.1 B.2.1 dX2_takeBack_23 rfl ?_
    refine r_get B hH (own := RX2) (kd_n B (k0) (by decide) (by decide)) (ct_6 (k0)) rfl (ul_6 B.2.2.2.2.1) 2 (by decide) rfl (tw_134 B.2.2.2.2.1) dX2_takeBack_24 ?_
    refine lv_iconst (v := 1) B.1 B.2.1 dX2_takeBack_27 (by decide) ?_
    refine lv_isub B.1 B.2.1 dX2_takeBack_28 ?_
    refine r_put B hH (own := RX2) (kd_n B (k0) (by decide) (by decide)) (ct_6 (k0)) rfl (ul_6 B.2.2.2.2.1) tyX2 tyX2_ok nmX2 2 (by decide) (ty := .int) rfl rfl rfl rfl (Nat.le_of_ble_eq_true rfl) (cs_6_2 (k0)) (tw_134 B.2.2.2.2.1) dX2_takeBack_29 ?_
    clear hH
    intro H locs hH
    obtain ⟨h10, eh10⟩ : ∃ z : PH, z = up2 h9 a0 2 ((h9 a0 2) - 1) := ⟨_, rfl⟩
    rw [← eh10] at hH
    replace hw := hw h10 eh10
    refine lv_aload_n B.1 B.2.1 dX2_takeBack_32 rfl (lv_at hl 0 rfl) ?_
    refine lv_aload_n B.1 B.2.1 dX2_takeBack_33 rfl (lv_at hl 0 rfl) ?_
    refine r_get B hH (own := RX2) (kd_n B (k0) (by decide) (by decide)) (ct_6 (k0)) rfl (ul_6 B.2.2.2.2.1) 1 (by decide) rfl (tw_133 B.2.2.2.2.1) dX2_takeBack_34 ?_
    refine c_V_O (own := RX2) (As := [.int (h10 a0 1)]) (rest := []) B hH (cy_X2_stateAt B.2.2.2.2.1) (ct_X2_stateAt B.2.2.2.2.2.2.2 l a0 (h10 a0 1) h10 _ _ (k0) hw) ⟨⟨rfl, rfl⟩, Nat.le_of_ble_eq_true rfl, Nat.le_of_ble_eq_true rfl, Nat.zero_le _, Nat.zero_le _⟩ (rv_6 B hH (k0)) (tw_751 B.2.2.2.2.1) rfl hl.1 rfl (Nat.le_of_ble_eq_true rfl) dX2_takeBack_37 ?_
    clear hw hH
    intro r12 h11 H locs hw hH
    have kr12 := hw.2
    replace hw := hw.1
    refine x_astore_n (lv' := [(2, va_re (zA Z) r12), (0, .ref (zA Z a0)), (1, .ref (zA Z a1))]) B dX2_takeBack_40 rfl hl (by decide) (by first | rfl | simp [va_re_cat]) ?_
    clear hl
    intro ls hl
    refine x_aload_n B dX2_takeBack_41 rfl (lv_at hl 0 rfl) ?_
    refine x_ifnull (tgt := 50) B dX2_takeBack_42 (by decide) (fun c14 => ?_) (fun j13 c14 => ?_)
    · replace hw := hw.1 c14
      subst c14
      refine lv_aload_n B.1 B.2.1 dX2_takeBack_50 rfl (lv_at hl 1 rfl) ?_
      refine r_get B hH (own := RX2) (kd_n B (k0) (by decide) (by decide)) (ct_6 (k0)) rfl (ul_6 B.2.2.2.2.1) 2 (by decide) rfl (tw_134 B.2.2.2.2.1) dX2_takeBack_51 ?_
      exact e_i B hr hH hw dX2_takeBack_54
    · replace hw := hw.2 j13 c14
      have kj13 := kr12 j13 c14
      subst c14
      refine lv_aload_n B.1 B.2.1 dX2_takeBack_45 rfl (lv_at hl 2 rfl) ?_
      refine lv_aload_n B.1 B.2.1 dX2_takeBack_46 rfl (lv_at hl 0 rfl) ?_
      refine c_VN_V (own := RX2) (As := [.ref (zA Z j13)]) (rest := []) B hH (cy_X5_copyFrom B.2.2.2.2.1) (ct_X5_copyFrom B.2.2.2.2.2.2.2 l a1 j13 h11 _ _ (k1) (kj13) hw) ⟨⟨rfl, rfl⟩, Nat.le_of_ble_eq_true rfl, Nat.le_of_ble_eq_true rfl, Nat.zero_le _, Nat.zero_le _⟩ (rv_2 B hH (k1)) (tw_756 B.2.2.2.2.1) rfl hl.1 rfl (Nat.le_of_ble_eq_true rfl) dX2_takeBack_47 ?_
      clear hw hH
      intro h15 H locs hw hH
      refine lv_aload_n B.1 B.2.1 dX2_takeBack_50 rfl (lv_at hl 1 rfl) ?_
      refine r_get B hH (own := RX2) (kd_n B (k0) (by decide) (by decide)) (ct_6 (k0)) rfl (ul_6 B.2.2.2.2.1) 2 (by decide) rfl (tw_134 B.2.2.2.2.1) dX2_takeBack_51 ?_
      exact e_i B hr hH hw dX2_takeBack_54
theorem cy_X3_begin {s : State} {args : Array Value} (hG : GG s) : CYV s args yX3_begin cX3_begin 3 none 1 := CYV.of hG (fun _ _ hG => tw_529 hG) (tw_3 hG) (tw_528 hG) (tp_25 hG) (by decide +kernel)
set_option maxRecDepth 100000 in
set_option maxHeartbeats 4000000 in
theorem ct_X3_begin {Z : ZT} (hZ : ZO Z) (l : Launch) (a0 : Nat) (a1 : Int32) (h : PH) (sz : Nat) (Q : PH → Prop) (k0 : kd a0 = 3) (hw : wp_X3_begin a0 a1 h Q) : MV Z l yX3_begin cX3_begin 3 none ({ frames := 0, cells := 0, slots := 0, locals := 0 } : Room) h sz [.ref (zA Z a0), .int a1] Q := by
  refine open_M hZ (by decide +kernel) (by exact Nat.le_of_ble_eq_true rfl) ?_
  intro p e s m below meth c B hr hsz ls hl hH
  subst hsz
  have hl : lv_has ls 3 [(0, .ref (zA Z a0)), (1, .int a1)] := hl
  unfold wp_X3_begin at hw
  have L7 : ∀ (b0 : Nat), kd b0 = 3 → ∀ (n : Nat) (b2 : Int32) (h : PH), ∀ (H : Heap) (locs : List Loc) (ls : Array Slot), wp_X3_begin_b7 b0 Q n b2 h → HH Z s h H locs → lv_has ls 3 [(0, .ref (zA Z b0)), (2, .int b2)] → W p l e ({ frames := 0, cells := 0, slots := 0, locals := 0 } : Room) s m ([.ref (zA Z a0), .int a1]).toArray below meth c H locs 0 0 (MQ below (va_Qv Q (BZ Z) (fr Z s.heap.size)) ([.ref (zA Z a0), .int a1]).toArray s 0 0 (fr Z s.heap.size)) (F0 m 7 ls []) := by
    intro b0 kb0 n
    induction n with
    | zero => intro b2 h H locs ls hw hH hl; exact absurd hw id
    | succ n ih =>
      intro b2 h H locs ls hw hH hl
      unfold wp_X3_begin_b7 at hw
      refine lv_iload_n B.1 B.2.1 dX3_begin_7 rfl (lv_at hl 1 rfl) ?_
      refine lv_aload_n B.1 B.2.1 dX3_begin_8 rfl (lv_at hl 0 rfl) ?_
      refine r_get B hH (own := RX3) (kd_n B (kb0) (by decide) (by decide)) (ct_3 (kb0)) rfl (ul_3 B.2.2.2.2.1) 0 (by decide) rfl (tw_43 B.2.2.2.2.1) dX3_begin_9 ?_
      refine r_alen B hH (kf_3_0 (kb0)) dX3_begin_12 ?_
      refine lv_icmp_ge (tgt := 29) B.1 B.2.1 dX3_begin_13 (by decide) (fun c2 => ?_) (fun c2 => ?_)
      · replace hw := hw.1 c2
        exact e_v B hr hH hw dX3_begin_29
      · replace hw := hw.2 c2
        refine lv_aload_n B.1 B.2.1 dX3_begin_16 rfl (lv_at hl 0 rfl) ?_
        refine r_get B hH (own := RX3) (kd_n B (kb0) (by decide) (by decide)) (ct_3 (kb0)) rfl (ul_3 B.2.2.2.2.1) 0 (by decide) rfl (tw_43 B.2.2.2.2.1) dX3_begin_17 ?_
        refine lv_iload_n B.1 B.2.1 dX3_begin_20 rfl (lv_at hl 1 rfl) ?_
        refine lv_iconst (v := 0) B.1 B.2.1 dX3_begin_21 (by decide) ?_
        have q3 := hw.1
        replace hw := hw.2
        refine r_iast B hH (kf_3_0 (kb0)) q3 dX3_begin_22 ?_
        clear hH
        intro H locs hH
        obtain ⟨h4, eh4⟩ : ∃ z : PH, z = up2 h (b0 + 1) b2.toNatClampNeg 0 := ⟨_, rfl⟩
        rw [← eh4] at hH
        replace hw := hw h4 eh4
        obtain ⟨x5, ex5⟩ : ∃ y : Int32, y = b2 + 1 := ⟨_, rfl⟩
        replace hw := hw x5 ex5
        refine lv_iinc (v := x5) (lv' := [(2, .int x5), (0, .ref (zA Z b0))]) B.1 B.2.1 dX3_begin_23 hl (k := 1) rfl (by rw [ex5]; rfl) (by decide) (by first | rfl | simp [va_re_cat, Value.category]) ?_
        clear hl
        intro ls hl
        refine lv_goto (tgt := 7) B.1 B.2.1 dX3_begin_26 (by decide) ?_
        exact ih x5 h4  _ _ _ hw hH (lv_sub hl [1, 0] rfl)
  refine lv_aload_n B.1 B.2.1 dX3_begin_0 rfl (lv_at hl 0 rfl) ?_
  refine lv_iload_n B.1 B.2.1 dX3_begin_1 rfl (lv_at hl 1 rfl) ?_
  refine r_put B hH (own := RX3) (kd_n B (k0) (by decide) (by decide)) (ct_3 (k0)) rfl (ul_3 B.2.2.2.2.1) tyX3 tyX3_ok nmX3 1 (by decide) (ty := .int) rfl rfl rfl rfl (Nat.le_of_ble_eq_true rfl) (cs_3_1 (k0)) (tw_47 B.2.2.2.2.1) dX3_begin_2 ?_
  clear hH
  intro H locs hH
  obtain ⟨h1, eh1⟩ : ∃ z : PH, z = up2 h a0 1 a1 := ⟨_, rfl⟩
  rw [← eh1] at hH
  replace hw := hw h1 eh1
  refine lv_iconst (v := 0) B.1 B.2.1 dX3_begin_5 (by decide) ?_
  refine lv_istore_n (lv' := [(2, .int 0), (0, .ref (zA Z a0)), (1, .int a1)]) B.1 B.2.1 dX3_begin_6 rfl hl (by decide) (by first | rfl | simp [va_re_cat, Value.category]) ?_
  clear hl
  intro ls hl
  obtain ⟨n6, hw⟩ := hw
  exact L7 a0 (k0) n6 0 h1  _ _ _ hw hH (lv_sub hl [1, 0] rfl)
theorem cy_X3_hasCell {s : State} {args : Array Value} (hG : GG s) : CYV s args yX3_hasCell cX3_hasCell 2 (some .boolean) 1 := CYV.of hG (fun _ _ hG => tw_493 hG) (tw_3 hG) (tw_492 hG) (tp_20 hG) (by decide +kernel)
set_option maxRecDepth 100000 in
set_option maxHeartbeats 4000000 in
theorem ct_X3_hasCell {Z : ZT} (hZ : ZO Z) (l : Launch) (a0 : Nat) (a1 : Int32) (h : PH) (sz : Nat) (Q : Int32 → PH → Prop) (k0 : kd a0 = 3) (hw : wp_X3_hasCell a0 a1 h Q) : MI Z l yX3_hasCell cX3_hasCell 2 (some .boolean) ({ frames := 1, cells := 0, slots := 0, locals := 22 } : Room) h sz [.ref (zA Z a0), .int a1] Q := by
  refine open_M hZ (by decide +kernel) (by exact Nat.le_of_ble_eq_true rfl) ?_
  intro p e s m below meth c B hr hsz ls hl hH
  subst hsz
  have hl : lv_has ls 2 [(0, .ref (zA Z a0)), (1, .int a1)] := hl
  unfold wp_X3_hasCell at hw
  refine lv_iload_n B.1 B.2.1 dX3_hasCell_0 rfl (lv_at hl 1 rfl) ?_
  refine lv_iconst (v := 0) B.1 B.2.1 dX3_hasCell_1 (by decide) ?_
  refine lv_aload_n B.1 B.2.1 dX3_hasCell_2 rfl (lv_at hl 0 rfl) ?_
  refine r_get B hH (own := RX3) (kd_n B (k0) (by decide) (by decide)) (ct_3 (k0)) rfl (ul_3 B.2.2.2.2.1) 1 (by decide) rfl (tw_47 B.2.2.2.2.1) dX3_hasCell_3 ?_
  refine lv_iconst (v := 1) B.1 B.2.1 dX3_hasCell_6 (by decide) ?_
  refine lv_isub B.1 B.2.1 dX3_hasCell_7 ?_
  refine c_SN_I (own := RX3) (As := [.int a1, .int 0, .int ((h a0 1) - 1)]) (rest := []) B hH (cy_X7_outside B.2.2.2.2.1) (ct_X7_outside B.2.2.2.2.2.2.2 l a1 0 ((h a0 1) - 1) h _ _  hw) ⟨⟨rfl, rfl⟩, Nat.le_of_ble_eq_true rfl, Nat.le_of_ble_eq_true rfl, Nat.zero_le _, Nat.zero_le _⟩ (tw_494 B.2.2.2.2.1) rfl hl.1 rfl (Nat.le_of_ble_eq_true rfl) dX3_hasCell_8 ?_
  clear hw hH
  intro r2 h1 H locs hw hH
  refine lv_if_ne (tgt := 18) B.1 B.2.1 dX3_hasCell_11 (by decide) (fun c3 => ?_) (fun c3 => ?_)
  · replace hw := hw.1 c3
    refine lv_iconst (v := 0) B.1 B.2.1 dX3_hasCell_18 (by decide) ?_
    exact e_z B hr (by decide) hH hw dX3_hasCell_19
  · replace hw := hw.2 c3
    refine lv_iconst (v := 1) B.1 B.2.1 dX3_hasCell_14 (by decide) ?_
    refine lv_goto (tgt := 19) B.1 B.2.1 dX3_hasCell_15 (by decide) ?_
    exact e_z B hr (by decide) hH hw dX3_hasCell_19
theorem cy_X3_hasPlace {s : State} {args : Array Value} (hG : GG s) : CYV s args yX3_hasPlace cX3_hasPlace 2 (some .boolean) 1 := CYV.of hG (fun _ _ hG => tw_502 hG) (tw_3 hG) (tw_501 hG) (tp_21 hG) (by decide +kernel)
set_option maxRecDepth 100000 in
set_option maxHeartbeats 4000000 in
theorem ct_X3_hasPlace {Z : ZT} (hZ : ZO Z) (l : Launch) (a0 : Nat) (a1 : Int32) (h : PH) (sz : Nat) (Q : Int32 → PH → Prop) (k0 : kd a0 = 3) (hw : wp_X3_hasPlace a0 a1 h Q) : MI Z l yX3_hasPlace cX3_hasPlace 2 (some .boolean) ({ frames := 1, cells := 0, slots := 0, locals := 22 } : Room) h sz [.ref (zA Z a0), .int a1] Q := by
  refine open_M hZ (by decide +kernel) (by exact Nat.le_of_ble_eq_true rfl) ?_
  intro p e s m below meth c B hr hsz ls hl hH
  subst hsz
  have hl : lv_has ls 2 [(0, .ref (zA Z a0)), (1, .int a1)] := hl
  unfold wp_X3_hasPlace at hw
  refine lv_iload_n B.1 B.2.1 dX3_hasPlace_0 rfl (lv_at hl 1 rfl) ?_
  refine lv_iconst (v := 0) B.1 B.2.1 dX3_hasPlace_1 (by decide) ?_
  refine lv_aload_n B.1 B.2.1 dX3_hasPlace_2 rfl (lv_at hl 0 rfl) ?_
  refine r_get B hH (own := RX3) (kd_n B (k0) (by decide) (by decide)) (ct_3 (k0)) rfl (ul_3 B.2.2.2.2.1) 1 (by decide) rfl (tw_47 B.2.2.2.2.1) dX3_hasPlace_3 ?_
  refine c_SN_I (own := RX3) (As := [.int a1, .int 0, .int (h a0 1)]) (rest := []) B hH (cy_X7_outside B.2.2.2.2.1) (ct_X7_outside B.2.2.2.2.2.2.2 l a1 0 (h a0 1) h _ _  hw) ⟨⟨rfl, rfl⟩, Nat.le_of_ble_eq_true rfl, Nat.le_of_ble_eq_true rfl, Nat.zero_le _, Nat.zero_le _⟩ (tw_494 B.2.2.2.2.1) rfl hl.1 rfl (Nat.le_of_ble_eq_true rfl) dX3_hasPlace_6 ?_
  clear hw hH
  intro r2 h1 H locs hw hH
  refine lv_if_ne (tgt := 16) B.1 B.2.1 dX3_hasPlace_9 (by decide) (fun c3 => ?_) (fun c3 => ?_)
  · replace hw := hw.1 c3
    refine lv_iconst (v := 0) B.1 B.2.1 dX3_hasPlace_16 (by decide) ?_
    exact e_z B hr (by decide) hH hw dX3_hasPlace_17
  · replace hw := hw.2 c3
    refine lv_iconst (v := 1) B.1 B.2.1 dX3_hasPlace_12 (by decide) ?_
    refine lv_goto (tgt := 17) B.1 B.2.1 dX3_hasPlace_13 (by decide) ?_
    exact e_z B hr (by decide) hH hw dX3_hasPlace_17
theorem cy_X3_isSilent {s : State} {args : Array Value} (hG : GG s) : CYV s args yX3_isSilent cX3_isSilent 2 (some .boolean) 1 := CYV.of hG (fun _ _ hG => tw_656 hG) (tw_3 hG) (tw_655 hG) (tp_44 hG) (by decide +kernel)
set_option maxRecDepth 100000 in
set_option maxHeartbeats 4000000 in
theorem ct_X3_isSilent {Z : ZT} (hZ : ZO Z) (l : Launch) (a0 : Nat) (a1 : Int32) (h : PH) (sz : Nat) (Q : Int32 → PH → Prop) (k0 : kd a0 = 3) (hw : wp_X3_isSilent a0 a1 h Q) : MI Z l yX3_isSilent cX3_isSilent 2 (some .boolean) ({ frames := 1, cells := 0, slots := 0, locals := 21 } : Room) h sz [.ref (zA Z a0), .int a1] Q := by
  refine open_M hZ (by decide +kernel) (by exact Nat.le_of_ble_eq_true rfl) ?_
  intro p e s m below meth c B hr hsz ls hl hH
  subst hsz
  have hl : lv_has ls 2 [(0, .ref (zA Z a0)), (1, .int a1)] := hl
  unfold wp_X3_isSilent at hw
  refine lv_aload_n B.1 B.2.1 dX3_isSilent_0 rfl (lv_at hl 0 rfl) ?_
  refine r_get B hH (own := RX3) (kd_n B (k0) (by decide) (by decide)) (ct_3 (k0)) rfl (ul_3 B.2.2.2.2.1) 0 (by decide) rfl (tw_43 B.2.2.2.2.1) dX3_isSilent_1 ?_
  refine lv_iload_n B.1 B.2.1 dX3_isSilent_4 rfl (lv_at hl 1 rfl) ?_
  refine c_SN_I (own := RX3) (As := [.ref (zA Z (a0 + 1)), .int a1]) (rest := []) B hH (cy_X7_get B.2.2.2.2.1) (ct_X7_get B.2.2.2.2.2.2.2 l (a0 + 1) a1 h _ _ (kf_3_0 (k0)) hw) ⟨⟨rfl, rfl⟩, Nat.le_of_ble_eq_true rfl, Nat.le_of_ble_eq_true rfl, Nat.zero_le _, Nat.zero_le _⟩ (tw_517 B.2.2.2.2.1) rfl hl.1 rfl (Nat.le_of_ble_eq_true rfl) dX3_isSilent_5 ?_
  clear hw hH
  intro r2 h1 H locs hw hH
  refine lv_if_ne (tgt := 15) B.1 B.2.1 dX3_isSilent_8 (by decide) (fun c3 => ?_) (fun c3 => ?_)
  · replace hw := hw.1 c3
    refine lv_iconst (v := 0) B.1 B.2.1 dX3_isSilent_15 (by decide) ?_
    exact e_z B hr (by decide) hH hw dX3_isSilent_16
  · replace hw := hw.2 c3
    refine lv_iconst (v := 1) B.1 B.2.1 dX3_isSilent_11 (by decide) ?_
    refine lv_goto (tgt := 16) B.1 B.2.1 dX3_isSilent_12 (by decide) ?_
    exact e_z B hr (by decide) hH hw dX3_isSilent_16
theorem cy_X3_isQuiet {s : State} {args : Array Value} (hG : GG s) : CYV s args yX3_isQuiet cX3_isQuiet 2 (some .boolean) 1 := CYV.of hG (fun _ _ hG => tw_516 hG) (tw_3 hG) (tw_515 hG) (tp_22 hG) (by decide +kernel)
set_option maxRecDepth 100000 in
set_option maxHeartbeats 4000000 in
theorem ct_X3_isQuiet {Z : ZT} (hZ : ZO Z) (l : Launch) (a0 : Nat) (a1 : Int32) (h : PH) (sz : Nat) (Q : Int32 → PH → Prop) (k0 : kd a0 = 3) (hw : wp_X3_isQuiet a0 a1 h Q) : MI Z l yX3_isQuiet cX3_isQuiet 2 (some .boolean) ({ frames := 1, cells := 0, slots := 0, locals := 21 } : Room) h sz [.ref (zA Z a0), .int a1] Q := by
  refine open_M hZ (by decide +kernel) (by exact Nat.le_of_ble_eq_true rfl) ?_
  intro p e s m below meth c B hr hsz ls hl hH
  subst hsz
  have hl : lv_has ls 2 [(0, .ref (zA Z a0)), (1, .int a1)] := hl
  unfold wp_X3_isQuiet at hw
  refine lv_iload_n B.1 B.2.1 dX3_isQuiet_0 rfl (lv_at hl 1 rfl) ?_
  refine lv_if_eq (tgt := 36) B.1 B.2.1 dX3_isQuiet_1 (by decide) (fun c1 => ?_) (fun c1 => ?_)
  · replace hw := hw.1 c1
    refine lv_iconst (v := 1) B.1 B.2.1 dX3_isQuiet_36 (by decide) ?_
    refine lv_goto (tgt := 41) B.1 B.2.1 dX3_isQuiet_37 (by decide) ?_
    exact e_z B hr (by decide) hH hw dX3_isQuiet_41
  · replace hw := hw.2 c1
    refine lv_iload_n B.1 B.2.1 dX3_isQuiet_4 rfl (lv_at hl 1 rfl) ?_
    refine lv_aload_n B.1 B.2.1 dX3_isQuiet_5 rfl (lv_at hl 0 rfl) ?_
    refine r_get B hH (own := RX3) (kd_n B (k0) (by decide) (by decide)) (ct_3 (k0)) rfl (ul_3 B.2.2.2.2.1) 1 (by decide) rfl (tw_47 B.2.2.2.2.1) dX3_isQuiet_6 ?_
    refine lv_icmp_eq (tgt := 36) B.1 B.2.1 dX3_isQuiet_9 (by decide) (fun c2 => ?_) (fun c2 => ?_)
    · replace hw := hw.1 c2
      refine lv_iconst (v := 1) B.1 B.2.1 dX3_isQuiet_36 (by decide) ?_
      refine lv_goto (tgt := 41) B.1 B.2.1 dX3_isQuiet_37 (by decide) ?_
      exact e_z B hr (by decide) hH hw dX3_isQuiet_41
    · replace hw := hw.2 c2
      refine lv_aload_n B.1 B.2.1 dX3_isQuiet_12 rfl (lv_at hl 0 rfl) ?_
      refine r_get B hH (own := RX3) (kd_n B (k0) (by decide) (by decide)) (ct_3 (k0)) rfl (ul_3 B.2.2.2.2.1) 0 (by decide) rfl (tw_43 B.2.2.2.2.1) dX3_isQuiet_13 ?_
      refine lv_iload_n B.1 B.2.1 dX3_isQuiet_16 rfl (lv_at hl 1 rfl) ?_
      refine lv_iconst (v := 1) B.1 B.2.1 dX3_isQuiet_17 (by decide) ?_
      refine lv_isub B.1 B.2.1 dX3_isQuiet_18 ?_
      refine c_SN_I (own := RX3) (As := [.ref (zA Z (a0 + 1)), .int (a1 - 1)]) (rest := []) B hH (cy_X7_get B.2.2.2.2.1) (ct_X7_get B.2.2.2.2.2.2.2 l (a0 + 1) (a1 - 1) h _ _ (kf_3_0 (k0)) hw) ⟨⟨rfl, rfl⟩, Nat.le_of_ble_eq_true rfl, Nat.le_of_ble_eq_true rfl, Nat.zero_le _, Nat.zero_le _⟩ (tw_517 B.2.2.2.2.1) rfl hl.1 rfl (Nat.le_of_ble_eq_true rfl) dX3_isQuiet_19 ?_
      clear hw hH
      intro r4 h3 H locs hw hH
      refine lv_if_ne (tgt := 40) B.1 B.2.1 dX3_isQuiet_22 (by decide) (fun c5 => ?_) (fun c5 => ?_)
      · replace hw := hw.1 c5
        refine lv_iconst (v := 0) B.1 B.2.1 dX3_isQuiet_40 (by decide) ?_
        exact e_z B hr (by decide) hH hw dX3_isQuiet_41
      · replace hw := hw.2 c5
        refine lv_aload_n B.1 B.2.1 dX3_isQuiet_25 rfl (lv_at hl 0 rfl) ?_
        refine r_get B hH (own := RX3) (kd_n B (k0) (by decide) (by decide)) (ct_3 (k0)) rfl (ul_3 B.2.2.2.2.1) 0 (by decide) rfl (tw_43 B.2.2.2.2.1) dX3_isQuiet_26 ?_
        refine lv_iload_n B.1 B.2.1 dX3_isQuiet_29 rfl (lv_at hl 1 rfl) ?_
        refine c_SN_I (own := RX3) (As := [.ref (zA Z (a0 + 1)), .int a1]) (rest := []) B hH (cy_X7_get B.2.2.2.2.1) (ct_X7_get B.2.2.2.2.2.2.2 l (a0 + 1) a1 h3 _ _ (kf_3_0 (k0)) hw) ⟨⟨rfl, rfl⟩, Nat.le_of_ble_eq_true rfl, Nat.le_of_ble_eq_true rfl, Nat.zero_le _, Nat.zero_le _⟩ (tw_517 B.2.2.2.2.1) rfl hl.1 rfl (Nat.le_of_ble_eq_true rfl) dX3_isQuiet_30 ?_
        clear hw hH
        intro r7 h6 H locs hw hH
        refine lv_if_ne (tgt := 40) B.1 B.2.1 dX3_isQuiet_33 (by decide) (fun c8 => ?_) (fun c8 => ?_)
        · replace hw := hw.1 c8
          refine lv_iconst (v := 0) B.1 B.2.1 dX3_isQuiet_40 (by decide) ?_
          exact e_z B hr (by decide) hH hw dX3_isQuiet_41
        · replace hw := hw.2 c8
          refine lv_iconst (v := 1) B.1 B.2.1 dX3_isQuiet_36 (by decide) ?_
          refine lv_goto (tgt := 41) B.1 B.2.1 dX3_isQuiet_37 (by decide) ?_
          exact e_z B hr (by decide) hH hw dX3_isQuiet_41
theorem cy_X3_startsRow {s : State} {args : Array Value} (hG : GG s) : CYV s args yX3_startsRow cX3_startsRow 3 (some .boolean) 2 := CYV.of hG (fun _ _ hG => tw_652 hG) (tw_3 hG) (tw_651 hG) (tp_43 hG) (by decide +kernel)
set_option maxRecDepth 100000 in
set_option maxHeartbeats 4000000 in
theorem ct_X3_startsRow {Z : ZT} (hZ : ZO Z) (l : Launch) (a0 : Nat) (a1 : Int32) (a2 : Int32) (h : PH) (sz : Nat) (Q : Int32 → PH → Prop) (k0 : kd a0 = 3) (hw : wp_X3_startsRow a0 a1 a2 h Q) : MI Z l yX3_startsRow cX3_startsRow 3 (some .boolean) ({ frames := 2, cells := 0, slots := 0, locals := 42 } : Room) h sz [.ref (zA Z a0), .int a1, .int a2] Q := by
  refine open_M hZ (by decide +kernel) (by exact Nat.le_of_ble_eq_true rfl) ?_
  intro p e s m below meth c B hr hsz ls hl hH
  subst hsz
  have hl : lv_has ls 3 [(0, .ref (zA Z a0)), (1, .int a1), (2, .int a2)] := hl
  unfold wp_X3_startsRow at hw
  refine lv_aload_n B.1 B.2.1 dX3_startsRow_0 rfl (lv_at hl 0 rfl) ?_
  refine lv_iload_n B.1 B.2.1 dX3_startsRow_1 rfl (lv_at hl 1 rfl) ?_
  refine c_V_I (own := RX3) (As := [.int a1]) (rest := []) B hH (cy_X3_isSilent B.2.2.2.2.1) (ct_X3_isSilent B.2.2.2.2.2.2.2 l a0 a1 h _ _ (k0) hw) ⟨⟨rfl, rfl⟩, Nat.le_of_ble_eq_true rfl, Nat.le_of_ble_eq_true rfl, Nat.zero_le _, Nat.zero_le _⟩ (rv_3 B hH (k0)) (tw_653 B.2.2.2.2.1) rfl hl.1 rfl (Nat.le_of_ble_eq_true rfl) dX3_startsRow_2 ?_
  clear hw hH
  intro r2 h1 H locs hw hH
  refine lv_iload_n B.1 B.2.1 dX3_startsRow_5 rfl (lv_at hl 2 rfl) ?_
  refine lv_icmp_ne (tgt := 28) B.1 B.2.1 dX3_startsRow_6 (by decide) (fun c3 => ?_) (fun c3 => ?_)
  · replace hw := hw.1 c3
    refine lv_iconst (v := 0) B.1 B.2.1 dX3_startsRow_28 (by decide) ?_
    exact e_z B hr (by decide) hH hw dX3_startsRow_29
  · replace hw := hw.2 c3
    refine lv_iload_n B.1 B.2.1 dX3_startsRow_9 rfl (lv_at hl 1 rfl) ?_
    refine lv_if_eq (tgt := 24) B.1 B.2.1 dX3_startsRow_10 (by decide) (fun c4 => ?_) (fun c4 => ?_)
    · replace hw := hw.1 c4
      refine lv_iconst (v := 1) B.1 B.2.1 dX3_startsRow_24 (by decide) ?_
      refine lv_goto (tgt := 29) B.1 B.2.1 dX3_startsRow_25 (by decide) ?_
      exact e_z B hr (by decide) hH hw dX3_startsRow_29
    · replace hw := hw.2 c4
      refine lv_aload_n B.1 B.2.1 dX3_startsRow_13 rfl (lv_at hl 0 rfl) ?_
      refine lv_iload_n B.1 B.2.1 dX3_startsRow_14 rfl (lv_at hl 1 rfl) ?_
      refine lv_iconst (v := 1) B.1 B.2.1 dX3_startsRow_15 (by decide) ?_
      refine lv_isub B.1 B.2.1 dX3_startsRow_16 ?_
      refine c_V_I (own := RX3) (As := [.int (a1 - 1)]) (rest := []) B hH (cy_X3_isSilent B.2.2.2.2.1) (ct_X3_isSilent B.2.2.2.2.2.2.2 l a0 (a1 - 1) h1 _ _ (k0) hw) ⟨⟨rfl, rfl⟩, Nat.le_of_ble_eq_true rfl, Nat.le_of_ble_eq_true rfl, Nat.zero_le _, Nat.zero_le _⟩ (rv_3 B hH (k0)) (tw_653 B.2.2.2.2.1) rfl hl.1 rfl (Nat.le_of_ble_eq_true rfl) dX3_startsRow_17 ?_
      clear hw hH
      intro r6 h5 H locs hw hH
      refine lv_iload_n B.1 B.2.1 dX3_startsRow_20 rfl (lv_at hl 2 rfl) ?_
      refine lv_icmp_eq (tgt := 28) B.1 B.2.1 dX3_startsRow_21 (by decide) (fun c7 => ?_) (fun c7 => ?_)
      · replace hw := hw.1 c7
        refine lv_iconst (v := 0) B.1 B.2.1 dX3_startsRow_28 (by decide) ?_
        exact e_z B hr (by decide) hH hw dX3_startsRow_29
      · replace hw := hw.2 c7
        refine lv_iconst (v := 1) B.1 B.2.1 dX3_startsRow_24 (by decide) ?_
        refine lv_goto (tgt := 29) B.1 B.2.1 dX3_startsRow_25 (by decide) ?_
        exact e_z B hr (by decide) hH hw dX3_startsRow_29
theorem cy_X3_countRows {s : State} {args : Array Value} (hG : GG s) : CYV s args yX3_countRows cX3_countRows 4 (some .int) 1 := CYV.of hG (fun _ _ hG => tw_648 hG) (tw_3 hG) (tw_647 hG) (tp_42 hG) (by decide +kernel)
set_option maxRecDepth 100000 in
set_option maxHeartbeats 4000000 in
theorem ct_X3_countRows {Z : ZT} (hZ : ZO Z) (l : Launch) (a0 : Nat) (a1 : Int32) (h : PH) (sz : Nat) (Q : Int32 → PH → Prop) (k0 : kd a0 = 3) (hw : wp_X3_countRows a0 a1 h Q) : MI Z l yX3_countRows cX3_countRows 4 (some .int) ({ frames := 3, cells := 0, slots := 0, locals := 64 } : Room) h sz [.ref (zA Z a0), .int a1] Q := by
  refine open_M hZ (by decide +kernel) (by exact Nat.le_of_ble_eq_true rfl) ?_
  intro p e s m below meth c B hr hsz ls hl hH
  subst hsz
  have hl : lv_has ls 4 [(0, .ref (zA Z a0)), (1, .int a1)] := hl
  unfold wp_X3_countRows at hw
  have L4 : ∀ (b0 : Nat) (b1 : Int32), kd b0 = 3 → ∀ (n : Nat) (b2 : Int32) (b3 : Int32) (h : PH), ∀ (H : Heap) (locs : List Loc) (ls : Array Slot), wp_X3_countRows_b4 b0 b1 Q n b2 b3 h → HH Z s h H locs → lv_has ls 4 [(0, .ref (zA Z b0)), (1, .int b1), (2, .int b2), (3, .int b3)] → W p l e ({ frames := 3, cells := 0, slots := 0, locals := 64 } : Room) s m ([.ref (zA Z a0), .int a1]).toArray below meth c H locs 0 0 (MQ below (va_Qi Q (BZ Z) (fr Z s.heap.size)) ([.ref (zA Z a0), .int a1]).toArray s 0 0 (fr Z s.heap.size)) (F0 m 4 ls []) := by
    intro b0 b1 kb0 n
    induction n with
    | zero => intro b2 b3 h H locs ls hw hH hl; exact absurd hw id
    | succ n ih =>
      intro b2 b3 h H locs ls hw hH hl
      unfold wp_X3_countRows_b4 at hw
      refine lv_iload_n B.1 B.2.1 dX3_countRows_4 rfl (lv_at hl 3 rfl) ?_
      refine lv_aload_n B.1 B.2.1 dX3_countRows_5 rfl (lv_at hl 0 rfl) ?_
      refine r_get B hH (own := RX3) (kd_n B (kb0) (by decide) (by decide)) (ct_3 (kb0)) rfl (ul_3 B.2.2.2.2.1) 1 (by decide) rfl (tw_47 B.2.2.2.2.1) dX3_countRows_6 ?_
      refine lv_icmp_ge (tgt := 30) B.1 B.2.1 dX3_countRows_9 (by decide) (fun c1 => ?_) (fun c1 => ?_)
      · replace hw := hw.1 c1
        refine lv_iload_n B.1 B.2.1 dX3_countRows_30 rfl (lv_at hl 2 rfl) ?_
        exact e_i B hr hH hw dX3_countRows_31
      · replace hw := hw.2 c1
        refine lv_aload_n B.1 B.2.1 dX3_countRows_12 rfl (lv_at hl 0 rfl) ?_
        refine lv_iload_n B.1 B.2.1 dX3_countRows_13 rfl (lv_at hl 3 rfl) ?_
        refine lv_iload_n B.1 B.2.1 dX3_countRows_14 rfl (lv_at hl 1 rfl) ?_
        refine c_V_I (own := RX3) (As := [.int b3, .int b1]) (rest := []) B hH (cy_X3_startsRow B.2.2.2.2.1) (ct_X3_startsRow B.2.2.2.2.2.2.2 l b0 b3 b1 h _ _ (kb0) hw) ⟨⟨rfl, rfl⟩, Nat.le_of_ble_eq_true rfl, Nat.le_of_ble_eq_true rfl, Nat.zero_le _, Nat.zero_le _⟩ (rv_3 B hH (kb0)) (tw_649 B.2.2.2.2.1) rfl hl.1 rfl (Nat.le_of_ble_eq_true rfl) dX3_countRows_15 ?_
        clear hw hH
        intro r3 h2 H locs hw hH
        refine lv_if_eq (tgt := 24) B.1 B.2.1 dX3_countRows_18 (by decide) (fun c4 => ?_) (fun c4 => ?_)
        · replace hw := hw.1 c4
          obtain ⟨x5, ex5⟩ : ∃ y : Int32, y = b3 + 1 := ⟨_, rfl⟩
          replace hw := hw x5 ex5
          refine lv_iinc (v := x5) (lv' := [(3, .int x5), (0, .ref (zA Z b0)), (1, .int b1), (2, .int b2)]) B.1 B.2.1 dX3_countRows_24 hl (k := 3) rfl (by rw [ex5]; rfl) (by decide) (by first | rfl | simp [va_re_cat, Value.category]) ?_
          clear hl
          intro ls hl
          refine lv_goto (tgt := 4) B.1 B.2.1 dX3_countRows_27 (by decide) ?_
          exact ih b2 x5 h2  _ _ _ hw hH (lv_sub hl [1, 2, 3, 0] rfl)
        · replace hw := hw.2 c4
          obtain ⟨x6, ex6⟩ : ∃ y : Int32, y = b2 + 1 := ⟨_, rfl⟩
          replace hw := hw x6 ex6
          refine lv_iinc (v := x6) (lv' := [(2, .int x6), (0, .ref (zA Z b0)), (1, .int b1), (3, .int b3)]) B.1 B.2.1 dX3_countRows_21 hl (k := 2) rfl (by rw [ex6]; rfl) (by decide) (by first | rfl | simp [va_re_cat, Value.category]) ?_
          clear hl
          intro ls hl
          obtain ⟨x7, ex7⟩ : ∃ y : Int32, y = b3 + 1 := ⟨_, rfl⟩
          replace hw := hw x7 ex7
          refine lv_iinc (v := x7) (lv' := [(3, .int x7), (2, .int x6), (0, .ref (zA Z b0)), (1, .int b1)]) B.1 B.2.1 dX3_countRows_24 hl (k := 3) rfl (by rw [ex7]; rfl) (by decide) (by first | rfl | simp [va_re_cat, Value.category]) ?_
          clear hl
          intro ls hl
          refine lv_goto (tgt := 4) B.1 B.2.1 dX3_countRows_27 (by decide) ?_
          exact ih x6 x7 h2  _ _ _ hw hH (lv_sub hl [2, 3, 1, 0] rfl)
  refine lv_iconst (v := 0) B.1 B.2.1 dX3_countRows_0 (by decide) ?_
  refine lv_istore_n (lv' := [(2, .int 0), (0, .ref (zA Z a0)), (1, .int a1)]) B.1 B.2.1 dX3_countRows_1 rfl hl (by decide) (by first | rfl | simp [va_re_cat, Value.category]) ?_
  clear hl
  intro ls hl
  refine lv_iconst (v := 0) B.1 B.2.1 dX3_countRows_2 (by decide) ?_
  refine lv_istore_n (lv' := [(3, .int 0), (2, .int 0), (0, .ref (zA Z a0)), (1, .int a1)]) B.1 B.2.1 dX3_countRows_3 rfl hl (by decide) (by first | rfl | simp [va_re_cat, Value.category]) ?_
  clear hl
  intro ls hl
  obtain ⟨n8, hw⟩ := hw
  exact L4 a0 a1 (k0) n8 0 0 h  _ _ _ hw hH (lv_sub hl [2, 3, 1, 0] rfl)
