theorem cy_X8_piece {s : State} {args : Array Value} (hG : GG s) : CYV s args yX8_piece cX8_piece 9 (some .int) 3 := CYV.of hG (fun _ _ hG => tw_1176 hG) (tw_8 hG) (tw_1174 hG) (tw_1175 hG) (by decide +kernel)
set_option maxRecDepth 100000 in
set_option maxHeartbeats 4000000 in
theorem ct_X8_piece {Z : ZT} (hZ : ZO Z) (l : Launch) (a0 : Nat) (a1 : Int32) (a2 : Int32) (a3 : Int32) (h : PH) (sz : Nat) (Q : Int32 → PH → Prop) (k0 : kd a0 = 8) (hw : wp_X8_piece a0 a1 a2 a3 h Q) : MI Z l yX8_piece cX8_piece 9 (some .int) ({ frames := 3, cells := 0, slots := 0, locals := 70 } : Room) h sz [.ref (zA Z a0), .int a1, .int a2, .int a3] Q := by
  refine open_M hZ (by decide +kernel) (by exact Nat.le_of_ble_eq_true rfl) ?_
  intro p e s m below meth c B hr hsz ls hl hH
  subst hsz
  have hl : lv_has ls 9 [(0, .ref (zA Z a0)), (1, .int a1), (2, .int a2), (3, .int a3)] := hl
  unfold wp_X8_piece at hw
  have L105 : ∀ (b0 : Nat) (b1 : Int32) (b3 : Int32) (b5 : Int32) (b6 : Int32), kd b0 = 8 → ∀ (n : Nat) (b7 : Int32) (b8 : Int32) (h : PH), ∀ (H : Heap) (locs : List Loc) (ls : Array Slot), wp_X8_piece_b105 b0 b1 b3 b5 b6 Q n b7 b8 h → HH Z s h H locs → lv_has ls 9 [(0, .ref (zA Z b0)), (1, .int b1), (3, .int b3), (5, .int b5), (6, .int b6), (7, .int b7), (8, .int b8)] → W p l e ({ frames := 3, cells := 0, slots := 0, locals := 70 } : Room) s m ([.ref (zA Z a0), .int a1, .int a2, .int a3]).toArray below meth c H locs 0 0 (MQ below (va_Qi Q (BZ Z) (fr Z s.heap.size)) ([.ref (zA Z a0), .int a1, .int a2, .int a3]).toArray s 0 0 (fr Z s.heap.size)) (F0 m 105 ls []) := by
    intro b0 b1 b3 b5 b6 kb0 n
    induction n with
    | zero => intro b7 b8 h H locs ls hw hH hl; exact absurd hw id
    | succ n ih =>
      intro b7 b8 h H locs ls hw hH hl
      unfold wp_X8_piece_b105 at hw
      refine lv_iload B.1 B.2.1 dX8_piece_105 (lv_at hl 6 rfl) ?_
      refine lv_iload B.1 B.2.1 dX8_piece_107 (lv_at hl 3 rfl) ?_
      refine lv_iload B.1 B.2.1 dX8_piece_109 (lv_at hl 4 rfl) ?_
      refine lv_iadd B.1 B.2.1 dX8_piece_111 ?_
      refine lv_icmp_ge (tgt := 153) B.1 B.2.1 dX8_piece_112 (by decide) (fun c11 => ?_) (fun c11 => ?_)
      · replace hw := hw.1 c11
        refine lv_iload_n B.1 B.2.1 dX8_piece_153 rfl (lv_at hl 2 rfl) ?_
        refine lv_if_ne (tgt := 162) B.1 B.2.1 dX8_piece_154 (by decide) (fun c12 => ?_) (fun c12 => ?_)
        · replace hw := hw.1 c12
          refine lv_iload_n B.1 B.2.1 dX8_piece_162 rfl (lv_at hl 2 rfl) ?_
          refine lv_iconst (v := 1) B.1 B.2.1 dX8_piece_163 (by decide) ?_
          refine lv_icmp_ne (tgt := 172) B.1 B.2.1 dX8_piece_164 (by decide) (fun c13 => ?_) (fun c13 => ?_)
          · replace hw := hw.1 c13
            refine lv_iload B.1 B.2.1 dX8_piece_172 (lv_at hl 5 rfl) ?_
            exact e_i B hr hH hw dX8_piece_174
          · replace hw := hw.2 c13
            refine lv_iload B.1 B.2.1 dX8_piece_167 (lv_at hl 4 rfl) ?_
            refine lv_goto (tgt := 174) B.1 B.2.1 dX8_piece_169 (by decide) ?_
            exact e_i B hr hH hw dX8_piece_174
        · replace hw := hw.2 c12
          refine lv_iload B.1 B.2.1 dX8_piece_157 (lv_at hl 3 rfl) ?_
          refine lv_goto (tgt := 174) B.1 B.2.1 dX8_piece_159 (by decide) ?_
          exact e_i B hr hH hw dX8_piece_174
      · replace hw := hw.2 c11
        refine lv_aload_n B.1 B.2.1 dX8_piece_115 rfl (lv_at hl 0 rfl) ?_
        refine r_get B hH (own := RX8) (kd_n B (kb0) (by decide) (by decide)) (ct_8 (kb0)) rfl (ul_8 B.2.2.2.2.1) 3 (by decide) rfl (tw_969 B.2.2.2.2.1) dX8_piece_116 ?_
        refine lv_iload_n B.1 B.2.1 dX8_piece_119 rfl (lv_at hl 1 rfl) ?_
        refine lv_iload B.1 B.2.1 dX8_piece_120 (lv_at hl 6 rfl) ?_
        refine c_S_I (own := RX8) (As := [.ref (zA Z (b0 + 2)), .int b1, .int b8]) (rest := []) B hH (cy_X8_soundAt B.2.2.2.2.1) (ct_X8_soundAt B.2.2.2.2.2.2.2 l (b0 + 2) b1 b8 h _ _ (kf_8_3 (kb0)) hw) ⟨⟨rfl, rfl⟩, Nat.le_of_ble_eq_true rfl, Nat.le_of_ble_eq_true rfl, Nat.zero_le _, Nat.zero_le _⟩ (tw_1095 B.2.2.2.2.1) rfl hl.1 rfl (Nat.le_of_ble_eq_true rfl) dX8_piece_122 ?_
        clear hw hH
        intro r15 h14 H locs hw hH
        refine lv_iload B.1 B.2.1 dX8_piece_125 (lv_at hl 5 rfl) ?_
        refine lv_icmp_le (tgt := 143) B.1 B.2.1 dX8_piece_127 (by decide) (fun c16 => ?_) (fun c16 => ?_)
        · replace hw := hw.1 c16
          refine lv_iload B.1 B.2.1 dX8_piece_143 (lv_at hl 5 rfl) ?_
          refine lv_istore (lv' := [(7, .int b7), (0, .ref (zA Z b0)), (1, .int b1), (3, .int b3), (5, .int b5), (6, .int b6), (8, .int b8)]) B.1 B.2.1 dX8_piece_145 hl (by decide) (by first | rfl | simp [va_re_cat, Value.category]) ?_
          clear hl
          intro ls hl
          obtain ⟨x17, ex17⟩ : ∃ y : Int32, y = b8 + 1 := ⟨_, rfl⟩
          replace hw := hw x17 ex17
          refine lv_iinc (v := x17) (lv' := [(8, .int x17), (7, .int b7), (0, .ref (zA Z b0)), (1, .int b1), (3, .int b3), (5, .int b5), (6, .int b6)]) B.1 B.2.1 dX8_piece_147 hl (k := 6) rfl (by rw [ex17]; rfl) (by decide) (by first | rfl | simp [va_re_cat, Value.category]) ?_
          clear hl
          intro ls hl
          refine lv_goto (tgt := 105) B.1 B.2.1 dX8_piece_150 (by decide) ?_
          exact ih b7 x17 h14  _ _ _ hw hH (lv_sub hl [2, 3, 4, 5, 6, 1, 0] rfl)
        · replace hw := hw.2 c16
          refine lv_aload_n B.1 B.2.1 dX8_piece_130 rfl (lv_at hl 0 rfl) ?_
          refine r_get B hH (own := RX8) (kd_n B (kb0) (by decide) (by decide)) (ct_8 (kb0)) rfl (ul_8 B.2.2.2.2.1) 3 (by decide) rfl (tw_969 B.2.2.2.2.1) dX8_piece_131 ?_
          refine lv_iload_n B.1 B.2.1 dX8_piece_134 rfl (lv_at hl 1 rfl) ?_
          refine lv_iload B.1 B.2.1 dX8_piece_135 (lv_at hl 6 rfl) ?_
          refine c_S_I (own := RX8) (As := [.ref (zA Z (b0 + 2)), .int b1, .int b8]) (rest := []) B hH (cy_X8_soundAt B.2.2.2.2.1) (ct_X8_soundAt B.2.2.2.2.2.2.2 l (b0 + 2) b1 b8 h14 _ _ (kf_8_3 (kb0)) hw) ⟨⟨rfl, rfl⟩, Nat.le_of_ble_eq_true rfl, Nat.le_of_ble_eq_true rfl, Nat.zero_le _, Nat.zero_le _⟩ (tw_1095 B.2.2.2.2.1) rfl hl.1 rfl (Nat.le_of_ble_eq_true rfl) dX8_piece_137 ?_
          clear hw hH
          intro r19 h18 H locs hw hH
          refine lv_goto (tgt := 145) B.1 B.2.1 dX8_piece_140 (by decide) ?_
          refine lv_istore (lv' := [(7, .int r19), (0, .ref (zA Z b0)), (1, .int b1), (3, .int b3), (5, .int b5), (6, .int b6), (8, .int b8)]) B.1 B.2.1 dX8_piece_145 hl (by decide) (by first | rfl | simp [va_re_cat, Value.category]) ?_
          clear hl
          intro ls hl
          obtain ⟨x20, ex20⟩ : ∃ y : Int32, y = b8 + 1 := ⟨_, rfl⟩
          replace hw := hw x20 ex20
          refine lv_iinc (v := x20) (lv' := [(8, .int x20), (7, .int r19), (0, .ref (zA Z b0)), (1, .int b1), (3, .int b3), (5, .int b5), (6, .int b6)]) B.1 B.2.1 dX8_piece_147 hl (k := 6) rfl (by rw [ex20]; rfl) (by decide) (by first | rfl | simp [va_re_cat, Value.category]) ?_
          clear hl
          intro ls hl
          refine lv_goto (tgt := 105) B.1 B.2.1 dX8_piece_150 (by decide) ?_
          exact ih r19 x20 h18  _ _ _ hw hH (lv_sub hl [2, 3, 4, 5, 6, 1, 0] rfl)
  refine lv_aload_n B.1 B.2.1 dX8_piece_0 rfl (lv_at hl 0 rfl) ?_
  refine r_get B hH (own := RX8) (kd_n B (k0) (by decide) (by decide)) (ct_8 (k0)) rfl (ul_8 B.2.2.2.2.1) 3 (by decide) rfl (tw_969 B.2.2.2.2.1) dX8_piece_1 ?_
  refine lv_iload_n B.1 B.2.1 dX8_piece_4 rfl (lv_at hl 1 rfl) ?_
  refine c_S_I (own := RX8) (As := [.ref (zA Z (a0 + 2)), .int a1]) (rest := []) B hH (cy_X8_isReel B.2.2.2.2.1) (ct_X8_isReel B.2.2.2.2.2.2.2 l (a0 + 2) a1 h _ _ (kf_8_3 (k0)) hw) ⟨⟨rfl, rfl⟩, Nat.le_of_ble_eq_true rfl, Nat.le_of_ble_eq_true rfl, Nat.zero_le _, Nat.zero_le _⟩ (tw_1060 B.2.2.2.2.1) rfl hl.1 rfl (Nat.le_of_ble_eq_true rfl) dX8_piece_5 ?_
  clear hw hH
  intro r2 h1 H locs hw hH
  refine lv_if_eq (tgt := 36) B.1 B.2.1 dX8_piece_8 (by decide) (fun c3 => ?_) (fun c3 => ?_)
  · replace hw := hw.1 c3
    refine lv_iconst (v := 0) B.1 B.2.1 dX8_piece_36 (by decide) ?_
    refine lv_istore (lv' := [(4, .int 0), (0, .ref (zA Z a0)), (1, .int a1), (2, .int a2), (3, .int a3)]) B.1 B.2.1 dX8_piece_37 hl (by decide) (by first | rfl | simp [va_re_cat, Value.category]) ?_
    clear hl
    intro ls hl
    refine lv_aload_n B.1 B.2.1 dX8_piece_39 rfl (lv_at hl 1 rfl) ?_
    refine lv_iload B.1 B.2.1 dX8_piece_40 (lv_at hl 0 rfl) ?_
    refine lv_if_ne (tgt := 49) B.1 B.2.1 dX8_piece_42 (by decide) (fun z => absurd z (by decide)) (fun _ => ?_)
    refine lv_iconst (v := 1) B.1 B.2.1 dX8_piece_45 (by decide) ?_
    refine lv_goto (tgt := 66) B.1 B.2.1 dX8_piece_46 (by decide) ?_
    refine c_V_I (own := RX8) (As := [.int 1]) (rest := []) B hH (cy_X8_refused B.2.2.2.2.1) (ct_X8_refused B.2.2.2.2.2.2.2 l a0 1 h1 _ _ (k0) hw) ⟨⟨rfl, rfl⟩, Nat.le_of_ble_eq_true rfl, Nat.le_of_ble_eq_true rfl, Nat.zero_le _, Nat.zero_le _⟩ (rv_8 B hH (k0)) (tw_1013 B.2.2.2.2.1) rfl hl.1 rfl (Nat.le_of_ble_eq_true rfl) dX8_piece_66 ?_
    clear hw hH
    intro r5 h4 H locs hw hH
    refine lv_if_eq (tgt := 74) B.1 B.2.1 dX8_piece_69 (by decide) (fun c6 => ?_) (fun c6 => ?_)
    · replace hw := hw.1 c6
      refine lv_aload_n B.1 B.2.1 dX8_piece_74 rfl (lv_at hl 1 rfl) ?_
      refine r_get B hH (own := RX8) (kd_n B (k0) (by decide) (by decide)) (ct_8 (k0)) rfl (ul_8 B.2.2.2.2.1) 3 (by decide) rfl (tw_969 B.2.2.2.2.1) dX8_piece_75 ?_
      refine lv_iload_n B.1 B.2.1 dX8_piece_78 rfl (lv_at hl 2 rfl) ?_
      refine lv_iload_n B.1 B.2.1 dX8_piece_79 rfl (lv_at hl 3 rfl) ?_
      refine lv_iconst (v := 0) B.1 B.2.1 dX8_piece_80 (by decide) ?_
      refine c_S_I (own := RX8) (As := [.ref (zA Z (a0 + 2)), .int a1, .int a2, .int 0]) (rest := []) B hH (cy_X8_rowFirst B.2.2.2.2.1) (ct_X8_rowFirst B.2.2.2.2.2.2.2 l (a0 + 2) a1 a2 0 h4 _ _ (kf_8_3 (k0)) hw) ⟨⟨rfl, rfl⟩, Nat.le_of_ble_eq_true rfl, Nat.le_of_ble_eq_true rfl, Nat.zero_le _, Nat.zero_le _⟩ (tw_1170 B.2.2.2.2.1) rfl hl.1 rfl (Nat.le_of_ble_eq_true rfl) dX8_piece_81 ?_
      clear hw hH
      intro r8 h7 H locs hw hH
      refine lv_istore (lv' := [(5, .int r8), (4, .int 0), (0, .ref (zA Z a0)), (1, .int a1), (2, .int a2), (3, .int a3)]) B.1 B.2.1 dX8_piece_84 hl (by decide) (by first | rfl | simp [va_re_cat, Value.category]) ?_
      clear hl
      intro ls hl
      refine lv_aload_n B.1 B.2.1 dX8_piece_86 rfl (lv_at hl 2 rfl) ?_
      refine r_get B hH (own := RX8) (kd_n B (k0) (by decide) (by decide)) (ct_8 (k0)) rfl (ul_8 B.2.2.2.2.1) 3 (by decide) rfl (tw_969 B.2.2.2.2.1) dX8_piece_87 ?_
      refine lv_iload_n B.1 B.2.1 dX8_piece_90 rfl (lv_at hl 3 rfl) ?_
      refine lv_iload B.1 B.2.1 dX8_piece_91 (lv_at hl 0 rfl) ?_
      refine c_S_I (own := RX8) (As := [.ref (zA Z (a0 + 2)), .int a1, .int r8]) (rest := []) B hH (cy_X8_rowMany B.2.2.2.2.1) (ct_X8_rowMany B.2.2.2.2.2.2.2 l (a0 + 2) a1 r8 h7 _ _ (kf_8_3 (k0)) hw) ⟨⟨rfl, rfl⟩, Nat.le_of_ble_eq_true rfl, Nat.le_of_ble_eq_true rfl, Nat.zero_le _, Nat.zero_le _⟩ (tw_1155 B.2.2.2.2.1) rfl hl.1 rfl (Nat.le_of_ble_eq_true rfl) dX8_piece_93 ?_
      clear hw hH
      intro r10 h9 H locs hw hH
      refine lv_istore (lv' := [(6, .int r10), (5, .int r8), (4, .int 0), (0, .ref (zA Z a0)), (1, .int a1), (2, .int a2), (3, .int a3)]) B.1 B.2.1 dX8_piece_96 hl (by decide) (by first | rfl | simp [va_re_cat, Value.category]) ?_
      clear hl
      intro ls hl
      refine lv_iconst (v := 0) B.1 B.2.1 dX8_piece_98 (by decide) ?_
      refine lv_istore (lv' := [(7, .int 0), (6, .int r10), (5, .int r8), (4, .int 0), (0, .ref (zA Z a0)), (1, .int a1), (2, .int a2), (3, .int a3)]) B.1 B.2.1 dX8_piece_99 hl (by decide) (by first | rfl | simp [va_re_cat, Value.category]) ?_
      clear hl
      intro ls hl
      refine lv_iload B.1 B.2.1 dX8_piece_101 (lv_at hl 2 rfl) ?_
      refine lv_istore (lv' := [(8, .int r8), (7, .int 0), (6, .int r10), (5, .int r8), (4, .int 0), (0, .ref (zA Z a0)), (1, .int a1), (2, .int a2), (3, .int a3)]) B.1 B.2.1 dX8_piece_103 hl (by decide) (by first | rfl | simp [va_re_cat, Value.category]) ?_
      clear hl
      intro ls hl
      obtain ⟨n21, hw⟩ := hw
      exact L105 a0 a1 a3 r8 r10 (k0) n21 0 r8 h9  _ _ _ hw hH (lv_sub hl [5, 6, 8, 3, 2, 1, 0] rfl)
    · replace hw := hw.2 c6
      refine lv_iconst (v := 0) B.1 B.2.1 dX8_piece_72 (by decide) ?_
      exact e_i B hr hH hw dX8_piece_73
  · replace hw := hw.2 c3
    refine lv_iload_n B.1 B.2.1 dX8_piece_11 rfl (lv_at hl 2 rfl) ?_
    refine lv_i2l B.1 B.2.1 dX8_piece_12 rfl ?_
    refine lv_lconst (v := 0) B.1 B.2.1 dX8_piece_13 (by decide) ?_
    refine lv_aload_n B.1 B.2.1 dX8_piece_14 rfl (lv_at hl 0 rfl) ?_
    refine r_get B hH (own := RX8) (kd_n B (k0) (by decide) (by decide)) (ct_8 (k0)) rfl (ul_8 B.2.2.2.2.1) 3 (by decide) rfl (tw_969 B.2.2.2.2.1) dX8_piece_15 ?_
    refine lv_iload_n B.1 B.2.1 dX8_piece_18 rfl (lv_at hl 1 rfl) ?_
    refine lv_iconst (v := 0) B.1 B.2.1 dX8_piece_19 (by decide) ?_
    refine c_S_I (own := RX8) (As := [.ref (zA Z (a0 + 2)), .int a1, .int 0]) (rest := [.long 0, .long (a2.toInt64)]) B hH (cy_X8_rows B.2.2.2.2.1) (ct_X8_rows B.2.2.2.2.2.2.2 l (a0 + 2) a1 0 h1 _ _ (kf_8_3 (k0)) hw) ⟨⟨rfl, rfl⟩, Nat.le_of_ble_eq_true rfl, Nat.le_of_ble_eq_true rfl, Nat.zero_le _, Nat.zero_le _⟩ (tw_1158 B.2.2.2.2.1) rfl hl.1 rfl (Nat.le_of_ble_eq_true rfl) dX8_piece_20 ?_
    clear hw hH
    intro r23 h22 H locs hw hH
    refine lv_iconst (v := 1) B.1 B.2.1 dX8_piece_23 (by decide) ?_
    refine lv_isub B.1 B.2.1 dX8_piece_24 ?_
    refine lv_i2l B.1 B.2.1 dX8_piece_25 rfl ?_
    refine c_S_I (own := RX8) (As := [.long (a2.toInt64), .long 0, .long ((r23 - 1).toInt64)]) (rest := []) B hH (cy_X8_in B.2.2.2.2.1) (ct_X8_in B.2.2.2.2.2.2.2 l (a2.toInt64) 0 ((r23 - 1).toInt64) h22 _ _  hw) ⟨⟨rfl, rfl⟩, Nat.le_of_ble_eq_true rfl, Nat.le_of_ble_eq_true rfl, Nat.zero_le _, Nat.zero_le _⟩ (tw_1010 B.2.2.2.2.1) rfl hl.1 rfl (Nat.le_of_ble_eq_true rfl) dX8_piece_26 ?_
    clear hw hH
    intro r25 h24 H locs hw hH
    refine lv_if_eq (tgt := 36) B.1 B.2.1 dX8_piece_29 (by decide) (fun c26 => ?_) (fun c26 => ?_)
    · replace hw := hw.1 c26
      refine lv_iconst (v := 0) B.1 B.2.1 dX8_piece_36 (by decide) ?_
      refine lv_istore (lv' := [(4, .int 0), (0, .ref (zA Z a0)), (1, .int a1), (2, .int a2), (3, .int a3)]) B.1 B.2.1 dX8_piece_37 hl (by decide) (by first | rfl | simp [va_re_cat, Value.category]) ?_
      clear hl
      intro ls hl
      refine lv_aload_n B.1 B.2.1 dX8_piece_39 rfl (lv_at hl 1 rfl) ?_
      refine lv_iload B.1 B.2.1 dX8_piece_40 (lv_at hl 0 rfl) ?_
      refine lv_if_ne (tgt := 49) B.1 B.2.1 dX8_piece_42 (by decide) (fun z => absurd z (by decide)) (fun _ => ?_)
      refine lv_iconst (v := 1) B.1 B.2.1 dX8_piece_45 (by decide) ?_
      refine lv_goto (tgt := 66) B.1 B.2.1 dX8_piece_46 (by decide) ?_
      refine c_V_I (own := RX8) (As := [.int 1]) (rest := []) B hH (cy_X8_refused B.2.2.2.2.1) (ct_X8_refused B.2.2.2.2.2.2.2 l a0 1 h24 _ _ (k0) hw) ⟨⟨rfl, rfl⟩, Nat.le_of_ble_eq_true rfl, Nat.le_of_ble_eq_true rfl, Nat.zero_le _, Nat.zero_le _⟩ (rv_8 B hH (k0)) (tw_1013 B.2.2.2.2.1) rfl hl.1 rfl (Nat.le_of_ble_eq_true rfl) dX8_piece_66 ?_
      clear hw hH
      intro r28 h27 H locs hw hH
      refine lv_if_eq (tgt := 74) B.1 B.2.1 dX8_piece_69 (by decide) (fun c29 => ?_) (fun c29 => ?_)
      · replace hw := hw.1 c29
        refine lv_aload_n B.1 B.2.1 dX8_piece_74 rfl (lv_at hl 1 rfl) ?_
        refine r_get B hH (own := RX8) (kd_n B (k0) (by decide) (by decide)) (ct_8 (k0)) rfl (ul_8 B.2.2.2.2.1) 3 (by decide) rfl (tw_969 B.2.2.2.2.1) dX8_piece_75 ?_
        refine lv_iload_n B.1 B.2.1 dX8_piece_78 rfl (lv_at hl 2 rfl) ?_
        refine lv_iload_n B.1 B.2.1 dX8_piece_79 rfl (lv_at hl 3 rfl) ?_
        refine lv_iconst (v := 0) B.1 B.2.1 dX8_piece_80 (by decide) ?_
        refine c_S_I (own := RX8) (As := [.ref (zA Z (a0 + 2)), .int a1, .int a2, .int 0]) (rest := []) B hH (cy_X8_rowFirst B.2.2.2.2.1) (ct_X8_rowFirst B.2.2.2.2.2.2.2 l (a0 + 2) a1 a2 0 h27 _ _ (kf_8_3 (k0)) hw) ⟨⟨rfl, rfl⟩, Nat.le_of_ble_eq_true rfl, Nat.le_of_ble_eq_true rfl, Nat.zero_le _, Nat.zero_le _⟩ (tw_1170 B.2.2.2.2.1) rfl hl.1 rfl (Nat.le_of_ble_eq_true rfl) dX8_piece_81 ?_
        clear hw hH
        intro r31 h30 H locs hw hH
        refine lv_istore (lv' := [(5, .int r31), (4, .int 0), (0, .ref (zA Z a0)), (1, .int a1), (2, .int a2), (3, .int a3)]) B.1 B.2.1 dX8_piece_84 hl (by decide) (by first | rfl | simp [va_re_cat, Value.category]) ?_
        clear hl
        intro ls hl
        refine lv_aload_n B.1 B.2.1 dX8_piece_86 rfl (lv_at hl 2 rfl) ?_
        refine r_get B hH (own := RX8) (kd_n B (k0) (by decide) (by decide)) (ct_8 (k0)) rfl (ul_8 B.2.2.2.2.1) 3 (by decide) rfl (tw_969 B.2.2.2.2.1) dX8_piece_87 ?_
        refine lv_iload_n B.1 B.2.1 dX8_piece_90 rfl (lv_at hl 3 rfl) ?_
        refine lv_iload B.1 B.2.1 dX8_piece_91 (lv_at hl 0 rfl) ?_
        refine c_S_I (own := RX8) (As := [.ref (zA Z (a0 + 2)), .int a1, .int r31]) (rest := []) B hH (cy_X8_rowMany B.2.2.2.2.1) (ct_X8_rowMany B.2.2.2.2.2.2.2 l (a0 + 2) a1 r31 h30 _ _ (kf_8_3 (k0)) hw) ⟨⟨rfl, rfl⟩, Nat.le_of_ble_eq_true rfl, Nat.le_of_ble_eq_true rfl, Nat.zero_le _, Nat.zero_le _⟩ (tw_1155 B.2.2.2.2.1) rfl hl.1 rfl (Nat.le_of_ble_eq_true rfl) dX8_piece_93 ?_
        clear hw hH
        intro r33 h32 H locs hw hH
        refine lv_istore (lv' := [(6, .int r33), (5, .int r31), (4, .int 0), (0, .ref (zA Z a0)), (1, .int a1), (2, .int a2), (3, .int a3)]) B.1 B.2.1 dX8_piece_96 hl (by decide) (by first | rfl | simp [va_re_cat, Value.category]) ?_
        clear hl
        intro ls hl
        refine lv_iconst (v := 0) B.1 B.2.1 dX8_piece_98 (by decide) ?_
        refine lv_istore (lv' := [(7, .int 0), (6, .int r33), (5, .int r31), (4, .int 0), (0, .ref (zA Z a0)), (1, .int a1), (2, .int a2), (3, .int a3)]) B.1 B.2.1 dX8_piece_99 hl (by decide) (by first | rfl | simp [va_re_cat, Value.category]) ?_
        clear hl
        intro ls hl
        refine lv_iload B.1 B.2.1 dX8_piece_101 (lv_at hl 2 rfl) ?_
        refine lv_istore (lv' := [(8, .int r31), (7, .int 0), (6, .int r33), (5, .int r31), (4, .int 0), (0, .ref (zA Z a0)), (1, .int a1), (2, .int a2), (3, .int a3)]) B.1 B.2.1 dX8_piece_103 hl (by decide) (by first | rfl | simp [va_re_cat, Value.category]) ?_
        clear hl
        intro ls hl
        obtain ⟨n34, hw⟩ := hw
        exact L105 a0 a1 a3 r31 r33 (k0) n34 0 r31 h32  _ _ _ hw hH (lv_sub hl [5, 6, 8, 3, 2, 1, 0] rfl)
      · replace hw := hw.2 c29
        refine lv_iconst (v := 0) B.1 B.2.1 dX8_piece_72 (by decide) ?_
        exact e_i B hr hH hw dX8_piece_73
    · replace hw := hw.2 c26
      refine lv_iconst (v := 1) B.1 B.2.1 dX8_piece_32 (by decide) ?_
      refine lv_goto (tgt := 37) B.1 B.2.1 dX8_piece_33 (by decide) ?_
      refine lv_istore (lv' := [(4, .int 1), (0, .ref (zA Z a0)), (1, .int a1), (2, .int a2), (3, .int a3)]) B.1 B.2.1 dX8_piece_37 hl (by decide) (by first | rfl | simp [va_re_cat, Value.category]) ?_
      clear hl
      intro ls hl
      refine lv_aload_n B.1 B.2.1 dX8_piece_39 rfl (lv_at hl 1 rfl) ?_
      refine lv_iload B.1 B.2.1 dX8_piece_40 (lv_at hl 0 rfl) ?_
      refine lv_if_ne (tgt := 49) B.1 B.2.1 dX8_piece_42 (by decide) (fun _ => ?_) (fun z => absurd z (by decide))
      refine lv_iload_n B.1 B.2.1 dX8_piece_49 rfl (lv_at hl 4 rfl) ?_
      refine lv_i2l B.1 B.2.1 dX8_piece_50 rfl ?_
      refine lv_lconst (v := 0) B.1 B.2.1 dX8_piece_51 (by decide) ?_
      refine lv_ldc2 (own := RX8) B.1 B.2.1 B.2.2.2.1 (tw_1169 B.2.2.2.2.1) dX8_piece_52 ?_
      refine c_S_I (own := RX8) (As := [.long (a3.toInt64), .long 0, .long 2]) (rest := [.ref (zA Z a0)]) B hH (cy_X8_in B.2.2.2.2.1) (ct_X8_in B.2.2.2.2.2.2.2 l (a3.toInt64) 0 2 h24 _ _  hw) ⟨⟨rfl, rfl⟩, Nat.le_of_ble_eq_true rfl, Nat.le_of_ble_eq_true rfl, Nat.zero_le _, Nat.zero_le _⟩ (tw_1010 B.2.2.2.2.1) rfl hl.1 rfl (Nat.le_of_ble_eq_true rfl) dX8_piece_55 ?_
      clear hw hH
      intro r36 h35 H locs hw hH
      refine lv_if_eq (tgt := 65) B.1 B.2.1 dX8_piece_58 (by decide) (fun c37 => ?_) (fun c37 => ?_)
      · replace hw := hw.1 c37
        refine lv_iconst (v := 2) B.1 B.2.1 dX8_piece_65 (by decide) ?_
        refine c_V_I (own := RX8) (As := [.int 2]) (rest := []) B hH (cy_X8_refused B.2.2.2.2.1) (ct_X8_refused B.2.2.2.2.2.2.2 l a0 2 h35 _ _ (k0) hw) ⟨⟨rfl, rfl⟩, Nat.le_of_ble_eq_true rfl, Nat.le_of_ble_eq_true rfl, Nat.zero_le _, Nat.zero_le _⟩ (rv_8 B hH (k0)) (tw_1013 B.2.2.2.2.1) rfl hl.1 rfl (Nat.le_of_ble_eq_true rfl) dX8_piece_66 ?_
        clear hw hH
        intro r39 h38 H locs hw hH
        refine lv_if_eq (tgt := 74) B.1 B.2.1 dX8_piece_69 (by decide) (fun c40 => ?_) (fun c40 => ?_)
        · replace hw := hw.1 c40
          refine lv_aload_n B.1 B.2.1 dX8_piece_74 rfl (lv_at hl 1 rfl) ?_
          refine r_get B hH (own := RX8) (kd_n B (k0) (by decide) (by decide)) (ct_8 (k0)) rfl (ul_8 B.2.2.2.2.1) 3 (by decide) rfl (tw_969 B.2.2.2.2.1) dX8_piece_75 ?_
          refine lv_iload_n B.1 B.2.1 dX8_piece_78 rfl (lv_at hl 2 rfl) ?_
          refine lv_iload_n B.1 B.2.1 dX8_piece_79 rfl (lv_at hl 3 rfl) ?_
          refine lv_iconst (v := 0) B.1 B.2.1 dX8_piece_80 (by decide) ?_
          refine c_S_I (own := RX8) (As := [.ref (zA Z (a0 + 2)), .int a1, .int a2, .int 0]) (rest := []) B hH (cy_X8_rowFirst B.2.2.2.2.1) (ct_X8_rowFirst B.2.2.2.2.2.2.2 l (a0 + 2) a1 a2 0 h38 _ _ (kf_8_3 (k0)) hw) ⟨⟨rfl, rfl⟩, Nat.le_of_ble_eq_true rfl, Nat.le_of_ble_eq_true rfl, Nat.zero_le _, Nat.zero_le _⟩ (tw_1170 B.2.2.2.2.1) rfl hl.1 rfl (Nat.le_of_ble_eq_true rfl) dX8_piece_81 ?_
          clear hw hH
          intro r42 h41 H locs hw hH
          refine lv_istore (lv' := [(5, .int r42), (4, .int 1), (0, .ref (zA Z a0)), (1, .int a1), (2, .int a2), (3, .int a3)]) B.1 B.2.1 dX8_piece_84 hl (by decide) (by first | rfl | simp [va_re_cat, Value.category]) ?_
          clear hl
          intro ls hl
          refine lv_aload_n B.1 B.2.1 dX8_piece_86 rfl (lv_at hl 2 rfl) ?_
          refine r_get B hH (own := RX8) (kd_n B (k0) (by decide) (by decide)) (ct_8 (k0)) rfl (ul_8 B.2.2.2.2.1) 3 (by decide) rfl (tw_969 B.2.2.2.2.1) dX8_piece_87 ?_
          refine lv_iload_n B.1 B.2.1 dX8_piece_90 rfl (lv_at hl 3 rfl) ?_
          refine lv_iload B.1 B.2.1 dX8_piece_91 (lv_at hl 0 rfl) ?_
          refine c_S_I (own := RX8) (As := [.ref (zA Z (a0 + 2)), .int a1, .int r42]) (rest := []) B hH (cy_X8_rowMany B.2.2.2.2.1) (ct_X8_rowMany B.2.2.2.2.2.2.2 l (a0 + 2) a1 r42 h41 _ _ (kf_8_3 (k0)) hw) ⟨⟨rfl, rfl⟩, Nat.le_of_ble_eq_true rfl, Nat.le_of_ble_eq_true rfl, Nat.zero_le _, Nat.zero_le _⟩ (tw_1155 B.2.2.2.2.1) rfl hl.1 rfl (Nat.le_of_ble_eq_true rfl) dX8_piece_93 ?_
          clear hw hH
          intro r44 h43 H locs hw hH
          refine lv_istore (lv' := [(6, .int r44), (5, .int r42), (4, .int 1), (0, .ref (zA Z a0)), (1, .int a1), (2, .int a2), (3, .int a3)]) B.1 B.2.1 dX8_piece_96 hl (by decide) (by first | rfl | simp [va_re_cat, Value.category]) ?_
          clear hl
          intro ls hl
          refine lv_iconst (v := 0) B.1 B.2.1 dX8_piece_98 (by decide) ?_
          refine lv_istore (lv' := [(7, .int 0), (6, .int r44), (5, .int r42), (4, .int 1), (0, .ref (zA Z a0)), (1, .int a1), (2, .int a2), (3, .int a3)]) B.1 B.2.1 dX8_piece_99 hl (by decide) (by first | rfl | simp [va_re_cat, Value.category]) ?_
          clear hl
          intro ls hl
          refine lv_iload B.1 B.2.1 dX8_piece_101 (lv_at hl 2 rfl) ?_
          refine lv_istore (lv' := [(8, .int r42), (7, .int 0), (6, .int r44), (5, .int r42), (4, .int 1), (0, .ref (zA Z a0)), (1, .int a1), (2, .int a2), (3, .int a3)]) B.1 B.2.1 dX8_piece_103 hl (by decide) (by first | rfl | simp [va_re_cat, Value.category]) ?_
          clear hl
          intro ls hl
          obtain ⟨n45, hw⟩ := hw
          exact L105 a0 a1 a3 r42 r44 (k0) n45 0 r42 h43  _ _ _ hw hH (lv_sub hl [5, 6, 8, 3, 2, 1, 0] rfl)
        · replace hw := hw.2 c40
          refine lv_iconst (v := 0) B.1 B.2.1 dX8_piece_72 (by decide) ?_
          exact e_i B hr hH hw dX8_piece_73
      · replace hw := hw.2 c37
        refine lv_iconst (v := 0) B.1 B.2.1 dX8_piece_61 (by decide) ?_
        refine lv_goto (tgt := 66) B.1 B.2.1 dX8_piece_62 (by decide) ?_
        refine c_V_I (own := RX8) (As := [.int 0]) (rest := []) B hH (cy_X8_refused B.2.2.2.2.1) (ct_X8_refused B.2.2.2.2.2.2.2 l a0 0 h35 _ _ (k0) hw) ⟨⟨rfl, rfl⟩, Nat.le_of_ble_eq_true rfl, Nat.le_of_ble_eq_true rfl, Nat.zero_le _, Nat.zero_le _⟩ (rv_8 B hH (k0)) (tw_1013 B.2.2.2.2.1) rfl hl.1 rfl (Nat.le_of_ble_eq_true rfl) dX8_piece_66 ?_
        clear hw hH
        intro r47 h46 H locs hw hH
        refine lv_if_eq (tgt := 74) B.1 B.2.1 dX8_piece_69 (by decide) (fun c48 => ?_) (fun c48 => ?_)
        · replace hw := hw.1 c48
          refine lv_aload_n B.1 B.2.1 dX8_piece_74 rfl (lv_at hl 1 rfl) ?_
          refine r_get B hH (own := RX8) (kd_n B (k0) (by decide) (by decide)) (ct_8 (k0)) rfl (ul_8 B.2.2.2.2.1) 3 (by decide) rfl (tw_969 B.2.2.2.2.1) dX8_piece_75 ?_
          refine lv_iload_n B.1 B.2.1 dX8_piece_78 rfl (lv_at hl 2 rfl) ?_
          refine lv_iload_n B.1 B.2.1 dX8_piece_79 rfl (lv_at hl 3 rfl) ?_
          refine lv_iconst (v := 0) B.1 B.2.1 dX8_piece_80 (by decide) ?_
          refine c_S_I (own := RX8) (As := [.ref (zA Z (a0 + 2)), .int a1, .int a2, .int 0]) (rest := []) B hH (cy_X8_rowFirst B.2.2.2.2.1) (ct_X8_rowFirst B.2.2.2.2.2.2.2 l (a0 + 2) a1 a2 0 h46 _ _ (kf_8_3 (k0)) hw) ⟨⟨rfl, rfl⟩, Nat.le_of_ble_eq_true rfl, Nat.le_of_ble_eq_true rfl, Nat.zero_le _, Nat.zero_le _⟩ (tw_1170 B.2.2.2.2.1) rfl hl.1 rfl (Nat.le_of_ble_eq_true rfl) dX8_piece_81 ?_
          clear hw hH
          intro r50 h49 H locs hw hH
          refine lv_istore (lv' := [(5, .int r50), (4, .int 1), (0, .ref (zA Z a0)), (1, .int a1), (2, .int a2), (3, .int a3)]) B.1 B.2.1 dX8_piece_84 hl (by decide) (by first | rfl | simp [va_re_cat, Value.category]) ?_
          clear hl
          intro ls hl
          refine lv_aload_n B.1 B.2.1 dX8_piece_86 rfl (lv_at hl 2 rfl) ?_
          refine r_get B hH (own := RX8) (kd_n B (k0) (by decide) (by decide)) (ct_8 (k0)) rfl (ul_8 B.2.2.2.2.1) 3 (by decide) rfl (tw_969 B.2.2.2.2.1) dX8_piece_87 ?_
          refine lv_iload_n B.1 B.2.1 dX8_piece_90 rfl (lv_at hl 3 rfl) ?_
          refine lv_iload B.1 B.2.1 dX8_piece_91 (lv_at hl 0 rfl) ?_
          refine c_S_I (own := RX8) (As := [.ref (zA Z (a0 + 2)), .int a1, .int r50]) (rest := []) B hH (cy_X8_rowMany B.2.2.2.2.1) (ct_X8_rowMany B.2.2.2.2.2.2.2 l (a0 + 2) a1 r50 h49 _ _ (kf_8_3 (k0)) hw) ⟨⟨rfl, rfl⟩, Nat.le_of_ble_eq_true rfl, Nat.le_of_ble_eq_true rfl, Nat.zero_le _, Nat.zero_le _⟩ (tw_1155 B.2.2.2.2.1) rfl hl.1 rfl (Nat.le_of_ble_eq_true rfl) dX8_piece_93 ?_
          clear hw hH
          intro r52 h51 H locs hw hH
          refine lv_istore (lv' := [(6, .int r52), (5, .int r50), (4, .int 1), (0, .ref (zA Z a0)), (1, .int a1), (2, .int a2), (3, .int a3)]) B.1 B.2.1 dX8_piece_96 hl (by decide) (by first | rfl | simp [va_re_cat, Value.category]) ?_
          clear hl
          intro ls hl
          refine lv_iconst (v := 0) B.1 B.2.1 dX8_piece_98 (by decide) ?_
          refine lv_istore (lv' := [(7, .int 0), (6, .int r52), (5, .int r50), (4, .int 1), (0, .ref (zA Z a0)), (1, .int a1), (2, .int a2), (3, .int a3)]) B.1 B.2.1 dX8_piece_99 hl (by decide) (by first | rfl | simp [va_re_cat, Value.category]) ?_
          clear hl
          intro ls hl
          refine lv_iload B.1 B.2.1 dX8_piece_101 (lv_at hl 2 rfl) ?_
          refine lv_istore (lv' := [(8, .int r50), (7, .int 0), (6, .int r52), (5, .int r50), (4, .int 1), (0, .ref (zA Z a0)), (1, .int a1), (2, .int a2), (3, .int a3)]) B.1 B.2.1 dX8_piece_103 hl (by decide) (by first | rfl | simp [va_re_cat, Value.category]) ?_
          clear hl
          intro ls hl
          obtain ⟨n53, hw⟩ := hw
          exact L105 a0 a1 a3 r50 r52 (k0) n53 0 r50 h51  _ _ _ hw hH (lv_sub hl [5, 6, 8, 3, 2, 1, 0] rfl)
        · replace hw := hw.2 c48
          refine lv_iconst (v := 0) B.1 B.2.1 dX8_piece_72 (by decide) ?_
          exact e_i B hr hH hw dX8_piece_73
theorem cy_X8_loopOf {s : State} {args : Array Value} (hG : GG s) : CYV s args yX8_loopOf cX8_loopOf 5 (some .int) 2 := CYV.of hG (fun _ _ hG => tw_1180 hG) (tw_8 hG) (tw_1178 hG) (tw_1179 hG) (by decide +kernel)
set_option maxRecDepth 100000 in
set_option maxHeartbeats 4000000 in
theorem ct_X8_loopOf {Z : ZT} (hZ : ZO Z) (l : Launch) (a0 : Nat) (a1 : Int32) (a2 : Int32) (h : PH) (sz : Nat) (Q : Int32 → PH → Prop) (k0 : kd a0 = 8) (hw : wp_X8_loopOf a0 a1 a2 h Q) : MI Z l yX8_loopOf cX8_loopOf 5 (some .int) ({ frames := 3, cells := 0, slots := 0, locals := 64 } : Room) h sz [.ref (zA Z a0), .int a1, .int a2] Q := by
  refine open_M hZ (by decide +kernel) (by exact Nat.le_of_ble_eq_true rfl) ?_
  intro p e s m below meth c B hr hsz ls hl hH
  subst hsz
  have hl : lv_has ls 5 [(0, .ref (zA Z a0)), (1, .int a1), (2, .int a2)] := hl
  unfold wp_X8_loopOf at hw
  refine lv_aload_n B.1 B.2.1 dX8_loopOf_0 rfl (lv_at hl 0 rfl) ?_
  refine lv_aload_n B.1 B.2.1 dX8_loopOf_1 rfl (lv_at hl 0 rfl) ?_
  refine r_get B hH (own := RX8) (kd_n B (k0) (by decide) (by decide)) (ct_8 (k0)) rfl (ul_8 B.2.2.2.2.1) 3 (by decide) rfl (tw_969 B.2.2.2.2.1) dX8_loopOf_2 ?_
  refine lv_iload_n B.1 B.2.1 dX8_loopOf_5 rfl (lv_at hl 1 rfl) ?_
  refine c_S_I (own := RX8) (As := [.ref (zA Z (a0 + 2)), .int a1]) (rest := [.ref (zA Z a0)]) B hH (cy_X8_isLoop B.2.2.2.2.1) (ct_X8_isLoop B.2.2.2.2.2.2.2 l (a0 + 2) a1 h _ _ (kf_8_3 (k0)) hw) ⟨⟨rfl, rfl⟩, Nat.le_of_ble_eq_true rfl, Nat.le_of_ble_eq_true rfl, Nat.zero_le _, Nat.zero_le _⟩ (tw_1083 B.2.2.2.2.1) rfl hl.1 rfl (Nat.le_of_ble_eq_true rfl) dX8_loopOf_6 ?_
  clear hw hH
  intro r2 h1 H locs hw hH
  refine lv_if_ne (tgt := 16) B.1 B.2.1 dX8_loopOf_9 (by decide) (fun c3 => ?_) (fun c3 => ?_)
  · replace hw := hw.1 c3
    refine lv_iload_n B.1 B.2.1 dX8_loopOf_16 rfl (lv_at hl 2 rfl) ?_
    refine lv_i2l B.1 B.2.1 dX8_loopOf_17 rfl ?_
    refine lv_lconst (v := 0) B.1 B.2.1 dX8_loopOf_18 (by decide) ?_
    refine lv_ldc2 (own := RX8) B.1 B.2.1 B.2.2.2.1 (tw_1181 B.2.2.2.2.1) dX8_loopOf_19 ?_
    refine c_S_I (own := RX8) (As := [.long (a2.toInt64), .long 0, .long 8]) (rest := [.ref (zA Z a0)]) B hH (cy_X8_in B.2.2.2.2.1) (ct_X8_in B.2.2.2.2.2.2.2 l (a2.toInt64) 0 8 h1 _ _  hw) ⟨⟨rfl, rfl⟩, Nat.le_of_ble_eq_true rfl, Nat.le_of_ble_eq_true rfl, Nat.zero_le _, Nat.zero_le _⟩ (tw_1010 B.2.2.2.2.1) rfl hl.1 rfl (Nat.le_of_ble_eq_true rfl) dX8_loopOf_22 ?_
    clear hw hH
    intro r5 h4 H locs hw hH
    refine lv_if_eq (tgt := 32) B.1 B.2.1 dX8_loopOf_25 (by decide) (fun c6 => ?_) (fun c6 => ?_)
    · replace hw := hw.1 c6
      refine lv_iconst (v := 2) B.1 B.2.1 dX8_loopOf_32 (by decide) ?_
      refine c_V_I (own := RX8) (As := [.int 2]) (rest := []) B hH (cy_X8_refused B.2.2.2.2.1) (ct_X8_refused B.2.2.2.2.2.2.2 l a0 2 h4 _ _ (k0) hw) ⟨⟨rfl, rfl⟩, Nat.le_of_ble_eq_true rfl, Nat.le_of_ble_eq_true rfl, Nat.zero_le _, Nat.zero_le _⟩ (rv_8 B hH (k0)) (tw_1013 B.2.2.2.2.1) rfl hl.1 rfl (Nat.le_of_ble_eq_true rfl) dX8_loopOf_33 ?_
      clear hw hH
      intro r8 h7 H locs hw hH
      refine lv_if_eq (tgt := 41) B.1 B.2.1 dX8_loopOf_36 (by decide) (fun c9 => ?_) (fun c9 => ?_)
      · replace hw := hw.1 c9
        refine lv_aload_n B.1 B.2.1 dX8_loopOf_41 rfl (lv_at hl 0 rfl) ?_
        refine r_get B hH (own := RX8) (kd_n B (k0) (by decide) (by decide)) (ct_8 (k0)) rfl (ul_8 B.2.2.2.2.1) 3 (by decide) rfl (tw_969 B.2.2.2.2.1) dX8_loopOf_42 ?_
        refine lv_iload_n B.1 B.2.1 dX8_loopOf_45 rfl (lv_at hl 1 rfl) ?_
        refine lv_iconst (v := 0) B.1 B.2.1 dX8_loopOf_46 (by decide) ?_
        refine c_S_I (own := RX8) (As := [.ref (zA Z (a0 + 2)), .int a1, .int 0]) (rest := []) B hH (cy_X8_of B.2.2.2.2.1) (ct_X8_of B.2.2.2.2.2.2.2 l (a0 + 2) a1 0 h7 _ _ (kf_8_3 (k0)) hw) ⟨⟨rfl, rfl⟩, Nat.le_of_ble_eq_true rfl, Nat.le_of_ble_eq_true rfl, Nat.zero_le _, Nat.zero_le _⟩ (tw_1098 B.2.2.2.2.1) rfl hl.1 rfl (Nat.le_of_ble_eq_true rfl) dX8_loopOf_47 ?_
        clear hw hH
        intro r11 h10 H locs hw hH
        refine lv_if_ne (tgt := 57) B.1 B.2.1 dX8_loopOf_50 (by decide) (fun c12 => ?_) (fun c12 => ?_)
        · replace hw := hw.1 c12
          refine lv_iconst (v := 0) B.1 B.2.1 dX8_loopOf_57 (by decide) ?_
          refine lv_istore_n (lv' := [(3, .int 0), (0, .ref (zA Z a0)), (1, .int a1), (2, .int a2)]) B.1 B.2.1 dX8_loopOf_58 rfl hl (by decide) (by first | rfl | simp [va_re_cat, Value.category]) ?_
          clear hl
          intro ls hl
          refine lv_aload_n B.1 B.2.1 dX8_loopOf_59 rfl (lv_at hl 1 rfl) ?_
          refine r_get B hH (own := RX8) (kd_n B (k0) (by decide) (by decide)) (ct_8 (k0)) rfl (ul_8 B.2.2.2.2.1) 3 (by decide) rfl (tw_969 B.2.2.2.2.1) dX8_loopOf_60 ?_
          refine lv_iload_n B.1 B.2.1 dX8_loopOf_63 rfl (lv_at hl 2 rfl) ?_
          refine lv_iconst (v := 3) B.1 B.2.1 dX8_loopOf_64 (by decide) ?_
          refine c_S_I (own := RX8) (As := [.ref (zA Z (a0 + 2)), .int a1, .int 3]) (rest := []) B hH (cy_X8_of B.2.2.2.2.1) (ct_X8_of B.2.2.2.2.2.2.2 l (a0 + 2) a1 3 h10 _ _ (kf_8_3 (k0)) hw) ⟨⟨rfl, rfl⟩, Nat.le_of_ble_eq_true rfl, Nat.le_of_ble_eq_true rfl, Nat.zero_le _, Nat.zero_le _⟩ (tw_1098 B.2.2.2.2.1) rfl hl.1 rfl (Nat.le_of_ble_eq_true rfl) dX8_loopOf_65 ?_
          clear hw hH
          intro r14 h13 H locs hw hH
          refine lv_aload_n B.1 B.2.1 dX8_loopOf_68 rfl (lv_at hl 1 rfl) ?_
          refine r_get B hH (own := RX8) (kd_n B (k0) (by decide) (by decide)) (ct_8 (k0)) rfl (ul_8 B.2.2.2.2.1) 3 (by decide) rfl (tw_969 B.2.2.2.2.1) dX8_loopOf_69 ?_
          refine lv_iload_n B.1 B.2.1 dX8_loopOf_72 rfl (lv_at hl 2 rfl) ?_
          refine lv_iconst (v := 2) B.1 B.2.1 dX8_loopOf_73 (by decide) ?_
          refine c_S_I (own := RX8) (As := [.ref (zA Z (a0 + 2)), .int a1, .int 2]) (rest := [.int r14]) B hH (cy_X8_of B.2.2.2.2.1) (ct_X8_of B.2.2.2.2.2.2.2 l (a0 + 2) a1 2 h13 _ _ (kf_8_3 (k0)) hw) ⟨⟨rfl, rfl⟩, Nat.le_of_ble_eq_true rfl, Nat.le_of_ble_eq_true rfl, Nat.zero_le _, Nat.zero_le _⟩ (tw_1098 B.2.2.2.2.1) rfl hl.1 rfl (Nat.le_of_ble_eq_true rfl) dX8_loopOf_74 ?_
          clear hw hH
          intro r16 h15 H locs hw hH
          have q17 := hw.1
          replace hw := hw.2
          refine lv_idiv B.1 B.2.1 dX8_loopOf_77 q17 ?_
          refine lv_topi (fun x18 ex18 => ?_)
          replace hw := hw x18 ex18
          refine lv_istore (lv' := [(4, .int x18), (3, .int 0), (0, .ref (zA Z a0)), (1, .int a1), (2, .int a2)]) B.1 B.2.1 dX8_loopOf_78 hl (by decide) (by first | rfl | simp [va_re_cat, Value.category]) ?_
          clear hl
          intro ls hl
          refine lv_iload_n B.1 B.2.1 dX8_loopOf_80 rfl (lv_at hl 4 rfl) ?_
          by_cases c19 : (a2 = 4)
          · replace hw := hw.1 c19
            refine lv_tableIn (off := 35) (tgt := 116) B.1 B.2.1 dX8_loopOf_81 (by rw [c19]; decide) (by rw [c19]; decide) (by rw [c19]; rfl) (by decide) ?_
            refine lv_iload_n B.1 B.2.1 dX8_loopOf_116 rfl (lv_at hl 1 rfl) ?_
            refine lv_if_eq (tgt := 124) B.1 B.2.1 dX8_loopOf_117 (by decide) (fun _ => ?_) (fun z => absurd z (by decide))
            refine lv_iload B.1 B.2.1 dX8_loopOf_124 (lv_at hl 0 rfl) ?_
            exact e_i B hr hH hw dX8_loopOf_126
          · by_cases c20 : (a2 = 5)
            · replace hw := hw.2.1 c20
              refine lv_tableIn (off := 46) (tgt := 127) B.1 B.2.1 dX8_loopOf_81 (by rw [c20]; decide) (by rw [c20]; decide) (by rw [c20]; rfl) (by decide) ?_
              refine lv_iload_n B.1 B.2.1 dX8_loopOf_127 rfl (lv_at hl 1 rfl) ?_
              refine lv_if_eq (tgt := 135) B.1 B.2.1 dX8_loopOf_128 (by decide) (fun _ => ?_) (fun z => absurd z (by decide))
              refine lv_aload_n B.1 B.2.1 dX8_loopOf_135 rfl (lv_at hl 2 rfl) ?_
              refine r_get B hH (own := RX8) (kd_n B (k0) (by decide) (by decide)) (ct_8 (k0)) rfl (ul_8 B.2.2.2.2.1) 3 (by decide) rfl (tw_969 B.2.2.2.2.1) dX8_loopOf_136 ?_
              refine lv_iload_n B.1 B.2.1 dX8_loopOf_139 rfl (lv_at hl 3 rfl) ?_
              refine lv_bipush (v := 12) B.1 B.2.1 dX8_loopOf_140 (by decide) ?_
              refine lv_iload B.1 B.2.1 dX8_loopOf_142 (lv_at hl 0 rfl) ?_
              refine lv_iadd B.1 B.2.1 dX8_loopOf_144 ?_
              refine c_S_I (own := RX8) (As := [.ref (zA Z (a0 + 2)), .int a1, .int (12 + x18)]) (rest := []) B hH (cy_X8_of B.2.2.2.2.1) (ct_X8_of B.2.2.2.2.2.2.2 l (a0 + 2) a1 (12 + x18) h15 _ _ (kf_8_3 (k0)) hw) ⟨⟨rfl, rfl⟩, Nat.le_of_ble_eq_true rfl, Nat.le_of_ble_eq_true rfl, Nat.zero_le _, Nat.zero_le _⟩ (tw_1098 B.2.2.2.2.1) rfl hl.1 rfl (Nat.le_of_ble_eq_true rfl) dX8_loopOf_145 ?_
              clear hw hH
              intro r22 h21 H locs hw hH
              exact e_i B hr hH hw dX8_loopOf_148
            · by_cases c23 : (a2 = 6)
              · replace hw := hw.2.2.1 c23
                refine lv_tableIn (off := 68) (tgt := 149) B.1 B.2.1 dX8_loopOf_81 (by rw [c23]; decide) (by rw [c23]; decide) (by rw [c23]; rfl) (by decide) ?_
                refine lv_aload_n B.1 B.2.1 dX8_loopOf_149 rfl (lv_at hl 2 rfl) ?_
                refine r_get B hH (own := RX8) (kd_n B (k0) (by decide) (by decide)) (ct_8 (k0)) rfl (ul_8 B.2.2.2.2.1) 3 (by decide) rfl (tw_969 B.2.2.2.2.1) dX8_loopOf_150 ?_
                refine lv_iload_n B.1 B.2.1 dX8_loopOf_153 rfl (lv_at hl 3 rfl) ?_
                refine lv_iconst (v := 4) B.1 B.2.1 dX8_loopOf_154 (by decide) ?_
                refine c_S_I (own := RX8) (As := [.ref (zA Z (a0 + 2)), .int a1, .int 4]) (rest := []) B hH (cy_X8_of B.2.2.2.2.1) (ct_X8_of B.2.2.2.2.2.2.2 l (a0 + 2) a1 4 h15 _ _ (kf_8_3 (k0)) hw) ⟨⟨rfl, rfl⟩, Nat.le_of_ble_eq_true rfl, Nat.le_of_ble_eq_true rfl, Nat.zero_le _, Nat.zero_le _⟩ (tw_1098 B.2.2.2.2.1) rfl hl.1 rfl (Nat.le_of_ble_eq_true rfl) dX8_loopOf_155 ?_
                clear hw hH
                intro r25 h24 H locs hw hH
                exact e_i B hr hH hw dX8_loopOf_158
              · by_cases c26 : (a2 = 7)
                · replace hw := hw.2.2.2.1 c26
                  refine lv_tableIn (off := 78) (tgt := 159) B.1 B.2.1 dX8_loopOf_81 (by rw [c26]; decide) (by rw [c26]; decide) (by rw [c26]; rfl) (by decide) ?_
                  refine lv_iload_n B.1 B.2.1 dX8_loopOf_159 rfl (lv_at hl 1 rfl) ?_
                  refine lv_if_eq (tgt := 167) B.1 B.2.1 dX8_loopOf_160 (by decide) (fun _ => ?_) (fun z => absurd z (by decide))
                  refine lv_aload_n B.1 B.2.1 dX8_loopOf_167 rfl (lv_at hl 2 rfl) ?_
                  refine r_get B hH (own := RX8) (kd_n B (k0) (by decide) (by decide)) (ct_8 (k0)) rfl (ul_8 B.2.2.2.2.1) 3 (by decide) rfl (tw_969 B.2.2.2.2.1) dX8_loopOf_168 ?_
                  refine lv_iload_n B.1 B.2.1 dX8_loopOf_171 rfl (lv_at hl 3 rfl) ?_
                  refine c_S_I (own := RX8) (As := [.ref (zA Z (a0 + 2)), .int a1]) (rest := []) B hH (cy_X8_period B.2.2.2.2.1) (ct_X8_period B.2.2.2.2.2.2.2 l (a0 + 2) a1 h15 _ _ (kf_8_3 (k0)) hw) ⟨⟨rfl, rfl⟩, Nat.le_of_ble_eq_true rfl, Nat.le_of_ble_eq_true rfl, Nat.zero_le _, Nat.zero_le _⟩ (tw_1182 B.2.2.2.2.1) rfl hl.1 rfl (Nat.le_of_ble_eq_true rfl) dX8_loopOf_172 ?_
                  clear hw hH
                  intro r28 h27 H locs hw hH
                  exact e_i B hr hH hw dX8_loopOf_175
                · by_cases c29 : (a2 = 8)
                  · replace hw := hw.2.2.2.2.1 c29
                    refine lv_tableIn (off := 95) (tgt := 176) B.1 B.2.1 dX8_loopOf_81 (by rw [c29]; decide) (by rw [c29]; decide) (by rw [c29]; rfl) (by decide) ?_
                    refine lv_aload_n B.1 B.2.1 dX8_loopOf_176 rfl (lv_at hl 2 rfl) ?_
                    refine r_get B hH (own := RX8) (kd_n B (k0) (by decide) (by decide)) (ct_8 (k0)) rfl (ul_8 B.2.2.2.2.1) 3 (by decide) rfl (tw_969 B.2.2.2.2.1) dX8_loopOf_177 ?_
                    refine lv_iload_n B.1 B.2.1 dX8_loopOf_180 rfl (lv_at hl 3 rfl) ?_
                    refine lv_iconst (v := 5) B.1 B.2.1 dX8_loopOf_181 (by decide) ?_
                    refine c_S_I (own := RX8) (As := [.ref (zA Z (a0 + 2)), .int a1, .int 5]) (rest := []) B hH (cy_X8_of B.2.2.2.2.1) (ct_X8_of B.2.2.2.2.2.2.2 l (a0 + 2) a1 5 h15 _ _ (kf_8_3 (k0)) hw) ⟨⟨rfl, rfl⟩, Nat.le_of_ble_eq_true rfl, Nat.le_of_ble_eq_true rfl, Nat.zero_le _, Nat.zero_le _⟩ (tw_1098 B.2.2.2.2.1) rfl hl.1 rfl (Nat.le_of_ble_eq_true rfl) dX8_loopOf_182 ?_
                    clear hw hH
                    intro r31 h30 H locs hw hH
                    exact e_i B hr hH hw dX8_loopOf_185
                  · replace hw := hw.2.2.2.2.2 c19 c20 c23 c26 c29
                    have t4 := lv_neT (x := a2) (k := 4) (a := 4) c19 (by decide)
                    have t5 := lv_neT (x := a2) (k := 5) (a := 5) c20 (by decide)
                    have t6 := lv_neT (x := a2) (k := 6) (a := 6) c23 (by decide)
                    have t7 := lv_neT (x := a2) (k := 7) (a := 7) c26 (by decide)
                    have t8 := lv_neT (x := a2) (k := 8) (a := 8) c29 (by decide)
                    refine lv_tableOut (tgt := 186) B.1 B.2.1 dX8_loopOf_81 (by omega) (by decide) ?_
                    refine lv_aload_n B.1 B.2.1 dX8_loopOf_186 rfl (lv_at hl 2 rfl) ?_
                    refine r_get B hH (own := RX8) (kd_n B (k0) (by decide) (by decide)) (ct_8 (k0)) rfl (ul_8 B.2.2.2.2.1) 3 (by decide) rfl (tw_969 B.2.2.2.2.1) dX8_loopOf_187 ?_
                    refine lv_iload_n B.1 B.2.1 dX8_loopOf_190 rfl (lv_at hl 3 rfl) ?_
                    refine lv_iload_n B.1 B.2.1 dX8_loopOf_191 rfl (lv_at hl 4 rfl) ?_
                    refine c_S_I (own := RX8) (As := [.ref (zA Z (a0 + 2)), .int a1, .int a2]) (rest := []) B hH (cy_X8_of B.2.2.2.2.1) (ct_X8_of B.2.2.2.2.2.2.2 l (a0 + 2) a1 a2 h15 _ _ (kf_8_3 (k0)) hw) ⟨⟨rfl, rfl⟩, Nat.le_of_ble_eq_true rfl, Nat.le_of_ble_eq_true rfl, Nat.zero_le _, Nat.zero_le _⟩ (tw_1098 B.2.2.2.2.1) rfl hl.1 rfl (Nat.le_of_ble_eq_true rfl) dX8_loopOf_192 ?_
                    clear hw hH
                    intro r33 h32 H locs hw hH
                    exact e_i B hr hH hw dX8_loopOf_195
        · replace hw := hw.2 c12
          refine lv_iconst (v := 1) B.1 B.2.1 dX8_loopOf_53 (by decide) ?_
          refine lv_goto (tgt := 58) B.1 B.2.1 dX8_loopOf_54 (by decide) ?_
          refine lv_istore_n (lv' := [(3, .int 1), (0, .ref (zA Z a0)), (1, .int a1), (2, .int a2)]) B.1 B.2.1 dX8_loopOf_58 rfl hl (by decide) (by first | rfl | simp [va_re_cat, Value.category]) ?_
          clear hl
          intro ls hl
          refine lv_aload_n B.1 B.2.1 dX8_loopOf_59 rfl (lv_at hl 1 rfl) ?_
          refine r_get B hH (own := RX8) (kd_n B (k0) (by decide) (by decide)) (ct_8 (k0)) rfl (ul_8 B.2.2.2.2.1) 3 (by decide) rfl (tw_969 B.2.2.2.2.1) dX8_loopOf_60 ?_
          refine lv_iload_n B.1 B.2.1 dX8_loopOf_63 rfl (lv_at hl 2 rfl) ?_
          refine lv_iconst (v := 3) B.1 B.2.1 dX8_loopOf_64 (by decide) ?_
          refine c_S_I (own := RX8) (As := [.ref (zA Z (a0 + 2)), .int a1, .int 3]) (rest := []) B hH (cy_X8_of B.2.2.2.2.1) (ct_X8_of B.2.2.2.2.2.2.2 l (a0 + 2) a1 3 h10 _ _ (kf_8_3 (k0)) hw) ⟨⟨rfl, rfl⟩, Nat.le_of_ble_eq_true rfl, Nat.le_of_ble_eq_true rfl, Nat.zero_le _, Nat.zero_le _⟩ (tw_1098 B.2.2.2.2.1) rfl hl.1 rfl (Nat.le_of_ble_eq_true rfl) dX8_loopOf_65 ?_
          clear hw hH
          intro r35 h34 H locs hw hH
          refine lv_aload_n B.1 B.2.1 dX8_loopOf_68 rfl (lv_at hl 1 rfl) ?_
          refine r_get B hH (own := RX8) (kd_n B (k0) (by decide) (by decide)) (ct_8 (k0)) rfl (ul_8 B.2.2.2.2.1) 3 (by decide) rfl (tw_969 B.2.2.2.2.1) dX8_loopOf_69 ?_
          refine lv_iload_n B.1 B.2.1 dX8_loopOf_72 rfl (lv_at hl 2 rfl) ?_
          refine lv_iconst (v := 2) B.1 B.2.1 dX8_loopOf_73 (by decide) ?_
          refine c_S_I (own := RX8) (As := [.ref (zA Z (a0 + 2)), .int a1, .int 2]) (rest := [.int r35]) B hH (cy_X8_of B.2.2.2.2.1) (ct_X8_of B.2.2.2.2.2.2.2 l (a0 + 2) a1 2 h34 _ _ (kf_8_3 (k0)) hw) ⟨⟨rfl, rfl⟩, Nat.le_of_ble_eq_true rfl, Nat.le_of_ble_eq_true rfl, Nat.zero_le _, Nat.zero_le _⟩ (tw_1098 B.2.2.2.2.1) rfl hl.1 rfl (Nat.le_of_ble_eq_true rfl) dX8_loopOf_74 ?_
          clear hw hH
          intro r37 h36 H locs hw hH
          have q38 := hw.1
          replace hw := hw.2
          refine lv_idiv B.1 B.2.1 dX8_loopOf_77 q38 ?_
          refine lv_topi (fun x39 ex39 => ?_)
          replace hw := hw x39 ex39
          refine lv_istore (lv' := [(4, .int x39), (3, .int 1), (0, .ref (zA Z a0)), (1, .int a1), (2, .int a2)]) B.1 B.2.1 dX8_loopOf_78 hl (by decide) (by first | rfl | simp [va_re_cat, Value.category]) ?_
          clear hl
          intro ls hl
          refine lv_iload_n B.1 B.2.1 dX8_loopOf_80 rfl (lv_at hl 4 rfl) ?_
          by_cases c40 : (a2 = 4)
          · replace hw := hw.1 c40
            refine lv_tableIn (off := 35) (tgt := 116) B.1 B.2.1 dX8_loopOf_81 (by rw [c40]; decide) (by rw [c40]; decide) (by rw [c40]; rfl) (by decide) ?_
            refine lv_iload_n B.1 B.2.1 dX8_loopOf_116 rfl (lv_at hl 1 rfl) ?_
            refine lv_if_eq (tgt := 124) B.1 B.2.1 dX8_loopOf_117 (by decide) (fun z => absurd z (by decide)) (fun _ => ?_)
            refine lv_iconst (v := (-1)) B.1 B.2.1 dX8_loopOf_120 (by decide) ?_
            refine lv_goto (tgt := 126) B.1 B.2.1 dX8_loopOf_121 (by decide) ?_
            exact e_i B hr hH hw dX8_loopOf_126
          · by_cases c41 : (a2 = 5)
            · replace hw := hw.2.1 c41
              refine lv_tableIn (off := 46) (tgt := 127) B.1 B.2.1 dX8_loopOf_81 (by rw [c41]; decide) (by rw [c41]; decide) (by rw [c41]; rfl) (by decide) ?_
              refine lv_iload_n B.1 B.2.1 dX8_loopOf_127 rfl (lv_at hl 1 rfl) ?_
              refine lv_if_eq (tgt := 135) B.1 B.2.1 dX8_loopOf_128 (by decide) (fun z => absurd z (by decide)) (fun _ => ?_)
              refine lv_iconst (v := 0) B.1 B.2.1 dX8_loopOf_131 (by decide) ?_
              refine lv_goto (tgt := 148) B.1 B.2.1 dX8_loopOf_132 (by decide) ?_
              exact e_i B hr hH hw dX8_loopOf_148
            · by_cases c42 : (a2 = 6)
              · replace hw := hw.2.2.1 c42
                refine lv_tableIn (off := 68) (tgt := 149) B.1 B.2.1 dX8_loopOf_81 (by rw [c42]; decide) (by rw [c42]; decide) (by rw [c42]; rfl) (by decide) ?_
                refine lv_aload_n B.1 B.2.1 dX8_loopOf_149 rfl (lv_at hl 2 rfl) ?_
                refine r_get B hH (own := RX8) (kd_n B (k0) (by decide) (by decide)) (ct_8 (k0)) rfl (ul_8 B.2.2.2.2.1) 3 (by decide) rfl (tw_969 B.2.2.2.2.1) dX8_loopOf_150 ?_
                refine lv_iload_n B.1 B.2.1 dX8_loopOf_153 rfl (lv_at hl 3 rfl) ?_
                refine lv_iconst (v := 4) B.1 B.2.1 dX8_loopOf_154 (by decide) ?_
                refine c_S_I (own := RX8) (As := [.ref (zA Z (a0 + 2)), .int a1, .int 4]) (rest := []) B hH (cy_X8_of B.2.2.2.2.1) (ct_X8_of B.2.2.2.2.2.2.2 l (a0 + 2) a1 4 h36 _ _ (kf_8_3 (k0)) hw) ⟨⟨rfl, rfl⟩, Nat.le_of_ble_eq_true rfl, Nat.le_of_ble_eq_true rfl, Nat.zero_le _, Nat.zero_le _⟩ (tw_1098 B.2.2.2.2.1) rfl hl.1 rfl (Nat.le_of_ble_eq_true rfl) dX8_loopOf_155 ?_
                clear hw hH
                intro r44 h43 H locs hw hH
                exact e_i B hr hH hw dX8_loopOf_158
              · by_cases c45 : (a2 = 7)
                · replace hw := hw.2.2.2.1 c45
                  refine lv_tableIn (off := 78) (tgt := 159) B.1 B.2.1 dX8_loopOf_81 (by rw [c45]; decide) (by rw [c45]; decide) (by rw [c45]; rfl) (by decide) ?_
                  refine lv_iload_n B.1 B.2.1 dX8_loopOf_159 rfl (lv_at hl 1 rfl) ?_
                  refine lv_if_eq (tgt := 167) B.1 B.2.1 dX8_loopOf_160 (by decide) (fun z => absurd z (by decide)) (fun _ => ?_)
                  refine lv_iconst (v := (-1)) B.1 B.2.1 dX8_loopOf_163 (by decide) ?_
                  refine lv_goto (tgt := 175) B.1 B.2.1 dX8_loopOf_164 (by decide) ?_
                  exact e_i B hr hH hw dX8_loopOf_175
                · by_cases c46 : (a2 = 8)
                  · replace hw := hw.2.2.2.2.1 c46
                    refine lv_tableIn (off := 95) (tgt := 176) B.1 B.2.1 dX8_loopOf_81 (by rw [c46]; decide) (by rw [c46]; decide) (by rw [c46]; rfl) (by decide) ?_
                    refine lv_aload_n B.1 B.2.1 dX8_loopOf_176 rfl (lv_at hl 2 rfl) ?_
                    refine r_get B hH (own := RX8) (kd_n B (k0) (by decide) (by decide)) (ct_8 (k0)) rfl (ul_8 B.2.2.2.2.1) 3 (by decide) rfl (tw_969 B.2.2.2.2.1) dX8_loopOf_177 ?_
                    refine lv_iload_n B.1 B.2.1 dX8_loopOf_180 rfl (lv_at hl 3 rfl) ?_
                    refine lv_iconst (v := 5) B.1 B.2.1 dX8_loopOf_181 (by decide) ?_
                    refine c_S_I (own := RX8) (As := [.ref (zA Z (a0 + 2)), .int a1, .int 5]) (rest := []) B hH (cy_X8_of B.2.2.2.2.1) (ct_X8_of B.2.2.2.2.2.2.2 l (a0 + 2) a1 5 h36 _ _ (kf_8_3 (k0)) hw) ⟨⟨rfl, rfl⟩, Nat.le_of_ble_eq_true rfl, Nat.le_of_ble_eq_true rfl, Nat.zero_le _, Nat.zero_le _⟩ (tw_1098 B.2.2.2.2.1) rfl hl.1 rfl (Nat.le_of_ble_eq_true rfl) dX8_loopOf_182 ?_
                    clear hw hH
                    intro r48 h47 H locs hw hH
                    exact e_i B hr hH hw dX8_loopOf_185
                  · replace hw := hw.2.2.2.2.2 c40 c41 c42 c45 c46
                    have t4 := lv_neT (x := a2) (k := 4) (a := 4) c40 (by decide)
                    have t5 := lv_neT (x := a2) (k := 5) (a := 5) c41 (by decide)
                    have t6 := lv_neT (x := a2) (k := 6) (a := 6) c42 (by decide)
                    have t7 := lv_neT (x := a2) (k := 7) (a := 7) c45 (by decide)
                    have t8 := lv_neT (x := a2) (k := 8) (a := 8) c46 (by decide)
                    refine lv_tableOut (tgt := 186) B.1 B.2.1 dX8_loopOf_81 (by omega) (by decide) ?_
                    refine lv_aload_n B.1 B.2.1 dX8_loopOf_186 rfl (lv_at hl 2 rfl) ?_
                    refine r_get B hH (own := RX8) (kd_n B (k0) (by decide) (by decide)) (ct_8 (k0)) rfl (ul_8 B.2.2.2.2.1) 3 (by decide) rfl (tw_969 B.2.2.2.2.1) dX8_loopOf_187 ?_
                    refine lv_iload_n B.1 B.2.1 dX8_loopOf_190 rfl (lv_at hl 3 rfl) ?_
                    refine lv_iload_n B.1 B.2.1 dX8_loopOf_191 rfl (lv_at hl 4 rfl) ?_
                    refine c_S_I (own := RX8) (As := [.ref (zA Z (a0 + 2)), .int a1, .int a2]) (rest := []) B hH (cy_X8_of B.2.2.2.2.1) (ct_X8_of B.2.2.2.2.2.2.2 l (a0 + 2) a1 a2 h36 _ _ (kf_8_3 (k0)) hw) ⟨⟨rfl, rfl⟩, Nat.le_of_ble_eq_true rfl, Nat.le_of_ble_eq_true rfl, Nat.zero_le _, Nat.zero_le _⟩ (tw_1098 B.2.2.2.2.1) rfl hl.1 rfl (Nat.le_of_ble_eq_true rfl) dX8_loopOf_192 ?_
                    clear hw hH
                    intro r50 h49 H locs hw hH
                    exact e_i B hr hH hw dX8_loopOf_195
      · replace hw := hw.2 c9
        refine lv_iconst (v := 0) B.1 B.2.1 dX8_loopOf_39 (by decide) ?_
        exact e_i B hr hH hw dX8_loopOf_40
    · replace hw := hw.2 c6
      refine lv_iconst (v := 0) B.1 B.2.1 dX8_loopOf_28 (by decide) ?_
      refine lv_goto (tgt := 33) B.1 B.2.1 dX8_loopOf_29 (by decide) ?_
      refine c_V_I (own := RX8) (As := [.int 0]) (rest := []) B hH (cy_X8_refused B.2.2.2.2.1) (ct_X8_refused B.2.2.2.2.2.2.2 l a0 0 h4 _ _ (k0) hw) ⟨⟨rfl, rfl⟩, Nat.le_of_ble_eq_true rfl, Nat.le_of_ble_eq_true rfl, Nat.zero_le _, Nat.zero_le _⟩ (rv_8 B hH (k0)) (tw_1013 B.2.2.2.2.1) rfl hl.1 rfl (Nat.le_of_ble_eq_true rfl) dX8_loopOf_33 ?_
      clear hw hH
      intro r52 h51 H locs hw hH
      refine lv_if_eq (tgt := 41) B.1 B.2.1 dX8_loopOf_36 (by decide) (fun c53 => ?_) (fun c53 => ?_)
      · replace hw := hw.1 c53
        refine lv_aload_n B.1 B.2.1 dX8_loopOf_41 rfl (lv_at hl 0 rfl) ?_
        refine r_get B hH (own := RX8) (kd_n B (k0) (by decide) (by decide)) (ct_8 (k0)) rfl (ul_8 B.2.2.2.2.1) 3 (by decide) rfl (tw_969 B.2.2.2.2.1) dX8_loopOf_42 ?_
        refine lv_iload_n B.1 B.2.1 dX8_loopOf_45 rfl (lv_at hl 1 rfl) ?_
        refine lv_iconst (v := 0) B.1 B.2.1 dX8_loopOf_46 (by decide) ?_
        refine c_S_I (own := RX8) (As := [.ref (zA Z (a0 + 2)), .int a1, .int 0]) (rest := []) B hH (cy_X8_of B.2.2.2.2.1) (ct_X8_of B.2.2.2.2.2.2.2 l (a0 + 2) a1 0 h51 _ _ (kf_8_3 (k0)) hw) ⟨⟨rfl, rfl⟩, Nat.le_of_ble_eq_true rfl, Nat.le_of_ble_eq_true rfl, Nat.zero_le _, Nat.zero_le _⟩ (tw_1098 B.2.2.2.2.1) rfl hl.1 rfl (Nat.le_of_ble_eq_true rfl) dX8_loopOf_47 ?_
        clear hw hH
        intro r55 h54 H locs hw hH
        refine lv_if_ne (tgt := 57) B.1 B.2.1 dX8_loopOf_50 (by decide) (fun c56 => ?_) (fun c56 => ?_)
        · replace hw := hw.1 c56
          refine lv_iconst (v := 0) B.1 B.2.1 dX8_loopOf_57 (by decide) ?_
          refine lv_istore_n (lv' := [(3, .int 0), (0, .ref (zA Z a0)), (1, .int a1), (2, .int a2)]) B.1 B.2.1 dX8_loopOf_58 rfl hl (by decide) (by first | rfl | simp [va_re_cat, Value.category]) ?_
          clear hl
          intro ls hl
          refine lv_aload_n B.1 B.2.1 dX8_loopOf_59 rfl (lv_at hl 1 rfl) ?_
          refine r_get B hH (own := RX8) (kd_n B (k0) (by decide) (by decide)) (ct_8 (k0)) rfl (ul_8 B.2.2.2.2.1) 3 (by decide) rfl (tw_969 B.2.2.2.2.1) dX8_loopOf_60 ?_
          refine lv_iload_n B.1 B.2.1 dX8_loopOf_63 rfl (lv_at hl 2 rfl) ?_
          refine lv_iconst (v := 3) B.1 B.2.1 dX8_loopOf_64 (by decide) ?_
          refine c_S_I (own := RX8) (As := [.ref (zA Z (a0 + 2)), .int a1, .int 3]) (rest := []) B hH (cy_X8_of B.2.2.2.2.1) (ct_X8_of B.2.2.2.2.2.2.2 l (a0 + 2) a1 3 h54 _ _ (kf_8_3 (k0)) hw) ⟨⟨rfl, rfl⟩, Nat.le_of_ble_eq_true rfl, Nat.le_of_ble_eq_true rfl, Nat.zero_le _, Nat.zero_le _⟩ (tw_1098 B.2.2.2.2.1) rfl hl.1 rfl (Nat.le_of_ble_eq_true rfl) dX8_loopOf_65 ?_
          clear hw hH
          intro r58 h57 H locs hw hH
          refine lv_aload_n B.1 B.2.1 dX8_loopOf_68 rfl (lv_at hl 1 rfl) ?_
          refine r_get B hH (own := RX8) (kd_n B (k0) (by decide) (by decide)) (ct_8 (k0)) rfl (ul_8 B.2.2.2.2.1) 3 (by decide) rfl (tw_969 B.2.2.2.2.1) dX8_loopOf_69 ?_
          refine lv_iload_n B.1 B.2.1 dX8_loopOf_72 rfl (lv_at hl 2 rfl) ?_
          refine lv_iconst (v := 2) B.1 B.2.1 dX8_loopOf_73 (by decide) ?_
          refine c_S_I (own := RX8) (As := [.ref (zA Z (a0 + 2)), .int a1, .int 2]) (rest := [.int r58]) B hH (cy_X8_of B.2.2.2.2.1) (ct_X8_of B.2.2.2.2.2.2.2 l (a0 + 2) a1 2 h57 _ _ (kf_8_3 (k0)) hw) ⟨⟨rfl, rfl⟩, Nat.le_of_ble_eq_true rfl, Nat.le_of_ble_eq_true rfl, Nat.zero_le _, Nat.zero_le _⟩ (tw_1098 B.2.2.2.2.1) rfl hl.1 rfl (Nat.le_of_ble_eq_true rfl) dX8_loopOf_74 ?_
          clear hw hH
          intro r60 h59 H locs hw hH
          have q61 := hw.1
          replace hw := hw.2
          refine lv_idiv B.1 B.2.1 dX8_loopOf_77 q61 ?_
          refine lv_topi (fun x62 ex62 => ?_)
          replace hw := hw x62 ex62
          refine lv_istore (lv' := [(4, .int x62), (3, .int 0), (0, .ref (zA Z a0)), (1, .int a1), (2, .int a2)]) B.1 B.2.1 dX8_loopOf_78 hl (by decide) (by first | rfl | simp [va_re_cat, Value.category]) ?_
          clear hl
          intro ls hl
          refine lv_iload_n B.1 B.2.1 dX8_loopOf_80 rfl (lv_at hl 4 rfl) ?_
          by_cases c63 : (a2 = 4)
          · replace hw := hw.1 c63
            refine lv_tableIn (off := 35) (tgt := 116) B.1 B.2.1 dX8_loopOf_81 (by rw [c63]; decide) (by rw [c63]; decide) (by rw [c63]; rfl) (by decide) ?_
            refine lv_iload_n B.1 B.2.1 dX8_loopOf_116 rfl (lv_at hl 1 rfl) ?_
            refine lv_if_eq (tgt := 124) B.1 B.2.1 dX8_loopOf_117 (by decide) (fun _ => ?_) (fun z => absurd z (by decide))
            refine lv_iload B.1 B.2.1 dX8_loopOf_124 (lv_at hl 0 rfl) ?_
            exact e_i B hr hH hw dX8_loopOf_126
          · by_cases c64 : (a2 = 5)
            · replace hw := hw.2.1 c64
              refine lv_tableIn (off := 46) (tgt := 127) B.1 B.2.1 dX8_loopOf_81 (by rw [c64]; decide) (by rw [c64]; decide) (by rw [c64]; rfl) (by decide) ?_
              refine lv_iload_n B.1 B.2.1 dX8_loopOf_127 rfl (lv_at hl 1 rfl) ?_
              refine lv_if_eq (tgt := 135) B.1 B.2.1 dX8_loopOf_128 (by decide) (fun _ => ?_) (fun z => absurd z (by decide))
              refine lv_aload_n B.1 B.2.1 dX8_loopOf_135 rfl (lv_at hl 2 rfl) ?_
              refine r_get B hH (own := RX8) (kd_n B (k0) (by decide) (by decide)) (ct_8 (k0)) rfl (ul_8 B.2.2.2.2.1) 3 (by decide) rfl (tw_969 B.2.2.2.2.1) dX8_loopOf_136 ?_
              refine lv_iload_n B.1 B.2.1 dX8_loopOf_139 rfl (lv_at hl 3 rfl) ?_
              refine lv_bipush (v := 12) B.1 B.2.1 dX8_loopOf_140 (by decide) ?_
              refine lv_iload B.1 B.2.1 dX8_loopOf_142 (lv_at hl 0 rfl) ?_
              refine lv_iadd B.1 B.2.1 dX8_loopOf_144 ?_
              refine c_S_I (own := RX8) (As := [.ref (zA Z (a0 + 2)), .int a1, .int (12 + x62)]) (rest := []) B hH (cy_X8_of B.2.2.2.2.1) (ct_X8_of B.2.2.2.2.2.2.2 l (a0 + 2) a1 (12 + x62) h59 _ _ (kf_8_3 (k0)) hw) ⟨⟨rfl, rfl⟩, Nat.le_of_ble_eq_true rfl, Nat.le_of_ble_eq_true rfl, Nat.zero_le _, Nat.zero_le _⟩ (tw_1098 B.2.2.2.2.1) rfl hl.1 rfl (Nat.le_of_ble_eq_true rfl) dX8_loopOf_145 ?_
              clear hw hH
              intro r66 h65 H locs hw hH
              exact e_i B hr hH hw dX8_loopOf_148
            · by_cases c67 : (a2 = 6)
              · replace hw := hw.2.2.1 c67
                refine lv_tableIn (off := 68) (tgt := 149) B.1 B.2.1 dX8_loopOf_81 (by rw [c67]; decide) (by rw [c67]; decide) (by rw [c67]; rfl) (by decide) ?_
                refine lv_aload_n B.1 B.2.1 dX8_loopOf_149 rfl (lv_at hl 2 rfl) ?_
                refine r_get B hH (own := RX8) (kd_n B (k0) (by decide) (by decide)) (ct_8 (k0)) rfl (ul_8 B.2.2.2.2.1) 3 (by decide) rfl (tw_969 B.2.2.2.2.1) dX8_loopOf_150 ?_
                refine lv_iload_n B.1 B.2.1 dX8_loopOf_153 rfl (lv_at hl 3 rfl) ?_
                refine lv_iconst (v := 4) B.1 B.2.1 dX8_loopOf_154 (by decide) ?_
                refine c_S_I (own := RX8) (As := [.ref (zA Z (a0 + 2)), .int a1, .int 4]) (rest := []) B hH (cy_X8_of B.2.2.2.2.1) (ct_X8_of B.2.2.2.2.2.2.2 l (a0 + 2) a1 4 h59 _ _ (kf_8_3 (k0)) hw) ⟨⟨rfl, rfl⟩, Nat.le_of_ble_eq_true rfl, Nat.le_of_ble_eq_true rfl, Nat.zero_le _, Nat.zero_le _⟩ (tw_1098 B.2.2.2.2.1) rfl hl.1 rfl (Nat.le_of_ble_eq_true rfl) dX8_loopOf_155 ?_
                clear hw hH
                intro r69 h68 H locs hw hH
                exact e_i B hr hH hw dX8_loopOf_158
              · by_cases c70 : (a2 = 7)
                · replace hw := hw.2.2.2.1 c70
                  refine lv_tableIn (off := 78) (tgt := 159) B.1 B.2.1 dX8_loopOf_81 (by rw [c70]; decide) (by rw [c70]; decide) (by rw [c70]; rfl) (by decide) ?_
                  refine lv_iload_n B.1 B.2.1 dX8_loopOf_159 rfl (lv_at hl 1 rfl) ?_
                  refine lv_if_eq (tgt := 167) B.1 B.2.1 dX8_loopOf_160 (by decide) (fun _ => ?_) (fun z => absurd z (by decide))
                  refine lv_aload_n B.1 B.2.1 dX8_loopOf_167 rfl (lv_at hl 2 rfl) ?_
                  refine r_get B hH (own := RX8) (kd_n B (k0) (by decide) (by decide)) (ct_8 (k0)) rfl (ul_8 B.2.2.2.2.1) 3 (by decide) rfl (tw_969 B.2.2.2.2.1) dX8_loopOf_168 ?_
                  refine lv_iload_n B.1 B.2.1 dX8_loopOf_171 rfl (lv_at hl 3 rfl) ?_
                  refine c_S_I (own := RX8) (As := [.ref (zA Z (a0 + 2)), .int a1]) (rest := []) B hH (cy_X8_period B.2.2.2.2.1) (ct_X8_period B.2.2.2.2.2.2.2 l (a0 + 2) a1 h59 _ _ (kf_8_3 (k0)) hw) ⟨⟨rfl, rfl⟩, Nat.le_of_ble_eq_true rfl, Nat.le_of_ble_eq_true rfl, Nat.zero_le _, Nat.zero_le _⟩ (tw_1182 B.2.2.2.2.1) rfl hl.1 rfl (Nat.le_of_ble_eq_true rfl) dX8_loopOf_172 ?_
                  clear hw hH
                  intro r72 h71 H locs hw hH
                  exact e_i B hr hH hw dX8_loopOf_175
                · by_cases c73 : (a2 = 8)
                  · replace hw := hw.2.2.2.2.1 c73
                    refine lv_tableIn (off := 95) (tgt := 176) B.1 B.2.1 dX8_loopOf_81 (by rw [c73]; decide) (by rw [c73]; decide) (by rw [c73]; rfl) (by decide) ?_
                    refine lv_aload_n B.1 B.2.1 dX8_loopOf_176 rfl (lv_at hl 2 rfl) ?_
                    refine r_get B hH (own := RX8) (kd_n B (k0) (by decide) (by decide)) (ct_8 (k0)) rfl (ul_8 B.2.2.2.2.1) 3 (by decide) rfl (tw_969 B.2.2.2.2.1) dX8_loopOf_177 ?_
                    refine lv_iload_n B.1 B.2.1 dX8_loopOf_180 rfl (lv_at hl 3 rfl) ?_
                    refine lv_iconst (v := 5) B.1 B.2.1 dX8_loopOf_181 (by decide) ?_
                    refine c_S_I (own := RX8) (As := [.ref (zA Z (a0 + 2)), .int a1, .int 5]) (rest := []) B hH (cy_X8_of B.2.2.2.2.1) (ct_X8_of B.2.2.2.2.2.2.2 l (a0 + 2) a1 5 h59 _ _ (kf_8_3 (k0)) hw) ⟨⟨rfl, rfl⟩, Nat.le_of_ble_eq_true rfl, Nat.le_of_ble_eq_true rfl, Nat.zero_le _, Nat.zero_le _⟩ (tw_1098 B.2.2.2.2.1) rfl hl.1 rfl (Nat.le_of_ble_eq_true rfl) dX8_loopOf_182 ?_
                    clear hw hH
                    intro r75 h74 H locs hw hH
                    exact e_i B hr hH hw dX8_loopOf_185
                  · replace hw := hw.2.2.2.2.2 c63 c64 c67 c70 c73
                    have t4 := lv_neT (x := a2) (k := 4) (a := 4) c63 (by decide)
                    have t5 := lv_neT (x := a2) (k := 5) (a := 5) c64 (by decide)
                    have t6 := lv_neT (x := a2) (k := 6) (a := 6) c67 (by decide)
                    have t7 := lv_neT (x := a2) (k := 7) (a := 7) c70 (by decide)
                    have t8 := lv_neT (x := a2) (k := 8) (a := 8) c73 (by decide)
                    refine lv_tableOut (tgt := 186) B.1 B.2.1 dX8_loopOf_81 (by omega) (by decide) ?_
                    refine lv_aload_n B.1 B.2.1 dX8_loopOf_186 rfl (lv_at hl 2 rfl) ?_
                    refine r_get B hH (own := RX8) (kd_n B (k0) (by decide) (by decide)) (ct_8 (k0)) rfl (ul_8 B.2.2.2.2.1) 3 (by decide) rfl (tw_969 B.2.2.2.2.1) dX8_loopOf_187 ?_
                    refine lv_iload_n B.1 B.2.1 dX8_loopOf_190 rfl (lv_at hl 3 rfl) ?_
                    refine lv_iload_n B.1 B.2.1 dX8_loopOf_191 rfl (lv_at hl 4 rfl) ?_
                    refine c_S_I (own := RX8) (As := [.ref (zA Z (a0 + 2)), .int a1, .int a2]) (rest := []) B hH (cy_X8_of B.2.2.2.2.1) (ct_X8_of B.2.2.2.2.2.2.2 l (a0 + 2) a1 a2 h59 _ _ (kf_8_3 (k0)) hw) ⟨⟨rfl, rfl⟩, Nat.le_of_ble_eq_true rfl, Nat.le_of_ble_eq_true rfl, Nat.zero_le _, Nat.zero_le _⟩ (tw_1098 B.2.2.2.2.1) rfl hl.1 rfl (Nat.le_of_ble_eq_true rfl) dX8_loopOf_192 ?_
                    clear hw hH
                    intro r77 h76 H locs hw hH
                    exact e_i B hr hH hw dX8_loopOf_195
        · replace hw := hw.2 c56
          refine lv_iconst (v := 1) B.1 B.2.1 dX8_loopOf_53 (by decide) ?_
          refine lv_goto (tgt := 58) B.1 B.2.1 dX8_loopOf_54 (by decide) ?_
          refine lv_istore_n (lv' := [(3, .int 1), (0, .ref (zA Z a0)), (1, .int a1), (2, .int a2)]) B.1 B.2.1 dX8_loopOf_58 rfl hl (by decide) (by first | rfl | simp [va_re_cat, Value.category]) ?_
          clear hl
          intro ls hl
          refine lv_aload_n B.1 B.2.1 dX8_loopOf_59 rfl (lv_at hl 1 rfl) ?_
          refine r_get B hH (own := RX8) (kd_n B (k0) (by decide) (by decide)) (ct_8 (k0)) rfl (ul_8 B.2.2.2.2.1) 3 (by decide) rfl (tw_969 B.2.2.2.2.1) dX8_loopOf_60 ?_
          refine lv_iload_n B.1 B.2.1 dX8_loopOf_63 rfl (lv_at hl 2 rfl) ?_
          refine lv_iconst (v := 3) B.1 B.2.1 dX8_loopOf_64 (by decide) ?_
          refine c_S_I (own := RX8) (As := [.ref (zA Z (a0 + 2)), .int a1, .int 3]) (rest := []) B hH (cy_X8_of B.2.2.2.2.1) (ct_X8_of B.2.2.2.2.2.2.2 l (a0 + 2) a1 3 h54 _ _ (kf_8_3 (k0)) hw) ⟨⟨rfl, rfl⟩, Nat.le_of_ble_eq_true rfl, Nat.le_of_ble_eq_true rfl, Nat.zero_le _, Nat.zero_le _⟩ (tw_1098 B.2.2.2.2.1) rfl hl.1 rfl (Nat.le_of_ble_eq_true rfl) dX8_loopOf_65 ?_
          clear hw hH
          intro r79 h78 H locs hw hH
          refine lv_aload_n B.1 B.2.1 dX8_loopOf_68 rfl (lv_at hl 1 rfl) ?_
          refine r_get B hH (own := RX8) (kd_n B (k0) (by decide) (by decide)) (ct_8 (k0)) rfl (ul_8 B.2.2.2.2.1) 3 (by decide) rfl (tw_969 B.2.2.2.2.1) dX8_loopOf_69 ?_
          refine lv_iload_n B.1 B.2.1 dX8_loopOf_72 rfl (lv_at hl 2 rfl) ?_
          refine lv_iconst (v := 2) B.1 B.2.1 dX8_loopOf_73 (by decide) ?_
          refine c_S_I (own := RX8) (As := [.ref (zA Z (a0 + 2)), .int a1, .int 2]) (rest := [.int r79]) B hH (cy_X8_of B.2.2.2.2.1) (ct_X8_of B.2.2.2.2.2.2.2 l (a0 + 2) a1 2 h78 _ _ (kf_8_3 (k0)) hw) ⟨⟨rfl, rfl⟩, Nat.le_of_ble_eq_true rfl, Nat.le_of_ble_eq_true rfl, Nat.zero_le _, Nat.zero_le _⟩ (tw_1098 B.2.2.2.2.1) rfl hl.1 rfl (Nat.le_of_ble_eq_true rfl) dX8_loopOf_74 ?_
          clear hw hH
          intro r81 h80 H locs hw hH
          have q82 := hw.1
          replace hw := hw.2
          refine lv_idiv B.1 B.2.1 dX8_loopOf_77 q82 ?_
          refine lv_topi (fun x83 ex83 => ?_)
          replace hw := hw x83 ex83
          refine lv_istore (lv' := [(4, .int x83), (3, .int 1), (0, .ref (zA Z a0)), (1, .int a1), (2, .int a2)]) B.1 B.2.1 dX8_loopOf_78 hl (by decide) (by first | rfl | simp [va_re_cat, Value.category]) ?_
          clear hl
          intro ls hl
          refine lv_iload_n B.1 B.2.1 dX8_loopOf_80 rfl (lv_at hl 4 rfl) ?_
          by_cases c84 : (a2 = 4)
          · replace hw := hw.1 c84
            refine lv_tableIn (off := 35) (tgt := 116) B.1 B.2.1 dX8_loopOf_81 (by rw [c84]; decide) (by rw [c84]; decide) (by rw [c84]; rfl) (by decide) ?_
            refine lv_iload_n B.1 B.2.1 dX8_loopOf_116 rfl (lv_at hl 1 rfl) ?_
            refine lv_if_eq (tgt := 124) B.1 B.2.1 dX8_loopOf_117 (by decide) (fun z => absurd z (by decide)) (fun _ => ?_)
            refine lv_iconst (v := (-1)) B.1 B.2.1 dX8_loopOf_120 (by decide) ?_
            refine lv_goto (tgt := 126) B.1 B.2.1 dX8_loopOf_121 (by decide) ?_
            exact e_i B hr hH hw dX8_loopOf_126
          · by_cases c85 : (a2 = 5)
            · replace hw := hw.2.1 c85
              refine lv_tableIn (off := 46) (tgt := 127) B.1 B.2.1 dX8_loopOf_81 (by rw [c85]; decide) (by rw [c85]; decide) (by rw [c85]; rfl) (by decide) ?_
              refine lv_iload_n B.1 B.2.1 dX8_loopOf_127 rfl (lv_at hl 1 rfl) ?_
              refine lv_if_eq (tgt := 135) B.1 B.2.1 dX8_loopOf_128 (by decide) (fun z => absurd z (by decide)) (fun _ => ?_)
              refine lv_iconst (v := 0) B.1 B.2.1 dX8_loopOf_131 (by decide) ?_
              refine lv_goto (tgt := 148) B.1 B.2.1 dX8_loopOf_132 (by decide) ?_
              exact e_i B hr hH hw dX8_loopOf_148
            · by_cases c86 : (a2 = 6)
              · replace hw := hw.2.2.1 c86
                refine lv_tableIn (off := 68) (tgt := 149) B.1 B.2.1 dX8_loopOf_81 (by rw [c86]; decide) (by rw [c86]; decide) (by rw [c86]; rfl) (by decide) ?_
                refine lv_aload_n B.1 B.2.1 dX8_loopOf_149 rfl (lv_at hl 2 rfl) ?_
                refine r_get B hH (own := RX8) (kd_n B (k0) (by decide) (by decide)) (ct_8 (k0)) rfl (ul_8 B.2.2.2.2.1) 3 (by decide) rfl (tw_969 B.2.2.2.2.1) dX8_loopOf_150 ?_
                refine lv_iload_n B.1 B.2.1 dX8_loopOf_153 rfl (lv_at hl 3 rfl) ?_
                refine lv_iconst (v := 4) B.1 B.2.1 dX8_loopOf_154 (by decide) ?_
                refine c_S_I (own := RX8) (As := [.ref (zA Z (a0 + 2)), .int a1, .int 4]) (rest := []) B hH (cy_X8_of B.2.2.2.2.1) (ct_X8_of B.2.2.2.2.2.2.2 l (a0 + 2) a1 4 h80 _ _ (kf_8_3 (k0)) hw) ⟨⟨rfl, rfl⟩, Nat.le_of_ble_eq_true rfl, Nat.le_of_ble_eq_true rfl, Nat.zero_le _, Nat.zero_le _⟩ (tw_1098 B.2.2.2.2.1) rfl hl.1 rfl (Nat.le_of_ble_eq_true rfl) dX8_loopOf_155 ?_
                clear hw hH
                intro r88 h87 H locs hw hH
                exact e_i B hr hH hw dX8_loopOf_158
              · by_cases c89 : (a2 = 7)
                · replace hw := hw.2.2.2.1 c89
                  refine lv_tableIn (off := 78) (tgt := 159) B.1 B.2.1 dX8_loopOf_81 (by rw [c89]; decide) (by rw [c89]; decide) (by rw [c89]; rfl) (by decide) ?_
                  refine lv_iload_n B.1 B.2.1 dX8_loopOf_159 rfl (lv_at hl 1 rfl) ?_
                  refine lv_if_eq (tgt := 167) B.1 B.2.1 dX8_loopOf_160 (by decide) (fun z => absurd z (by decide)) (fun _ => ?_)
                  refine lv_iconst (v := (-1)) B.1 B.2.1 dX8_loopOf_163 (by decide) ?_
                  refine lv_goto (tgt := 175) B.1 B.2.1 dX8_loopOf_164 (by decide) ?_
                  exact e_i B hr hH hw dX8_loopOf_175
                · by_cases c90 : (a2 = 8)
                  · replace hw := hw.2.2.2.2.1 c90
                    refine lv_tableIn (off := 95) (tgt := 176) B.1 B.2.1 dX8_loopOf_81 (by rw [c90]; decide) (by rw [c90]; decide) (by rw [c90]; rfl) (by decide) ?_
                    refine lv_aload_n B.1 B.2.1 dX8_loopOf_176 rfl (lv_at hl 2 rfl) ?_
                    refine r_get B hH (own := RX8) (kd_n B (k0) (by decide) (by decide)) (ct_8 (k0)) rfl (ul_8 B.2.2.2.2.1) 3 (by decide) rfl (tw_969 B.2.2.2.2.1) dX8_loopOf_177 ?_
                    refine lv_iload_n B.1 B.2.1 dX8_loopOf_180 rfl (lv_at hl 3 rfl) ?_
                    refine lv_iconst (v := 5) B.1 B.2.1 dX8_loopOf_181 (by decide) ?_
                    refine c_S_I (own := RX8) (As := [.ref (zA Z (a0 + 2)), .int a1, .int 5]) (rest := []) B hH (cy_X8_of B.2.2.2.2.1) (ct_X8_of B.2.2.2.2.2.2.2 l (a0 + 2) a1 5 h80 _ _ (kf_8_3 (k0)) hw) ⟨⟨rfl, rfl⟩, Nat.le_of_ble_eq_true rfl, Nat.le_of_ble_eq_true rfl, Nat.zero_le _, Nat.zero_le _⟩ (tw_1098 B.2.2.2.2.1) rfl hl.1 rfl (Nat.le_of_ble_eq_true rfl) dX8_loopOf_182 ?_
                    clear hw hH
                    intro r92 h91 H locs hw hH
                    exact e_i B hr hH hw dX8_loopOf_185
                  · replace hw := hw.2.2.2.2.2 c84 c85 c86 c89 c90
                    have t4 := lv_neT (x := a2) (k := 4) (a := 4) c84 (by decide)
                    have t5 := lv_neT (x := a2) (k := 5) (a := 5) c85 (by decide)
                    have t6 := lv_neT (x := a2) (k := 6) (a := 6) c86 (by decide)
                    have t7 := lv_neT (x := a2) (k := 7) (a := 7) c89 (by decide)
                    have t8 := lv_neT (x := a2) (k := 8) (a := 8) c90 (by decide)
                    refine lv_tableOut (tgt := 186) B.1 B.2.1 dX8_loopOf_81 (by omega) (by decide) ?_
                    refine lv_aload_n B.1 B.2.1 dX8_loopOf_186 rfl (lv_at hl 2 rfl) ?_
                    refine r_get B hH (own := RX8) (kd_n B (k0) (by decide) (by decide)) (ct_8 (k0)) rfl (ul_8 B.2.2.2.2.1) 3 (by decide) rfl (tw_969 B.2.2.2.2.1) dX8_loopOf_187 ?_
                    refine lv_iload_n B.1 B.2.1 dX8_loopOf_190 rfl (lv_at hl 3 rfl) ?_
                    refine lv_iload_n B.1 B.2.1 dX8_loopOf_191 rfl (lv_at hl 4 rfl) ?_
                    refine c_S_I (own := RX8) (As := [.ref (zA Z (a0 + 2)), .int a1, .int a2]) (rest := []) B hH (cy_X8_of B.2.2.2.2.1) (ct_X8_of B.2.2.2.2.2.2.2 l (a0 + 2) a1 a2 h80 _ _ (kf_8_3 (k0)) hw) ⟨⟨rfl, rfl⟩, Nat.le_of_ble_eq_true rfl, Nat.le_of_ble_eq_true rfl, Nat.zero_le _, Nat.zero_le _⟩ (tw_1098 B.2.2.2.2.1) rfl hl.1 rfl (Nat.le_of_ble_eq_true rfl) dX8_loopOf_192 ?_
                    clear hw hH
                    intro r94 h93 H locs hw hH
                    exact e_i B hr hH hw dX8_loopOf_195
      · replace hw := hw.2 c53
        refine lv_iconst (v := 0) B.1 B.2.1 dX8_loopOf_39 (by decide) ?_
        exact e_i B hr hH hw dX8_loopOf_40
  · replace hw := hw.2 c3
    refine lv_iconst (v := 1) B.1 B.2.1 dX8_loopOf_12 (by decide) ?_
    refine lv_goto (tgt := 33) B.1 B.2.1 dX8_loopOf_13 (by decide) ?_
    refine c_V_I (own := RX8) (As := [.int 1]) (rest := []) B hH (cy_X8_refused B.2.2.2.2.1) (ct_X8_refused B.2.2.2.2.2.2.2 l a0 1 h1 _ _ (k0) hw) ⟨⟨rfl, rfl⟩, Nat.le_of_ble_eq_true rfl, Nat.le_of_ble_eq_true rfl, Nat.zero_le _, Nat.zero_le _⟩ (rv_8 B hH (k0)) (tw_1013 B.2.2.2.2.1) rfl hl.1 rfl (Nat.le_of_ble_eq_true rfl) dX8_loopOf_33 ?_
    clear hw hH
    intro r96 h95 H locs hw hH
    refine lv_if_eq (tgt := 41) B.1 B.2.1 dX8_loopOf_36 (by decide) (fun c97 => ?_) (fun c97 => ?_)
    · replace hw := hw.1 c97
      refine lv_aload_n B.1 B.2.1 dX8_loopOf_41 rfl (lv_at hl 0 rfl) ?_
      refine r_get B hH (own := RX8) (kd_n B (k0) (by decide) (by decide)) (ct_8 (k0)) rfl (ul_8 B.2.2.2.2.1) 3 (by decide) rfl (tw_969 B.2.2.2.2.1) dX8_loopOf_42 ?_
      refine lv_iload_n B.1 B.2.1 dX8_loopOf_45 rfl (lv_at hl 1 rfl) ?_
      refine lv_iconst (v := 0) B.1 B.2.1 dX8_loopOf_46 (by decide) ?_
      refine c_S_I (own := RX8) (As := [.ref (zA Z (a0 + 2)), .int a1, .int 0]) (rest := []) B hH (cy_X8_of B.2.2.2.2.1) (ct_X8_of B.2.2.2.2.2.2.2 l (a0 + 2) a1 0 h95 _ _ (kf_8_3 (k0)) hw) ⟨⟨rfl, rfl⟩, Nat.le_of_ble_eq_true rfl, Nat.le_of_ble_eq_true rfl, Nat.zero_le _, Nat.zero_le _⟩ (tw_1098 B.2.2.2.2.1) rfl hl.1 rfl (Nat.le_of_ble_eq_true rfl) dX8_loopOf_47 ?_
      clear hw hH
      intro r99 h98 H locs hw hH
      refine lv_if_ne (tgt := 57) B.1 B.2.1 dX8_loopOf_50 (by decide) (fun c100 => ?_) (fun c100 => ?_)
      · replace hw := hw.1 c100
        refine lv_iconst (v := 0) B.1 B.2.1 dX8_loopOf_57 (by decide) ?_
        refine lv_istore_n (lv' := [(3, .int 0), (0, .ref (zA Z a0)), (1, .int a1), (2, .int a2)]) B.1 B.2.1 dX8_loopOf_58 rfl hl (by decide) (by first | rfl | simp [va_re_cat, Value.category]) ?_
        clear hl
        intro ls hl
        refine lv_aload_n B.1 B.2.1 dX8_loopOf_59 rfl (lv_at hl 1 rfl) ?_
        refine r_get B hH (own := RX8) (kd_n B (k0) (by decide) (by decide)) (ct_8 (k0)) rfl (ul_8 B.2.2.2.2.1) 3 (by decide) rfl (tw_969 B.2.2.2.2.1) dX8_loopOf_60 ?_
        refine lv_iload_n B.1 B.2.1 dX8_loopOf_63 rfl (lv_at hl 2 rfl) ?_
        refine lv_iconst (v := 3) B.1 B.2.1 dX8_loopOf_64 (by decide) ?_
        refine c_S_I (own := RX8) (As := [.ref (zA Z (a0 + 2)), .int a1, .int 3]) (rest := []) B hH (cy_X8_of B.2.2.2.2.1) (ct_X8_of B.2.2.2.2.2.2.2 l (a0 + 2) a1 3 h98 _ _ (kf_8_3 (k0)) hw) ⟨⟨rfl, rfl⟩, Nat.le_of_ble_eq_true rfl, Nat.le_of_ble_eq_true rfl, Nat.zero_le _, Nat.zero_le _⟩ (tw_1098 B.2.2.2.2.1) rfl hl.1 rfl (Nat.le_of_ble_eq_true rfl) dX8_loopOf_65 ?_
        clear hw hH
        intro r102 h101 H locs hw hH
        refine lv_aload_n B.1 B.2.1 dX8_loopOf_68 rfl (lv_at hl 1 rfl) ?_
        refine r_get B hH (own := RX8) (kd_n B (k0) (by decide) (by decide)) (ct_8 (k0)) rfl (ul_8 B.2.2.2.2.1) 3 (by decide) rfl (tw_969 B.2.2.2.2.1) dX8_loopOf_69 ?_
        refine lv_iload_n B.1 B.2.1 dX8_loopOf_72 rfl (lv_at hl 2 rfl) ?_
        refine lv_iconst (v := 2) B.1 B.2.1 dX8_loopOf_73 (by decide) ?_
        refine c_S_I (own := RX8) (As := [.ref (zA Z (a0 + 2)), .int a1, .int 2]) (rest := [.int r102]) B hH (cy_X8_of B.2.2.2.2.1) (ct_X8_of B.2.2.2.2.2.2.2 l (a0 + 2) a1 2 h101 _ _ (kf_8_3 (k0)) hw) ⟨⟨rfl, rfl⟩, Nat.le_of_ble_eq_true rfl, Nat.le_of_ble_eq_true rfl, Nat.zero_le _, Nat.zero_le _⟩ (tw_1098 B.2.2.2.2.1) rfl hl.1 rfl (Nat.le_of_ble_eq_true rfl) dX8_loopOf_74 ?_
        clear hw hH
        intro r104 h103 H locs hw hH
        have q105 := hw.1
        replace hw := hw.2
        refine lv_idiv B.1 B.2.1 dX8_loopOf_77 q105 ?_
        refine lv_topi (fun x106 ex106 => ?_)
        replace hw := hw x106 ex106
        refine lv_istore (lv' := [(4, .int x106), (3, .int 0), (0, .ref (zA Z a0)), (1, .int a1), (2, .int a2)]) B.1 B.2.1 dX8_loopOf_78 hl (by decide) (by first | rfl | simp [va_re_cat, Value.category]) ?_
        clear hl
        intro ls hl
        refine lv_iload_n B.1 B.2.1 dX8_loopOf_80 rfl (lv_at hl 4 rfl) ?_
        by_cases c107 : (a2 = 4)
        · replace hw := hw.1 c107
          refine lv_tableIn (off := 35) (tgt := 116) B.1 B.2.1 dX8_loopOf_81 (by rw [c107]; decide) (by rw [c107]; decide) (by rw [c107]; rfl) (by decide) ?_
          refine lv_iload_n B.1 B.2.1 dX8_loopOf_116 rfl (lv_at hl 1 rfl) ?_
          refine lv_if_eq (tgt := 124) B.1 B.2.1 dX8_loopOf_117 (by decide) (fun _ => ?_) (fun z => absurd z (by decide))
          refine lv_iload B.1 B.2.1 dX8_loopOf_124 (lv_at hl 0 rfl) ?_
          exact e_i B hr hH hw dX8_loopOf_126
        · by_cases c108 : (a2 = 5)
          · replace hw := hw.2.1 c108
            refine lv_tableIn (off := 46) (tgt := 127) B.1 B.2.1 dX8_loopOf_81 (by rw [c108]; decide) (by rw [c108]; decide) (by rw [c108]; rfl) (by decide) ?_
            refine lv_iload_n B.1 B.2.1 dX8_loopOf_127 rfl (lv_at hl 1 rfl) ?_
            refine lv_if_eq (tgt := 135) B.1 B.2.1 dX8_loopOf_128 (by decide) (fun _ => ?_) (fun z => absurd z (by decide))
            refine lv_aload_n B.1 B.2.1 dX8_loopOf_135 rfl (lv_at hl 2 rfl) ?_
            refine r_get B hH (own := RX8) (kd_n B (k0) (by decide) (by decide)) (ct_8 (k0)) rfl (ul_8 B.2.2.2.2.1) 3 (by decide) rfl (tw_969 B.2.2.2.2.1) dX8_loopOf_136 ?_
            refine lv_iload_n B.1 B.2.1 dX8_loopOf_139 rfl (lv_at hl 3 rfl) ?_
            refine lv_bipush (v := 12) B.1 B.2.1 dX8_loopOf_140 (by decide) ?_
            refine lv_iload B.1 B.2.1 dX8_loopOf_142 (lv_at hl 0 rfl) ?_
            refine lv_iadd B.1 B.2.1 dX8_loopOf_144 ?_
            refine c_S_I (own := RX8) (As := [.ref (zA Z (a0 + 2)), .int a1, .int (12 + x106)]) (rest := []) B hH (cy_X8_of B.2.2.2.2.1) (ct_X8_of B.2.2.2.2.2.2.2 l (a0 + 2) a1 (12 + x106) h103 _ _ (kf_8_3 (k0)) hw) ⟨⟨rfl, rfl⟩, Nat.le_of_ble_eq_true rfl, Nat.le_of_ble_eq_true rfl, Nat.zero_le _, Nat.zero_le _⟩ (tw_1098 B.2.2.2.2.1) rfl hl.1 rfl (Nat.le_of_ble_eq_true rfl) dX8_loopOf_145 ?_
            clear hw hH
            intro r110 h109 H locs hw hH
            exact e_i B hr hH hw dX8_loopOf_148
          · by_cases c111 : (a2 = 6)
            · replace hw := hw.2.2.1 c111
              refine lv_tableIn (off := 68) (tgt := 149) B.1 B.2.1 dX8_loopOf_81 (by rw [c111]; decide) (by rw [c111]; decide) (by rw [c111]; rfl) (by decide) ?_
              refine lv_aload_n B.1 B.2.1 dX8_loopOf_149 rfl (lv_at hl 2 rfl) ?_
              refine r_get B hH (own := RX8) (kd_n B (k0) (by decide) (by decide)) (ct_8 (k0)) rfl (ul_8 B.2.2.2.2.1) 3 (by decide) rfl (tw_969 B.2.2.2.2.1) dX8_loopOf_150 ?_
              refine lv_iload_n B.1 B.2.1 dX8_loopOf_153 rfl (lv_at hl 3 rfl) ?_
              refine lv_iconst (v := 4) B.1 B.2.1 dX8_loopOf_154 (by decide) ?_
              refine c_S_I (own := RX8) (As := [.ref (zA Z (a0 + 2)), .int a1, .int 4]) (rest := []) B hH (cy_X8_of B.2.2.2.2.1) (ct_X8_of B.2.2.2.2.2.2.2 l (a0 + 2) a1 4 h103 _ _ (kf_8_3 (k0)) hw) ⟨⟨rfl, rfl⟩, Nat.le_of_ble_eq_true rfl, Nat.le_of_ble_eq_true rfl, Nat.zero_le _, Nat.zero_le _⟩ (tw_1098 B.2.2.2.2.1) rfl hl.1 rfl (Nat.le_of_ble_eq_true rfl) dX8_loopOf_155 ?_
              clear hw hH
              intro r113 h112 H locs hw hH
              exact e_i B hr hH hw dX8_loopOf_158
            · by_cases c114 : (a2 = 7)
              · replace hw := hw.2.2.2.1 c114
                refine lv_tableIn (off := 78) (tgt := 159) B.1 B.2.1 dX8_loopOf_81 (by rw [c114]; decide) (by rw [c114]; decide) (by rw [c114]; rfl) (by decide) ?_
                refine lv_iload_n B.1 B.2.1 dX8_loopOf_159 rfl (lv_at hl 1 rfl) ?_
                refine lv_if_eq (tgt := 167) B.1 B.2.1 dX8_loopOf_160 (by decide) (fun _ => ?_) (fun z => absurd z (by decide))
                refine lv_aload_n B.1 B.2.1 dX8_loopOf_167 rfl (lv_at hl 2 rfl) ?_
                refine r_get B hH (own := RX8) (kd_n B (k0) (by decide) (by decide)) (ct_8 (k0)) rfl (ul_8 B.2.2.2.2.1) 3 (by decide) rfl (tw_969 B.2.2.2.2.1) dX8_loopOf_168 ?_
                refine lv_iload_n B.1 B.2.1 dX8_loopOf_171 rfl (lv_at hl 3 rfl) ?_
                refine c_S_I (own := RX8) (As := [.ref (zA Z (a0 + 2)), .int a1]) (rest := []) B hH (cy_X8_period B.2.2.2.2.1) (ct_X8_period B.2.2.2.2.2.2.2 l (a0 + 2) a1 h103 _ _ (kf_8_3 (k0)) hw) ⟨⟨rfl, rfl⟩, Nat.le_of_ble_eq_true rfl, Nat.le_of_ble_eq_true rfl, Nat.zero_le _, Nat.zero_le _⟩ (tw_1182 B.2.2.2.2.1) rfl hl.1 rfl (Nat.le_of_ble_eq_true rfl) dX8_loopOf_172 ?_
                clear hw hH
                intro r116 h115 H locs hw hH
                exact e_i B hr hH hw dX8_loopOf_175
              · by_cases c117 : (a2 = 8)
                · replace hw := hw.2.2.2.2.1 c117
                  refine lv_tableIn (off := 95) (tgt := 176) B.1 B.2.1 dX8_loopOf_81 (by rw [c117]; decide) (by rw [c117]; decide) (by rw [c117]; rfl) (by decide) ?_
                  refine lv_aload_n B.1 B.2.1 dX8_loopOf_176 rfl (lv_at hl 2 rfl) ?_
                  refine r_get B hH (own := RX8) (kd_n B (k0) (by decide) (by decide)) (ct_8 (k0)) rfl (ul_8 B.2.2.2.2.1) 3 (by decide) rfl (tw_969 B.2.2.2.2.1) dX8_loopOf_177 ?_
                  refine lv_iload_n B.1 B.2.1 dX8_loopOf_180 rfl (lv_at hl 3 rfl) ?_
                  refine lv_iconst (v := 5) B.1 B.2.1 dX8_loopOf_181 (by decide) ?_
                  refine c_S_I (own := RX8) (As := [.ref (zA Z (a0 + 2)), .int a1, .int 5]) (rest := []) B hH (cy_X8_of B.2.2.2.2.1) (ct_X8_of B.2.2.2.2.2.2.2 l (a0 + 2) a1 5 h103 _ _ (kf_8_3 (k0)) hw) ⟨⟨rfl, rfl⟩, Nat.le_of_ble_eq_true rfl, Nat.le_of_ble_eq_true rfl, Nat.zero_le _, Nat.zero_le _⟩ (tw_1098 B.2.2.2.2.1) rfl hl.1 rfl (Nat.le_of_ble_eq_true rfl) dX8_loopOf_182 ?_
                  clear hw hH
                  intro r119 h118 H locs hw hH
                  exact e_i B hr hH hw dX8_loopOf_185
                · replace hw := hw.2.2.2.2.2 c107 c108 c111 c114 c117
                  have t4 := lv_neT (x := a2) (k := 4) (a := 4) c107 (by decide)
                  have t5 := lv_neT (x := a2) (k := 5) (a := 5) c108 (by decide)
                  have t6 := lv_neT (x := a2) (k := 6) (a := 6) c111 (by decide)
                  have t7 := lv_neT (x := a2) (k := 7) (a := 7) c114 (by decide)
                  have t8 := lv_neT (x := a2) (k := 8) (a := 8) c117 (by decide)
                  refine lv_tableOut (tgt := 186) B.1 B.2.1 dX8_loopOf_81 (by omega) (by decide) ?_
                  refine lv_aload_n B.1 B.2.1 dX8_loopOf_186 rfl (lv_at hl 2 rfl) ?_
                  refine r_get B hH (own := RX8) (kd_n B (k0) (by decide) (by decide)) (ct_8 (k0)) rfl (ul_8 B.2.2.2.2.1) 3 (by decide) rfl (tw_969 B.2.2.2.2.1) dX8_loopOf_187 ?_
                  refine lv_iload_n B.1 B.2.1 dX8_loopOf_190 rfl (lv_at hl 3 rfl) ?_
                  refine lv_iload_n B.1 B.2.1 dX8_loopOf_191 rfl (lv_at hl 4 rfl) ?_
                  refine c_S_I (own := RX8) (As := [.ref (zA Z (a0 + 2)), .int a1, .int a2]) (rest := []) B hH (cy_X8_of B.2.2.2.2.1) (ct_X8_of B.2.2.2.2.2.2.2 l (a0 + 2) a1 a2 h103 _ _ (kf_8_3 (k0)) hw) ⟨⟨rfl, rfl⟩, Nat.le_of_ble_eq_true rfl, Nat.le_of_ble_eq_true rfl, Nat.zero_le _, Nat.zero_le _⟩ (tw_1098 B.2.2.2.2.1) rfl hl.1 rfl (Nat.le_of_ble_eq_true rfl) dX8_loopOf_192 ?_
                  clear hw hH
                  intro r121 h120 H locs hw hH
                  exact e_i B hr hH hw dX8_loopOf_195
      · replace hw := hw.2 c100
        refine lv_iconst (v := 1) B.1 B.2.1 dX8_loopOf_53 (by decide) ?_
        refine lv_goto (tgt := 58) B.1 B.2.1 dX8_loopOf_54 (by decide) ?_
        refine lv_istore_n (lv' := [(3, .int 1), (0, .ref (zA Z a0)), (1, .int a1), (2, .int a2)]) B.1 B.2.1 dX8_loopOf_58 rfl hl (by decide) (by first | rfl | simp [va_re_cat, Value.category]) ?_
        clear hl
        intro ls hl
        refine lv_aload_n B.1 B.2.1 dX8_loopOf_59 rfl (lv_at hl 1 rfl) ?_
        refine r_get B hH (own := RX8) (kd_n B (k0) (by decide) (by decide)) (ct_8 (k0)) rfl (ul_8 B.2.2.2.2.1) 3 (by decide) rfl (tw_969 B.2.2.2.2.1) dX8_loopOf_60 ?_
        refine lv_iload_n B.1 B.2.1 dX8_loopOf_63 rfl (lv_at hl 2 rfl) ?_
        refine lv_iconst (v := 3) B.1 B.2.1 dX8_loopOf_64 (by decide) ?_
        refine c_S_I (own := RX8) (As := [.ref (zA Z (a0 + 2)), .int a1, .int 3]) (rest := []) B hH (cy_X8_of B.2.2.2.2.1) (ct_X8_of B.2.2.2.2.2.2.2 l (a0 + 2) a1 3 h98 _ _ (kf_8_3 (k0)) hw) ⟨⟨rfl, rfl⟩, Nat.le_of_ble_eq_true rfl, Nat.le_of_ble_eq_true rfl, Nat.zero_le _, Nat.zero_le _⟩ (tw_1098 B.2.2.2.2.1) rfl hl.1 rfl (Nat.le_of_ble_eq_true rfl) dX8_loopOf_65 ?_
        clear hw hH
        intro r123 h122 H locs hw hH
        refine lv_aload_n B.1 B.2.1 dX8_loopOf_68 rfl (lv_at hl 1 rfl) ?_
        refine r_get B hH (own := RX8) (kd_n B (k0) (by decide) (by decide)) (ct_8 (k0)) rfl (ul_8 B.2.2.2.2.1) 3 (by decide) rfl (tw_969 B.2.2.2.2.1) dX8_loopOf_69 ?_
        refine lv_iload_n B.1 B.2.1 dX8_loopOf_72 rfl (lv_at hl 2 rfl) ?_
        refine lv_iconst (v := 2) B.1 B.2.1 dX8_loopOf_73 (by decide) ?_
        refine c_S_I (own := RX8) (As := [.ref (zA Z (a0 + 2)), .int a1, .int 2]) (rest := [.int r123]) B hH (cy_X8_of B.2.2.2.2.1) (ct_X8_of B.2.2.2.2.2.2.2 l (a0 + 2) a1 2 h122 _ _ (kf_8_3 (k0)) hw) ⟨⟨rfl, rfl⟩, Nat.le_of_ble_eq_true rfl, Nat.le_of_ble_eq_true rfl, Nat.zero_le _, Nat.zero_le _⟩ (tw_1098 B.2.2.2.2.1) rfl hl.1 rfl (Nat.le_of_ble_eq_true rfl) dX8_loopOf_74 ?_
        clear hw hH
        intro r125 h124 H locs hw hH
        have q126 := hw.1
        replace hw := hw.2
        refine lv_idiv B.1 B.2.1 dX8_loopOf_77 q126 ?_
        refine lv_topi (fun x127 ex127 => ?_)
        replace hw := hw x127 ex127
        refine lv_istore (lv' := [(4, .int x127), (3, .int 1), (0, .ref (zA Z a0)), (1, .int a1), (2, .int a2)]) B.1 B.2.1 dX8_loopOf_78 hl (by decide) (by first | rfl | simp [va_re_cat, Value.category]) ?_
        clear hl
        intro ls hl
        refine lv_iload_n B.1 B.2.1 dX8_loopOf_80 rfl (lv_at hl 4 rfl) ?_
        by_cases c128 : (a2 = 4)
        · replace hw := hw.1 c128
          refine lv_tableIn (off := 35) (tgt := 116) B.1 B.2.1 dX8_loopOf_81 (by rw [c128]; decide) (by rw [c128]; decide) (by rw [c128]; rfl) (by decide) ?_
          refine lv_iload_n B.1 B.2.1 dX8_loopOf_116 rfl (lv_at hl 1 rfl) ?_
          refine lv_if_eq (tgt := 124) B.1 B.2.1 dX8_loopOf_117 (by decide) (fun z => absurd z (by decide)) (fun _ => ?_)
          refine lv_iconst (v := (-1)) B.1 B.2.1 dX8_loopOf_120 (by decide) ?_
          refine lv_goto (tgt := 126) B.1 B.2.1 dX8_loopOf_121 (by decide) ?_
          exact e_i B hr hH hw dX8_loopOf_126
        · by_cases c129 : (a2 = 5)
          · replace hw := hw.2.1 c129
            refine lv_tableIn (off := 46) (tgt := 127) B.1 B.2.1 dX8_loopOf_81 (by rw [c129]; decide) (by rw [c129]; decide) (by rw [c129]; rfl) (by decide) ?_
            refine lv_iload_n B.1 B.2.1 dX8_loopOf_127 rfl (lv_at hl 1 rfl) ?_
            refine lv_if_eq (tgt := 135) B.1 B.2.1 dX8_loopOf_128 (by decide) (fun z => absurd z (by decide)) (fun _ => ?_)
            refine lv_iconst (v := 0) B.1 B.2.1 dX8_loopOf_131 (by decide) ?_
            refine lv_goto (tgt := 148) B.1 B.2.1 dX8_loopOf_132 (by decide) ?_
            exact e_i B hr hH hw dX8_loopOf_148
          · by_cases c130 : (a2 = 6)
            · replace hw := hw.2.2.1 c130
              refine lv_tableIn (off := 68) (tgt := 149) B.1 B.2.1 dX8_loopOf_81 (by rw [c130]; decide) (by rw [c130]; decide) (by rw [c130]; rfl) (by decide) ?_
              refine lv_aload_n B.1 B.2.1 dX8_loopOf_149 rfl (lv_at hl 2 rfl) ?_
              refine r_get B hH (own := RX8) (kd_n B (k0) (by decide) (by decide)) (ct_8 (k0)) rfl (ul_8 B.2.2.2.2.1) 3 (by decide) rfl (tw_969 B.2.2.2.2.1) dX8_loopOf_150 ?_
              refine lv_iload_n B.1 B.2.1 dX8_loopOf_153 rfl (lv_at hl 3 rfl) ?_
              refine lv_iconst (v := 4) B.1 B.2.1 dX8_loopOf_154 (by decide) ?_
              refine c_S_I (own := RX8) (As := [.ref (zA Z (a0 + 2)), .int a1, .int 4]) (rest := []) B hH (cy_X8_of B.2.2.2.2.1) (ct_X8_of B.2.2.2.2.2.2.2 l (a0 + 2) a1 4 h124 _ _ (kf_8_3 (k0)) hw) ⟨⟨rfl, rfl⟩, Nat.le_of_ble_eq_true rfl, Nat.le_of_ble_eq_true rfl, Nat.zero_le _, Nat.zero_le _⟩ (tw_1098 B.2.2.2.2.1) rfl hl.1 rfl (Nat.le_of_ble_eq_true rfl) dX8_loopOf_155 ?_
              clear hw hH
              intro r132 h131 H locs hw hH
              exact e_i B hr hH hw dX8_loopOf_158
            · by_cases c133 : (a2 = 7)
              · replace hw := hw.2.2.2.1 c133
                refine lv_tableIn (off := 78) (tgt := 159) B.1 B.2.1 dX8_loopOf_81 (by rw [c133]; decide) (by rw [c133]; decide) (by rw [c133]; rfl) (by decide) ?_
                refine lv_iload_n B.1 B.2.1 dX8_loopOf_159 rfl (lv_at hl 1 rfl) ?_
                refine lv_if_eq (tgt := 167) B.1 B.2.1 dX8_loopOf_160 (by decide) (fun z => absurd z (by decide)) (fun _ => ?_)
                refine lv_iconst (v := (-1)) B.1 B.2.1 dX8_loopOf_163 (by decide) ?_
                refine lv_goto (tgt := 175) B.1 B.2.1 dX8_loopOf_164 (by decide) ?_
                exact e_i B hr hH hw dX8_loopOf_175
              · by_cases c134 : (a2 = 8)
                · replace hw := hw.2.2.2.2.1 c134
                  refine lv_tableIn (off := 95) (tgt := 176) B.1 B.2.1 dX8_loopOf_81 (by rw [c134]; decide) (by rw [c134]; decide) (by rw [c134]; rfl) (by decide) ?_
                  refine lv_aload_n B.1 B.2.1 dX8_loopOf_176 rfl (lv_at hl 2 rfl) ?_
                  refine r_get B hH (own := RX8) (kd_n B (k0) (by decide) (by decide)) (ct_8 (k0)) rfl (ul_8 B.2.2.2.2.1) 3 (by decide) rfl (tw_969 B.2.2.2.2.1) dX8_loopOf_177 ?_
                  refine lv_iload_n B.1 B.2.1 dX8_loopOf_180 rfl (lv_at hl 3 rfl) ?_
                  refine lv_iconst (v := 5) B.1 B.2.1 dX8_loopOf_181 (by decide) ?_
                  refine c_S_I (own := RX8) (As := [.ref (zA Z (a0 + 2)), .int a1, .int 5]) (rest := []) B hH (cy_X8_of B.2.2.2.2.1) (ct_X8_of B.2.2.2.2.2.2.2 l (a0 + 2) a1 5 h124 _ _ (kf_8_3 (k0)) hw) ⟨⟨rfl, rfl⟩, Nat.le_of_ble_eq_true rfl, Nat.le_of_ble_eq_true rfl, Nat.zero_le _, Nat.zero_le _⟩ (tw_1098 B.2.2.2.2.1) rfl hl.1 rfl (Nat.le_of_ble_eq_true rfl) dX8_loopOf_182 ?_
                  clear hw hH
                  intro r136 h135 H locs hw hH
                  exact e_i B hr hH hw dX8_loopOf_185
                · replace hw := hw.2.2.2.2.2 c128 c129 c130 c133 c134
                  have t4 := lv_neT (x := a2) (k := 4) (a := 4) c128 (by decide)
                  have t5 := lv_neT (x := a2) (k := 5) (a := 5) c129 (by decide)
                  have t6 := lv_neT (x := a2) (k := 6) (a := 6) c130 (by decide)
                  have t7 := lv_neT (x := a2) (k := 7) (a := 7) c133 (by decide)
                  have t8 := lv_neT (x := a2) (k := 8) (a := 8) c134 (by decide)
                  refine lv_tableOut (tgt := 186) B.1 B.2.1 dX8_loopOf_81 (by omega) (by decide) ?_
                  refine lv_aload_n B.1 B.2.1 dX8_loopOf_186 rfl (lv_at hl 2 rfl) ?_
                  refine r_get B hH (own := RX8) (kd_n B (k0) (by decide) (by decide)) (ct_8 (k0)) rfl (ul_8 B.2.2.2.2.1) 3 (by decide) rfl (tw_969 B.2.2.2.2.1) dX8_loopOf_187 ?_
                  refine lv_iload_n B.1 B.2.1 dX8_loopOf_190 rfl (lv_at hl 3 rfl) ?_
                  refine lv_iload_n B.1 B.2.1 dX8_loopOf_191 rfl (lv_at hl 4 rfl) ?_
                  refine c_S_I (own := RX8) (As := [.ref (zA Z (a0 + 2)), .int a1, .int a2]) (rest := []) B hH (cy_X8_of B.2.2.2.2.1) (ct_X8_of B.2.2.2.2.2.2.2 l (a0 + 2) a1 a2 h124 _ _ (kf_8_3 (k0)) hw) ⟨⟨rfl, rfl⟩, Nat.le_of_ble_eq_true rfl, Nat.le_of_ble_eq_true rfl, Nat.zero_le _, Nat.zero_le _⟩ (tw_1098 B.2.2.2.2.1) rfl hl.1 rfl (Nat.le_of_ble_eq_true rfl) dX8_loopOf_192 ?_
                  clear hw hH
                  intro r138 h137 H locs hw hH
                  exact e_i B hr hH hw dX8_loopOf_195
    · replace hw := hw.2 c97
      refine lv_iconst (v := 0) B.1 B.2.1 dX8_loopOf_39 (by decide) ?_
      exact e_i B hr hH hw dX8_loopOf_40
theorem cy_X8_cell {s : State} {args : Array Value} (hG : GG s) : CYV s args yX8_cell cX8_cell 3 (some .int) 2 := CYV.of hG (fun _ _ hG => tw_1191 hG) (tw_8 hG) (tw_1189 hG) (tw_1190 hG) (by decide +kernel)
set_option maxRecDepth 100000 in
set_option maxHeartbeats 4000000 in
theorem ct_X8_cell {Z : ZT} (hZ : ZO Z) (l : Launch) (a0 : Nat) (a1 : Int32) (a2 : Int32) (h : PH) (sz : Nat) (Q : Int32 → PH → Prop) (k0 : kd a0 = 8) (hw : wp_X8_cell a0 a1 a2 h Q) : MI Z l yX8_cell cX8_cell 3 (some .int) ({ frames := 2, cells := 0, slots := 0, locals := 46 } : Room) h sz [.ref (zA Z a0), .int a1, .int a2] Q := by
  refine open_M hZ (by decide +kernel) (by exact Nat.le_of_ble_eq_true rfl) ?_
  intro p e s m below meth c B hr hsz ls hl hH
  subst hsz
  have hl : lv_has ls 3 [(0, .ref (zA Z a0)), (1, .int a1), (2, .int a2)] := hl
  unfold wp_X8_cell at hw
  refine lv_aload_n B.1 B.2.1 dX8_cell_0 rfl (lv_at hl 0 rfl) ?_
  refine lv_aload_n B.1 B.2.1 dX8_cell_1 rfl (lv_at hl 0 rfl) ?_
  refine r_get B hH (own := RX8) (kd_n B (k0) (by decide) (by decide)) (ct_8 (k0)) rfl (ul_8 B.2.2.2.2.1) 3 (by decide) rfl (tw_969 B.2.2.2.2.1) dX8_cell_2 ?_
  refine lv_iload_n B.1 B.2.1 dX8_cell_5 rfl (lv_at hl 1 rfl) ?_
  refine c_S_I (own := RX8) (As := [.ref (zA Z (a0 + 2)), .int a1]) (rest := [.ref (zA Z a0)]) B hH (cy_X8_isLoop B.2.2.2.2.1) (ct_X8_isLoop B.2.2.2.2.2.2.2 l (a0 + 2) a1 h _ _ (kf_8_3 (k0)) hw) ⟨⟨rfl, rfl⟩, Nat.le_of_ble_eq_true rfl, Nat.le_of_ble_eq_true rfl, Nat.zero_le _, Nat.zero_le _⟩ (tw_1083 B.2.2.2.2.1) rfl hl.1 rfl (Nat.le_of_ble_eq_true rfl) dX8_cell_6 ?_
  clear hw hH
  intro r2 h1 H locs hw hH
  refine lv_if_eq (tgt := 37) B.1 B.2.1 dX8_cell_9 (by decide) (fun c3 => ?_) (fun c3 => ?_)
  · replace hw := hw.1 c3
    refine lv_iconst (v := 1) B.1 B.2.1 dX8_cell_37 (by decide) ?_
    refine c_V_I (own := RX8) (As := [.int 1]) (rest := []) B hH (cy_X8_refused B.2.2.2.2.1) (ct_X8_refused B.2.2.2.2.2.2.2 l a0 1 h1 _ _ (k0) hw) ⟨⟨rfl, rfl⟩, Nat.le_of_ble_eq_true rfl, Nat.le_of_ble_eq_true rfl, Nat.zero_le _, Nat.zero_le _⟩ (rv_8 B hH (k0)) (tw_1013 B.2.2.2.2.1) rfl hl.1 rfl (Nat.le_of_ble_eq_true rfl) dX8_cell_38 ?_
    clear hw hH
    intro r5 h4 H locs hw hH
    refine lv_if_eq (tgt := 46) B.1 B.2.1 dX8_cell_41 (by decide) (fun c6 => ?_) (fun c6 => ?_)
    · replace hw := hw.1 c6
      refine lv_aload_n B.1 B.2.1 dX8_cell_46 rfl (lv_at hl 0 rfl) ?_
      refine r_get B hH (own := RX8) (kd_n B (k0) (by decide) (by decide)) (ct_8 (k0)) rfl (ul_8 B.2.2.2.2.1) 3 (by decide) rfl (tw_969 B.2.2.2.2.1) dX8_cell_47 ?_
      refine lv_iload_n B.1 B.2.1 dX8_cell_50 rfl (lv_at hl 1 rfl) ?_
      refine lv_bipush (v := 12) B.1 B.2.1 dX8_cell_51 (by decide) ?_
      refine lv_iload_n B.1 B.2.1 dX8_cell_53 rfl (lv_at hl 2 rfl) ?_
      refine lv_iadd B.1 B.2.1 dX8_cell_54 ?_
      refine c_S_I (own := RX8) (As := [.ref (zA Z (a0 + 2)), .int a1, .int (12 + a2)]) (rest := []) B hH (cy_X8_of B.2.2.2.2.1) (ct_X8_of B.2.2.2.2.2.2.2 l (a0 + 2) a1 (12 + a2) h4 _ _ (kf_8_3 (k0)) hw) ⟨⟨rfl, rfl⟩, Nat.le_of_ble_eq_true rfl, Nat.le_of_ble_eq_true rfl, Nat.zero_le _, Nat.zero_le _⟩ (tw_1098 B.2.2.2.2.1) rfl hl.1 rfl (Nat.le_of_ble_eq_true rfl) dX8_cell_55 ?_
      clear hw hH
      intro r8 h7 H locs hw hH
      exact e_i B hr hH hw dX8_cell_58
    · replace hw := hw.2 c6
      refine lv_iconst (v := 0) B.1 B.2.1 dX8_cell_44 (by decide) ?_
      exact e_i B hr hH hw dX8_cell_45
  · replace hw := hw.2 c3
    refine lv_iload_n B.1 B.2.1 dX8_cell_12 rfl (lv_at hl 2 rfl) ?_
    refine lv_i2l B.1 B.2.1 dX8_cell_13 rfl ?_
    refine lv_lconst (v := 0) B.1 B.2.1 dX8_cell_14 (by decide) ?_
    refine lv_aload_n B.1 B.2.1 dX8_cell_15 rfl (lv_at hl 0 rfl) ?_
    refine r_get B hH (own := RX8) (kd_n B (k0) (by decide) (by decide)) (ct_8 (k0)) rfl (ul_8 B.2.2.2.2.1) 3 (by decide) rfl (tw_969 B.2.2.2.2.1) dX8_cell_16 ?_
    refine lv_iload_n B.1 B.2.1 dX8_cell_19 rfl (lv_at hl 1 rfl) ?_
    refine lv_iconst (v := 0) B.1 B.2.1 dX8_cell_20 (by decide) ?_
    refine c_S_I (own := RX8) (As := [.ref (zA Z (a0 + 2)), .int a1, .int 0]) (rest := [.long 0, .long (a2.toInt64), .ref (zA Z a0)]) B hH (cy_X8_of B.2.2.2.2.1) (ct_X8_of B.2.2.2.2.2.2.2 l (a0 + 2) a1 0 h1 _ _ (kf_8_3 (k0)) hw) ⟨⟨rfl, rfl⟩, Nat.le_of_ble_eq_true rfl, Nat.le_of_ble_eq_true rfl, Nat.zero_le _, Nat.zero_le _⟩ (tw_1098 B.2.2.2.2.1) rfl hl.1 rfl (Nat.le_of_ble_eq_true rfl) dX8_cell_21 ?_
    clear hw hH
    intro r10 h9 H locs hw hH
    refine lv_iconst (v := 1) B.1 B.2.1 dX8_cell_24 (by decide) ?_
    refine lv_isub B.1 B.2.1 dX8_cell_25 ?_
    refine lv_i2l B.1 B.2.1 dX8_cell_26 rfl ?_
    refine c_S_I (own := RX8) (As := [.long (a2.toInt64), .long 0, .long ((r10 - 1).toInt64)]) (rest := [.ref (zA Z a0)]) B hH (cy_X8_in B.2.2.2.2.1) (ct_X8_in B.2.2.2.2.2.2.2 l (a2.toInt64) 0 ((r10 - 1).toInt64) h9 _ _  hw) ⟨⟨rfl, rfl⟩, Nat.le_of_ble_eq_true rfl, Nat.le_of_ble_eq_true rfl, Nat.zero_le _, Nat.zero_le _⟩ (tw_1010 B.2.2.2.2.1) rfl hl.1 rfl (Nat.le_of_ble_eq_true rfl) dX8_cell_27 ?_
    clear hw hH
    intro r12 h11 H locs hw hH
    refine lv_if_eq (tgt := 37) B.1 B.2.1 dX8_cell_30 (by decide) (fun c13 => ?_) (fun c13 => ?_)
    · replace hw := hw.1 c13
      refine lv_iconst (v := 1) B.1 B.2.1 dX8_cell_37 (by decide) ?_
      refine c_V_I (own := RX8) (As := [.int 1]) (rest := []) B hH (cy_X8_refused B.2.2.2.2.1) (ct_X8_refused B.2.2.2.2.2.2.2 l a0 1 h11 _ _ (k0) hw) ⟨⟨rfl, rfl⟩, Nat.le_of_ble_eq_true rfl, Nat.le_of_ble_eq_true rfl, Nat.zero_le _, Nat.zero_le _⟩ (rv_8 B hH (k0)) (tw_1013 B.2.2.2.2.1) rfl hl.1 rfl (Nat.le_of_ble_eq_true rfl) dX8_cell_38 ?_
      clear hw hH
      intro r15 h14 H locs hw hH
      refine lv_if_eq (tgt := 46) B.1 B.2.1 dX8_cell_41 (by decide) (fun c16 => ?_) (fun c16 => ?_)
      · replace hw := hw.1 c16
        refine lv_aload_n B.1 B.2.1 dX8_cell_46 rfl (lv_at hl 0 rfl) ?_
        refine r_get B hH (own := RX8) (kd_n B (k0) (by decide) (by decide)) (ct_8 (k0)) rfl (ul_8 B.2.2.2.2.1) 3 (by decide) rfl (tw_969 B.2.2.2.2.1) dX8_cell_47 ?_
        refine lv_iload_n B.1 B.2.1 dX8_cell_50 rfl (lv_at hl 1 rfl) ?_
        refine lv_bipush (v := 12) B.1 B.2.1 dX8_cell_51 (by decide) ?_
        refine lv_iload_n B.1 B.2.1 dX8_cell_53 rfl (lv_at hl 2 rfl) ?_
        refine lv_iadd B.1 B.2.1 dX8_cell_54 ?_
        refine c_S_I (own := RX8) (As := [.ref (zA Z (a0 + 2)), .int a1, .int (12 + a2)]) (rest := []) B hH (cy_X8_of B.2.2.2.2.1) (ct_X8_of B.2.2.2.2.2.2.2 l (a0 + 2) a1 (12 + a2) h14 _ _ (kf_8_3 (k0)) hw) ⟨⟨rfl, rfl⟩, Nat.le_of_ble_eq_true rfl, Nat.le_of_ble_eq_true rfl, Nat.zero_le _, Nat.zero_le _⟩ (tw_1098 B.2.2.2.2.1) rfl hl.1 rfl (Nat.le_of_ble_eq_true rfl) dX8_cell_55 ?_
        clear hw hH
        intro r18 h17 H locs hw hH
        exact e_i B hr hH hw dX8_cell_58
      · replace hw := hw.2 c16
        refine lv_iconst (v := 0) B.1 B.2.1 dX8_cell_44 (by decide) ?_
        exact e_i B hr hH hw dX8_cell_45
    · replace hw := hw.2 c13
      refine lv_iconst (v := 0) B.1 B.2.1 dX8_cell_33 (by decide) ?_
      refine lv_goto (tgt := 38) B.1 B.2.1 dX8_cell_34 (by decide) ?_
      refine c_V_I (own := RX8) (As := [.int 0]) (rest := []) B hH (cy_X8_refused B.2.2.2.2.1) (ct_X8_refused B.2.2.2.2.2.2.2 l a0 0 h11 _ _ (k0) hw) ⟨⟨rfl, rfl⟩, Nat.le_of_ble_eq_true rfl, Nat.le_of_ble_eq_true rfl, Nat.zero_le _, Nat.zero_le _⟩ (rv_8 B hH (k0)) (tw_1013 B.2.2.2.2.1) rfl hl.1 rfl (Nat.le_of_ble_eq_true rfl) dX8_cell_38 ?_
      clear hw hH
      intro r20 h19 H locs hw hH
      refine lv_if_eq (tgt := 46) B.1 B.2.1 dX8_cell_41 (by decide) (fun c21 => ?_) (fun c21 => ?_)
      · replace hw := hw.1 c21
        refine lv_aload_n B.1 B.2.1 dX8_cell_46 rfl (lv_at hl 0 rfl) ?_
        refine r_get B hH (own := RX8) (kd_n B (k0) (by decide) (by decide)) (ct_8 (k0)) rfl (ul_8 B.2.2.2.2.1) 3 (by decide) rfl (tw_969 B.2.2.2.2.1) dX8_cell_47 ?_
        refine lv_iload_n B.1 B.2.1 dX8_cell_50 rfl (lv_at hl 1 rfl) ?_
        refine lv_bipush (v := 12) B.1 B.2.1 dX8_cell_51 (by decide) ?_
        refine lv_iload_n B.1 B.2.1 dX8_cell_53 rfl (lv_at hl 2 rfl) ?_
        refine lv_iadd B.1 B.2.1 dX8_cell_54 ?_
        refine c_S_I (own := RX8) (As := [.ref (zA Z (a0 + 2)), .int a1, .int (12 + a2)]) (rest := []) B hH (cy_X8_of B.2.2.2.2.1) (ct_X8_of B.2.2.2.2.2.2.2 l (a0 + 2) a1 (12 + a2) h19 _ _ (kf_8_3 (k0)) hw) ⟨⟨rfl, rfl⟩, Nat.le_of_ble_eq_true rfl, Nat.le_of_ble_eq_true rfl, Nat.zero_le _, Nat.zero_le _⟩ (tw_1098 B.2.2.2.2.1) rfl hl.1 rfl (Nat.le_of_ble_eq_true rfl) dX8_cell_55 ?_
        clear hw hH
        intro r23 h22 H locs hw hH
        exact e_i B hr hH hw dX8_cell_58
      · replace hw := hw.2 c21
        refine lv_iconst (v := 0) B.1 B.2.1 dX8_cell_44 (by decide) ?_
        exact e_i B hr hH hw dX8_cell_45
theorem cy_X8_remember {s : State} {args : Array Value} (hG : GG s) : CYV s args yX8_remember cX8_remember 2 none 0 := CYV.of hG (fun _ _ hG => tw_1200 hG) (tw_8 hG) (tw_1199 hG) (tp_73 hG) (by decide +kernel)
set_option maxRecDepth 100000 in
set_option maxHeartbeats 4000000 in
theorem ct_X8_remember {Z : ZT} (hZ : ZO Z) (l : Launch) (a0 : Nat) (h : PH) (sz : Nat) (Q : PH → Prop) (k0 : kd a0 = 8) (hw : wp_X8_remember a0 h Q) : MV Z l yX8_remember cX8_remember 2 none ({ frames := 1, cells := 0, slots := 0, locals := 24 } : Room) h sz [.ref (zA Z a0)] Q := by
  refine open_M hZ (by decide +kernel) (by exact Nat.le_of_ble_eq_true rfl) ?_
  intro p e s m below meth c B hr hsz ls hl hH
  subst hsz
  have hl : lv_has ls 2 [(0, .ref (zA Z a0))] := hl
  unfold wp_X8_remember at hw
  have L11 : ∀ (b0 : Nat), kd b0 = 8 → ∀ (n : Nat) (b1 : Int32) (h : PH), ∀ (H : Heap) (locs : List Loc) (ls : Array Slot), wp_X8_remember_b11 b0 Q n b1 h → HH Z s h H locs → lv_has ls 2 [(0, .ref (zA Z b0)), (1, .int b1)] → W p l e ({ frames := 1, cells := 0, slots := 0, locals := 24 } : Room) s m ([.ref (zA Z a0)]).toArray below meth c H locs 0 0 (MQ below (va_Qv Q (BZ Z) (fr Z s.heap.size)) ([.ref (zA Z a0)]).toArray s 0 0 (fr Z s.heap.size)) (F0 m 11 ls []) := by
    intro b0 kb0 n
    induction n with
    | zero => intro b1 h H locs ls hw hH hl; exact absurd hw id
    | succ n ih =>
      intro b1 h H locs ls hw hH hl
      unfold wp_X8_remember_b11 at hw
      refine lv_iload_n B.1 B.2.1 dX8_remember_11 rfl (lv_at hl 1 rfl) ?_
      refine lv_sipush (v := 4697) B.1 B.2.1 dX8_remember_12 (by decide) ?_
      refine lv_icmp_ge (tgt := 40) B.1 B.2.1 dX8_remember_15 (by decide) (fun c4 => ?_) (fun c4 => ?_)
      · replace hw := hw.1 c4
        refine lv_aload_n B.1 B.2.1 dX8_remember_40 rfl (lv_at hl 0 rfl) ?_
        refine lv_dup B.1 B.2.1 dX8_remember_41 rfl ?_
        refine r_get B hH (own := RX8) (kd_n B (kb0) (by decide) (by decide)) (ct_8 (kb0)) rfl (ul_8 B.2.2.2.2.1) 6 (by decide) rfl (tw_972 B.2.2.2.2.1) dX8_remember_42 ?_
        refine lv_iconst (v := 1) B.1 B.2.1 dX8_remember_45 (by decide) ?_
        refine lv_isub B.1 B.2.1 dX8_remember_46 ?_
        refine r_put B hH (own := RX8) (kd_n B (kb0) (by decide) (by decide)) (ct_8 (kb0)) rfl (ul_8 B.2.2.2.2.1) tyX8 tyX8_ok nmX8 6 (by decide) (ty := .int) rfl rfl rfl rfl (Nat.le_of_ble_eq_true rfl) (cs_8_6 (kb0)) (tw_972 B.2.2.2.2.1) dX8_remember_47 ?_
        clear hH
        intro H locs hH
        obtain ⟨h5, eh5⟩ : ∃ z : PH, z = up2 h b0 6 ((h b0 6) - 1) := ⟨_, rfl⟩
        rw [← eh5] at hH
        replace hw := hw h5 eh5
        refine lv_aload_n B.1 B.2.1 dX8_remember_50 rfl (lv_at hl 0 rfl) ?_
        refine r_get B hH (own := RX8) (kd_n B (kb0) (by decide) (by decide)) (ct_8 (kb0)) rfl (ul_8 B.2.2.2.2.1) 3 (by decide) rfl (tw_969 B.2.2.2.2.1) dX8_remember_51 ?_
        refine lv_iconst (v := 0) B.1 B.2.1 dX8_remember_54 (by decide) ?_
        refine lv_aload_n B.1 B.2.1 dX8_remember_55 rfl (lv_at hl 0 rfl) ?_
        refine r_get B hH (own := RX8) (kd_n B (kb0) (by decide) (by decide)) (ct_8 (kb0)) rfl (ul_8 B.2.2.2.2.1) 5 (by decide) rfl (tw_971 B.2.2.2.2.1) dX8_remember_56 ?_
        refine lv_sipush (v := 427) B.1 B.2.1 dX8_remember_59 (by decide) ?_
        refine lv_aload_n B.1 B.2.1 dX8_remember_62 rfl (lv_at hl 0 rfl) ?_
        refine r_get B hH (own := RX8) (kd_n B (kb0) (by decide) (by decide)) (ct_8 (kb0)) rfl (ul_8 B.2.2.2.2.1) 6 (by decide) rfl (tw_972 B.2.2.2.2.1) dX8_remember_63 ?_
        refine lv_imul B.1 B.2.1 dX8_remember_66 ?_
        refine c_S_V (own := RX8) (As := [.ref (zA Z (b0 + 2)), .int 0, .ref (zA Z (b0 + 4)), .int (427 * (h5 b0 6))]) (rest := []) B hH (cy_X8_copyState B.2.2.2.2.1) (ct_X8_copyState B.2.2.2.2.2.2.2 l (b0 + 2) 0 (b0 + 4) (427 * (h5 b0 6)) h5 _ _ (kf_8_3 (kb0)) (kf_8_5 (kb0)) hw) ⟨⟨rfl, rfl⟩, Nat.le_of_ble_eq_true rfl, Nat.le_of_ble_eq_true rfl, Nat.zero_le _, Nat.zero_le _⟩ (tw_1136 B.2.2.2.2.1) rfl hl.1 rfl (Nat.le_of_ble_eq_true rfl) dX8_remember_67 ?_
        clear hw hH
        intro h6 H locs hw hH
        refine lv_aload_n B.1 B.2.1 dX8_remember_70 rfl (lv_at hl 0 rfl) ?_
        refine lv_dup B.1 B.2.1 dX8_remember_71 rfl ?_
        refine r_get B hH (own := RX8) (kd_n B (kb0) (by decide) (by decide)) (ct_8 (kb0)) rfl (ul_8 B.2.2.2.2.1) 6 (by decide) rfl (tw_972 B.2.2.2.2.1) dX8_remember_72 ?_
        refine lv_iconst (v := 1) B.1 B.2.1 dX8_remember_75 (by decide) ?_
        refine lv_iadd B.1 B.2.1 dX8_remember_76 ?_
        refine r_put B hH (own := RX8) (kd_n B (kb0) (by decide) (by decide)) (ct_8 (kb0)) rfl (ul_8 B.2.2.2.2.1) tyX8 tyX8_ok nmX8 6 (by decide) (ty := .int) rfl rfl rfl rfl (Nat.le_of_ble_eq_true rfl) (cs_8_6 (kb0)) (tw_972 B.2.2.2.2.1) dX8_remember_77 ?_
        clear hH
        intro H locs hH
        obtain ⟨h7, eh7⟩ : ∃ z : PH, z = up2 h6 b0 6 ((h6 b0 6) + 1) := ⟨_, rfl⟩
        rw [← eh7] at hH
        replace hw := hw h7 eh7
        exact e_v B hr hH hw dX8_remember_80
      · replace hw := hw.2 c4
        refine lv_aload_n B.1 B.2.1 dX8_remember_18 rfl (lv_at hl 0 rfl) ?_
        refine r_get B hH (own := RX8) (kd_n B (kb0) (by decide) (by decide)) (ct_8 (kb0)) rfl (ul_8 B.2.2.2.2.1) 5 (by decide) rfl (tw_971 B.2.2.2.2.1) dX8_remember_19 ?_
        refine lv_iload_n B.1 B.2.1 dX8_remember_22 rfl (lv_at hl 1 rfl) ?_
        refine lv_aload_n B.1 B.2.1 dX8_remember_23 rfl (lv_at hl 0 rfl) ?_
        refine r_get B hH (own := RX8) (kd_n B (kb0) (by decide) (by decide)) (ct_8 (kb0)) rfl (ul_8 B.2.2.2.2.1) 5 (by decide) rfl (tw_971 B.2.2.2.2.1) dX8_remember_24 ?_
        refine lv_iload_n B.1 B.2.1 dX8_remember_27 rfl (lv_at hl 1 rfl) ?_
        refine lv_sipush (v := 427) B.1 B.2.1 dX8_remember_28 (by decide) ?_
        refine lv_iadd B.1 B.2.1 dX8_remember_31 ?_
        have q8 := hw.1
        replace hw := hw.2
        refine r_iald B hH (kf_8_5 (kb0)) q8 dX8_remember_32 ?_
        have q9 := hw.1
        replace hw := hw.2
        refine r_iast B hH (kf_8_5 (kb0)) q9 dX8_remember_33 ?_
        clear hH
        intro H locs hH
        obtain ⟨h10, eh10⟩ : ∃ z : PH, z = up2 h (b0 + 4) b1.toNatClampNeg (h (b0 + 4) (b1 + 427).toNatClampNeg) := ⟨_, rfl⟩
        rw [← eh10] at hH
        replace hw := hw h10 eh10
        obtain ⟨x11, ex11⟩ : ∃ y : Int32, y = b1 + 1 := ⟨_, rfl⟩
        replace hw := hw x11 ex11
        refine lv_iinc (v := x11) (lv' := [(1, .int x11), (0, .ref (zA Z b0))]) B.1 B.2.1 dX8_remember_34 hl (k := 1) rfl (by rw [ex11]; rfl) (by decide) (by first | rfl | simp [va_re_cat, Value.category]) ?_
        clear hl
        intro ls hl
        refine lv_goto (tgt := 11) B.1 B.2.1 dX8_remember_37 (by decide) ?_
        exact ih x11 h10  _ _ _ hw hH (lv_sub hl [1, 0] rfl)
  refine lv_aload_n B.1 B.2.1 dX8_remember_0 rfl (lv_at hl 0 rfl) ?_
  refine r_get B hH (own := RX8) (kd_n B (k0) (by decide) (by decide)) (ct_8 (k0)) rfl (ul_8 B.2.2.2.2.1) 6 (by decide) rfl (tw_972 B.2.2.2.2.1) dX8_remember_1 ?_
  refine lv_bipush (v := 12) B.1 B.2.1 dX8_remember_4 (by decide) ?_
  refine lv_icmp_ne (tgt := 50) B.1 B.2.1 dX8_remember_6 (by decide) (fun c1 => ?_) (fun c1 => ?_)
  · replace hw := hw.1 c1
    refine lv_aload_n B.1 B.2.1 dX8_remember_50 rfl (lv_at hl 0 rfl) ?_
    refine r_get B hH (own := RX8) (kd_n B (k0) (by decide) (by decide)) (ct_8 (k0)) rfl (ul_8 B.2.2.2.2.1) 3 (by decide) rfl (tw_969 B.2.2.2.2.1) dX8_remember_51 ?_
    refine lv_iconst (v := 0) B.1 B.2.1 dX8_remember_54 (by decide) ?_
    refine lv_aload_n B.1 B.2.1 dX8_remember_55 rfl (lv_at hl 0 rfl) ?_
    refine r_get B hH (own := RX8) (kd_n B (k0) (by decide) (by decide)) (ct_8 (k0)) rfl (ul_8 B.2.2.2.2.1) 5 (by decide) rfl (tw_971 B.2.2.2.2.1) dX8_remember_56 ?_
    refine lv_sipush (v := 427) B.1 B.2.1 dX8_remember_59 (by decide) ?_
    refine lv_aload_n B.1 B.2.1 dX8_remember_62 rfl (lv_at hl 0 rfl) ?_
    refine r_get B hH (own := RX8) (kd_n B (k0) (by decide) (by decide)) (ct_8 (k0)) rfl (ul_8 B.2.2.2.2.1) 6 (by decide) rfl (tw_972 B.2.2.2.2.1) dX8_remember_63 ?_
    refine lv_imul B.1 B.2.1 dX8_remember_66 ?_
    refine c_S_V (own := RX8) (As := [.ref (zA Z (a0 + 2)), .int 0, .ref (zA Z (a0 + 4)), .int (427 * (h a0 6))]) (rest := []) B hH (cy_X8_copyState B.2.2.2.2.1) (ct_X8_copyState B.2.2.2.2.2.2.2 l (a0 + 2) 0 (a0 + 4) (427 * (h a0 6)) h _ _ (kf_8_3 (k0)) (kf_8_5 (k0)) hw) ⟨⟨rfl, rfl⟩, Nat.le_of_ble_eq_true rfl, Nat.le_of_ble_eq_true rfl, Nat.zero_le _, Nat.zero_le _⟩ (tw_1136 B.2.2.2.2.1) rfl hl.1 rfl (Nat.le_of_ble_eq_true rfl) dX8_remember_67 ?_
    clear hw hH
    intro h2 H locs hw hH
    refine lv_aload_n B.1 B.2.1 dX8_remember_70 rfl (lv_at hl 0 rfl) ?_
    refine lv_dup B.1 B.2.1 dX8_remember_71 rfl ?_
    refine r_get B hH (own := RX8) (kd_n B (k0) (by decide) (by decide)) (ct_8 (k0)) rfl (ul_8 B.2.2.2.2.1) 6 (by decide) rfl (tw_972 B.2.2.2.2.1) dX8_remember_72 ?_
    refine lv_iconst (v := 1) B.1 B.2.1 dX8_remember_75 (by decide) ?_
    refine lv_iadd B.1 B.2.1 dX8_remember_76 ?_
    refine r_put B hH (own := RX8) (kd_n B (k0) (by decide) (by decide)) (ct_8 (k0)) rfl (ul_8 B.2.2.2.2.1) tyX8 tyX8_ok nmX8 6 (by decide) (ty := .int) rfl rfl rfl rfl (Nat.le_of_ble_eq_true rfl) (cs_8_6 (k0)) (tw_972 B.2.2.2.2.1) dX8_remember_77 ?_
    clear hH
    intro H locs hH
    obtain ⟨h3, eh3⟩ : ∃ z : PH, z = up2 h2 a0 6 ((h2 a0 6) + 1) := ⟨_, rfl⟩
    rw [← eh3] at hH
    replace hw := hw h3 eh3
    exact e_v B hr hH hw dX8_remember_80
  · replace hw := hw.2 c1
    refine lv_iconst (v := 0) B.1 B.2.1 dX8_remember_9 (by decide) ?_
    refine lv_istore_n (lv' := [(1, .int 0), (0, .ref (zA Z a0))]) B.1 B.2.1 dX8_remember_10 rfl hl (by decide) (by first | rfl | simp [va_re_cat, Value.category]) ?_
    clear hl
    intro ls hl
    obtain ⟨n12, hw⟩ := hw
    exact L11 a0 (k0) n12 0 h  _ _ _ hw hH (lv_sub hl [1, 0] rfl)
theorem cy_X8_reel {s : State} {args : Array Value} (hG : GG s) : CYV s args yX8_reel cX8_reel 2 (some .int) 1 := CYV.of hG (fun _ _ hG => tw_1195 hG) (tw_8 hG) (tw_1193 hG) (tw_1194 hG) (by decide +kernel)
set_option maxRecDepth 100000 in
set_option maxHeartbeats 4000000 in
theorem ct_X8_reel {Z : ZT} (hZ : ZO Z) (l : Launch) (a0 : Nat) (a1 : Int32) (h : PH) (sz : Nat) (Q : Int32 → PH → Prop) (k0 : kd a0 = 8) (hw : wp_X8_reel a0 a1 h Q) : MI Z l yX8_reel cX8_reel 2 (some .int) ({ frames := 2, cells := 0, slots := 0, locals := 45 } : Room) h sz [.ref (zA Z a0), .int a1] Q := by
  refine open_M hZ (by decide +kernel) (by exact Nat.le_of_ble_eq_true rfl) ?_
  intro p e s m below meth c B hr hsz ls hl hH
  subst hsz
  have hl : lv_has ls 2 [(0, .ref (zA Z a0)), (1, .int a1)] := hl
  unfold wp_X8_reel at hw
  refine lv_aload_n B.1 B.2.1 dX8_reel_0 rfl (lv_at hl 0 rfl) ?_
  refine lv_iload_n B.1 B.2.1 dX8_reel_1 rfl (lv_at hl 1 rfl) ?_
  refine lv_i2l B.1 B.2.1 dX8_reel_2 rfl ?_
  refine lv_ldc2 (own := RX8) B.1 B.2.1 B.2.2.2.1 (tw_1169 B.2.2.2.2.1) dX8_reel_3 ?_
  refine lv_ldc2 (own := RX8) B.1 B.2.1 B.2.2.2.1 (tw_1196 B.2.2.2.2.1) dX8_reel_6 ?_
  refine c_S_I (own := RX8) (As := [.long (a1.toInt64), .long 2, .long 60]) (rest := [.ref (zA Z a0)]) B hH (cy_X8_in B.2.2.2.2.1) (ct_X8_in B.2.2.2.2.2.2.2 l (a1.toInt64) 2 60 h _ _  hw) ⟨⟨rfl, rfl⟩, Nat.le_of_ble_eq_true rfl, Nat.le_of_ble_eq_true rfl, Nat.zero_le _, Nat.zero_le _⟩ (tw_1010 B.2.2.2.2.1) rfl hl.1 rfl (Nat.le_of_ble_eq_true rfl) dX8_reel_9 ?_
  clear hw hH
  intro r2 h1 H locs hw hH
  refine lv_if_ne (tgt := 19) B.1 B.2.1 dX8_reel_12 (by decide) (fun c3 => ?_) (fun c3 => ?_)
  · replace hw := hw.1 c3
    refine lv_aload_n B.1 B.2.1 dX8_reel_19 rfl (lv_at hl 0 rfl) ?_
    refine r_get B hH (own := RX8) (kd_n B (k0) (by decide) (by decide)) (ct_8 (k0)) rfl (ul_8 B.2.2.2.2.1) 3 (by decide) rfl (tw_969 B.2.2.2.2.1) dX8_reel_20 ?_
    refine lv_iconst (v := 0) B.1 B.2.1 dX8_reel_23 (by decide) ?_
    have q4 := hw.1
    replace hw := hw.2
    refine r_iald B hH (kf_8_3 (k0)) q4 dX8_reel_24 ?_
    refine lv_iconst (v := 3) B.1 B.2.1 dX8_reel_25 (by decide) ?_
    refine lv_icmp_ge (tgt := 33) B.1 B.2.1 dX8_reel_26 (by decide) (fun c5 => ?_) (fun c5 => ?_)
    · replace hw := hw.1 c5
      refine lv_iconst (v := 2) B.1 B.2.1 dX8_reel_33 (by decide) ?_
      refine c_V_I (own := RX8) (As := [.int 2]) (rest := []) B hH (cy_X8_refused B.2.2.2.2.1) (ct_X8_refused B.2.2.2.2.2.2.2 l a0 2 h1 _ _ (k0) hw) ⟨⟨rfl, rfl⟩, Nat.le_of_ble_eq_true rfl, Nat.le_of_ble_eq_true rfl, Nat.zero_le _, Nat.zero_le _⟩ (rv_8 B hH (k0)) (tw_1013 B.2.2.2.2.1) rfl hl.1 rfl (Nat.le_of_ble_eq_true rfl) dX8_reel_34 ?_
      clear hw hH
      intro r7 h6 H locs hw hH
      refine lv_if_eq (tgt := 42) B.1 B.2.1 dX8_reel_37 (by decide) (fun c8 => ?_) (fun c8 => ?_)
      · replace hw := hw.1 c8
        refine lv_aload_n B.1 B.2.1 dX8_reel_42 rfl (lv_at hl 0 rfl) ?_
        refine c_V_V (own := RX8) (As := []) (rest := []) B hH (cy_X8_remember B.2.2.2.2.1) (ct_X8_remember B.2.2.2.2.2.2.2 l a0 h6 _ _ (k0) hw) ⟨⟨rfl, rfl⟩, Nat.le_of_ble_eq_true rfl, Nat.le_of_ble_eq_true rfl, Nat.zero_le _, Nat.zero_le _⟩ (rv_8 B hH (k0)) (tw_1197 B.2.2.2.2.1) rfl hl.1 rfl (Nat.le_of_ble_eq_true rfl) dX8_reel_43 ?_
        clear hw hH
        intro h9 H locs hw hH
        refine lv_aload_n B.1 B.2.1 dX8_reel_46 rfl (lv_at hl 0 rfl) ?_
        refine r_get B hH (own := RX8) (kd_n B (k0) (by decide) (by decide)) (ct_8 (k0)) rfl (ul_8 B.2.2.2.2.1) 3 (by decide) rfl (tw_969 B.2.2.2.2.1) dX8_reel_47 ?_
        refine lv_iload_n B.1 B.2.1 dX8_reel_50 rfl (lv_at hl 1 rfl) ?_
        refine c_S_I (own := RX8) (As := [.ref (zA Z (a0 + 2)), .int a1]) (rest := []) B hH (cy_X8_reelOn B.2.2.2.2.1) (ct_X8_reelOn B.2.2.2.2.2.2.2 l (a0 + 2) a1 h9 _ _ (kf_8_3 (k0)) hw) ⟨⟨rfl, rfl⟩, Nat.le_of_ble_eq_true rfl, Nat.le_of_ble_eq_true rfl, Nat.zero_le _, Nat.zero_le _⟩ (tw_1038 B.2.2.2.2.1) rfl hl.1 rfl (Nat.le_of_ble_eq_true rfl) dX8_reel_51 ?_
        clear hw hH
        intro r11 h10 H locs hw hH
        exact e_i B hr hH hw dX8_reel_54
      · replace hw := hw.2 c8
        refine lv_iconst (v := 0) B.1 B.2.1 dX8_reel_40 (by decide) ?_
        exact e_i B hr hH hw dX8_reel_41
    · replace hw := hw.2 c5
      refine lv_iconst (v := 0) B.1 B.2.1 dX8_reel_29 (by decide) ?_
      refine lv_goto (tgt := 34) B.1 B.2.1 dX8_reel_30 (by decide) ?_
      refine c_V_I (own := RX8) (As := [.int 0]) (rest := []) B hH (cy_X8_refused B.2.2.2.2.1) (ct_X8_refused B.2.2.2.2.2.2.2 l a0 0 h1 _ _ (k0) hw) ⟨⟨rfl, rfl⟩, Nat.le_of_ble_eq_true rfl, Nat.le_of_ble_eq_true rfl, Nat.zero_le _, Nat.zero_le _⟩ (rv_8 B hH (k0)) (tw_1013 B.2.2.2.2.1) rfl hl.1 rfl (Nat.le_of_ble_eq_true rfl) dX8_reel_34 ?_
      clear hw hH
      intro r13 h12 H locs hw hH
      refine lv_if_eq (tgt := 42) B.1 B.2.1 dX8_reel_37 (by decide) (fun c14 => ?_) (fun c14 => ?_)
      · replace hw := hw.1 c14
        refine lv_aload_n B.1 B.2.1 dX8_reel_42 rfl (lv_at hl 0 rfl) ?_
        refine c_V_V (own := RX8) (As := []) (rest := []) B hH (cy_X8_remember B.2.2.2.2.1) (ct_X8_remember B.2.2.2.2.2.2.2 l a0 h12 _ _ (k0) hw) ⟨⟨rfl, rfl⟩, Nat.le_of_ble_eq_true rfl, Nat.le_of_ble_eq_true rfl, Nat.zero_le _, Nat.zero_le _⟩ (rv_8 B hH (k0)) (tw_1197 B.2.2.2.2.1) rfl hl.1 rfl (Nat.le_of_ble_eq_true rfl) dX8_reel_43 ?_
        clear hw hH
        intro h15 H locs hw hH
        refine lv_aload_n B.1 B.2.1 dX8_reel_46 rfl (lv_at hl 0 rfl) ?_
        refine r_get B hH (own := RX8) (kd_n B (k0) (by decide) (by decide)) (ct_8 (k0)) rfl (ul_8 B.2.2.2.2.1) 3 (by decide) rfl (tw_969 B.2.2.2.2.1) dX8_reel_47 ?_
        refine lv_iload_n B.1 B.2.1 dX8_reel_50 rfl (lv_at hl 1 rfl) ?_
        refine c_S_I (own := RX8) (As := [.ref (zA Z (a0 + 2)), .int a1]) (rest := []) B hH (cy_X8_reelOn B.2.2.2.2.1) (ct_X8_reelOn B.2.2.2.2.2.2.2 l (a0 + 2) a1 h15 _ _ (kf_8_3 (k0)) hw) ⟨⟨rfl, rfl⟩, Nat.le_of_ble_eq_true rfl, Nat.le_of_ble_eq_true rfl, Nat.zero_le _, Nat.zero_le _⟩ (tw_1038 B.2.2.2.2.1) rfl hl.1 rfl (Nat.le_of_ble_eq_true rfl) dX8_reel_51 ?_
        clear hw hH
        intro r17 h16 H locs hw hH
        exact e_i B hr hH hw dX8_reel_54
      · replace hw := hw.2 c14
        refine lv_iconst (v := 0) B.1 B.2.1 dX8_reel_40 (by decide) ?_
        exact e_i B hr hH hw dX8_reel_41
  · replace hw := hw.2 c3
    refine lv_iconst (v := 1) B.1 B.2.1 dX8_reel_15 (by decide) ?_
    refine lv_goto (tgt := 34) B.1 B.2.1 dX8_reel_16 (by decide) ?_
    refine c_V_I (own := RX8) (As := [.int 1]) (rest := []) B hH (cy_X8_refused B.2.2.2.2.1) (ct_X8_refused B.2.2.2.2.2.2.2 l a0 1 h1 _ _ (k0) hw) ⟨⟨rfl, rfl⟩, Nat.le_of_ble_eq_true rfl, Nat.le_of_ble_eq_true rfl, Nat.zero_le _, Nat.zero_le _⟩ (rv_8 B hH (k0)) (tw_1013 B.2.2.2.2.1) rfl hl.1 rfl (Nat.le_of_ble_eq_true rfl) dX8_reel_34 ?_
    clear hw hH
    intro r19 h18 H locs hw hH
    refine lv_if_eq (tgt := 42) B.1 B.2.1 dX8_reel_37 (by decide) (fun c20 => ?_) (fun c20 => ?_)
    · replace hw := hw.1 c20
      refine lv_aload_n B.1 B.2.1 dX8_reel_42 rfl (lv_at hl 0 rfl) ?_
      refine c_V_V (own := RX8) (As := []) (rest := []) B hH (cy_X8_remember B.2.2.2.2.1) (ct_X8_remember B.2.2.2.2.2.2.2 l a0 h18 _ _ (k0) hw) ⟨⟨rfl, rfl⟩, Nat.le_of_ble_eq_true rfl, Nat.le_of_ble_eq_true rfl, Nat.zero_le _, Nat.zero_le _⟩ (rv_8 B hH (k0)) (tw_1197 B.2.2.2.2.1) rfl hl.1 rfl (Nat.le_of_ble_eq_true rfl) dX8_reel_43 ?_
      clear hw hH
      intro h21 H locs hw hH
      refine lv_aload_n B.1 B.2.1 dX8_reel_46 rfl (lv_at hl 0 rfl) ?_
      refine r_get B hH (own := RX8) (kd_n B (k0) (by decide) (by decide)) (ct_8 (k0)) rfl (ul_8 B.2.2.2.2.1) 3 (by decide) rfl (tw_969 B.2.2.2.2.1) dX8_reel_47 ?_
      refine lv_iload_n B.1 B.2.1 dX8_reel_50 rfl (lv_at hl 1 rfl) ?_
      refine c_S_I (own := RX8) (As := [.ref (zA Z (a0 + 2)), .int a1]) (rest := []) B hH (cy_X8_reelOn B.2.2.2.2.1) (ct_X8_reelOn B.2.2.2.2.2.2.2 l (a0 + 2) a1 h21 _ _ (kf_8_3 (k0)) hw) ⟨⟨rfl, rfl⟩, Nat.le_of_ble_eq_true rfl, Nat.le_of_ble_eq_true rfl, Nat.zero_le _, Nat.zero_le _⟩ (tw_1038 B.2.2.2.2.1) rfl hl.1 rfl (Nat.le_of_ble_eq_true rfl) dX8_reel_51 ?_
      clear hw hH
      intro r23 h22 H locs hw hH
      exact e_i B hr hH hw dX8_reel_54
    · replace hw := hw.2 c20
      refine lv_iconst (v := 0) B.1 B.2.1 dX8_reel_40 (by decide) ?_
      exact e_i B hr hH hw dX8_reel_41
theorem cy_X8_paint {s : State} {args : Array Value} (hG : GG s) : CYV s args yX8_paint cX8_paint 5 (some .int) 4 := CYV.of hG (fun _ _ hG => tw_1204 hG) (tw_8 hG) (tw_1202 hG) (tw_1203 hG) (by decide +kernel)
set_option maxRecDepth 100000 in
set_option maxHeartbeats 4000000 in
theorem ct_X8_paint {Z : ZT} (hZ : ZO Z) (l : Launch) (a0 : Nat) (a1 : Int32) (a2 : Int32) (a3 : Int32) (a4 : Int32) (h : PH) (sz : Nat) (Q : Int32 → PH → Prop) (k0 : kd a0 = 8) (hw : wp_X8_paint a0 a1 a2 a3 a4 h Q) : MI Z l yX8_paint cX8_paint 5 (some .int) ({ frames := 3, cells := 0, slots := 0, locals := 68 } : Room) h sz [.ref (zA Z a0), .int a1, .int a2, .int a3, .int a4] Q := by
  refine open_M hZ (by decide +kernel) (by exact Nat.le_of_ble_eq_true rfl) ?_
  intro p e s m below meth c B hr hsz ls hl hH
  subst hsz
  have hl : lv_has ls 5 [(0, .ref (zA Z a0)), (1, .int a1), (2, .int a2), (3, .int a3), (4, .int a4)] := hl
  unfold wp_X8_paint at hw
  refine lv_aload_n B.1 B.2.1 dX8_paint_0 rfl (lv_at hl 0 rfl) ?_
  refine lv_aload_n B.1 B.2.1 dX8_paint_1 rfl (lv_at hl 0 rfl) ?_
  refine r_get B hH (own := RX8) (kd_n B (k0) (by decide) (by decide)) (ct_8 (k0)) rfl (ul_8 B.2.2.2.2.1) 3 (by decide) rfl (tw_969 B.2.2.2.2.1) dX8_paint_2 ?_
  refine lv_iload_n B.1 B.2.1 dX8_paint_5 rfl (lv_at hl 1 rfl) ?_
  refine lv_iload_n B.1 B.2.1 dX8_paint_6 rfl (lv_at hl 2 rfl) ?_
  refine c_S_I (own := RX8) (As := [.ref (zA Z (a0 + 2)), .int a1, .int a2]) (rest := [.ref (zA Z a0)]) B hH (cy_X8_isCell B.2.2.2.2.1) (ct_X8_isCell B.2.2.2.2.2.2.2 l (a0 + 2) a1 a2 h _ _ (kf_8_3 (k0)) hw) ⟨⟨rfl, rfl⟩, Nat.le_of_ble_eq_true rfl, Nat.le_of_ble_eq_true rfl, Nat.zero_le _, Nat.zero_le _⟩ (tw_1057 B.2.2.2.2.1) rfl hl.1 rfl (Nat.le_of_ble_eq_true rfl) dX8_paint_7 ?_
  clear hw hH
  intro r2 h1 H locs hw hH
  refine lv_if_eq (tgt := 25) B.1 B.2.1 dX8_paint_10 (by decide) (fun c3 => ?_) (fun c3 => ?_)
  · replace hw := hw.1 c3
    refine lv_iconst (v := 1) B.1 B.2.1 dX8_paint_25 (by decide) ?_
    refine lv_goto (tgt := 52) B.1 B.2.1 dX8_paint_26 (by decide) ?_
    refine c_V_I (own := RX8) (As := [.int 1]) (rest := []) B hH (cy_X8_refused B.2.2.2.2.1) (ct_X8_refused B.2.2.2.2.2.2.2 l a0 1 h1 _ _ (k0) hw) ⟨⟨rfl, rfl⟩, Nat.le_of_ble_eq_true rfl, Nat.le_of_ble_eq_true rfl, Nat.zero_le _, Nat.zero_le _⟩ (rv_8 B hH (k0)) (tw_1013 B.2.2.2.2.1) rfl hl.1 rfl (Nat.le_of_ble_eq_true rfl) dX8_paint_52 ?_
    clear hw hH
    intro r5 h4 H locs hw hH
    refine lv_if_eq (tgt := 60) B.1 B.2.1 dX8_paint_55 (by decide) (fun c6 => ?_) (fun c6 => ?_)
    · replace hw := hw.1 c6
      refine lv_aload_n B.1 B.2.1 dX8_paint_60 rfl (lv_at hl 0 rfl) ?_
      refine c_V_V (own := RX8) (As := []) (rest := []) B hH (cy_X8_remember B.2.2.2.2.1) (ct_X8_remember B.2.2.2.2.2.2.2 l a0 h4 _ _ (k0) hw) ⟨⟨rfl, rfl⟩, Nat.le_of_ble_eq_true rfl, Nat.le_of_ble_eq_true rfl, Nat.zero_le _, Nat.zero_le _⟩ (rv_8 B hH (k0)) (tw_1197 B.2.2.2.2.1) rfl hl.1 rfl (Nat.le_of_ble_eq_true rfl) dX8_paint_61 ?_
      clear hw hH
      intro h7 H locs hw hH
      refine lv_aload_n B.1 B.2.1 dX8_paint_64 rfl (lv_at hl 0 rfl) ?_
      refine r_get B hH (own := RX8) (kd_n B (k0) (by decide) (by decide)) (ct_8 (k0)) rfl (ul_8 B.2.2.2.2.1) 3 (by decide) rfl (tw_969 B.2.2.2.2.1) dX8_paint_65 ?_
      refine lv_iload_n B.1 B.2.1 dX8_paint_68 rfl (lv_at hl 1 rfl) ?_
      refine lv_iload_n B.1 B.2.1 dX8_paint_69 rfl (lv_at hl 2 rfl) ?_
      refine lv_iload_n B.1 B.2.1 dX8_paint_70 rfl (lv_at hl 3 rfl) ?_
      refine lv_iload B.1 B.2.1 dX8_paint_71 (lv_at hl 4 rfl) ?_
      refine c_S_I (own := RX8) (As := [.ref (zA Z (a0 + 2)), .int a1, .int a2, .int a3, .int a4]) (rest := []) B hH (cy_X8_paintOn B.2.2.2.2.1) (ct_X8_paintOn B.2.2.2.2.2.2.2 l (a0 + 2) a1 a2 a3 a4 h7 _ _ (kf_8_3 (k0)) hw) ⟨⟨rfl, rfl⟩, Nat.le_of_ble_eq_true rfl, Nat.le_of_ble_eq_true rfl, Nat.zero_le _, Nat.zero_le _⟩ (tw_1066 B.2.2.2.2.1) rfl hl.1 rfl (Nat.le_of_ble_eq_true rfl) dX8_paint_73 ?_
      clear hw hH
      intro r9 h8 H locs hw hH
      exact e_i B hr hH hw dX8_paint_76
    · replace hw := hw.2 c6
      refine lv_iconst (v := 0) B.1 B.2.1 dX8_paint_58 (by decide) ?_
      exact e_i B hr hH hw dX8_paint_59
  · replace hw := hw.2 c3
    refine lv_aload_n B.1 B.2.1 dX8_paint_13 rfl (lv_at hl 0 rfl) ?_
    refine r_get B hH (own := RX8) (kd_n B (k0) (by decide) (by decide)) (ct_8 (k0)) rfl (ul_8 B.2.2.2.2.1) 3 (by decide) rfl (tw_969 B.2.2.2.2.1) dX8_paint_14 ?_
    refine lv_iload_n B.1 B.2.1 dX8_paint_17 rfl (lv_at hl 1 rfl) ?_
    refine lv_iload_n B.1 B.2.1 dX8_paint_18 rfl (lv_at hl 3 rfl) ?_
    refine c_S_I (own := RX8) (As := [.ref (zA Z (a0 + 2)), .int a1, .int a3]) (rest := [.ref (zA Z a0)]) B hH (cy_X8_isCell B.2.2.2.2.1) (ct_X8_isCell B.2.2.2.2.2.2.2 l (a0 + 2) a1 a3 h1 _ _ (kf_8_3 (k0)) hw) ⟨⟨rfl, rfl⟩, Nat.le_of_ble_eq_true rfl, Nat.le_of_ble_eq_true rfl, Nat.zero_le _, Nat.zero_le _⟩ (tw_1057 B.2.2.2.2.1) rfl hl.1 rfl (Nat.le_of_ble_eq_true rfl) dX8_paint_19 ?_
    clear hw hH
    intro r11 h10 H locs hw hH
    refine lv_if_ne (tgt := 29) B.1 B.2.1 dX8_paint_22 (by decide) (fun c12 => ?_) (fun c12 => ?_)
    · replace hw := hw.1 c12
      refine lv_iload_n B.1 B.2.1 dX8_paint_29 rfl (lv_at hl 3 rfl) ?_
      refine lv_iload_n B.1 B.2.1 dX8_paint_30 rfl (lv_at hl 2 rfl) ?_
      refine lv_icmp_lt (tgt := 47) B.1 B.2.1 dX8_paint_31 (by decide) (fun c13 => ?_) (fun c13 => ?_)
      · replace hw := hw.1 c13
        refine lv_iconst (v := 2) B.1 B.2.1 dX8_paint_47 (by decide) ?_
        refine lv_goto (tgt := 52) B.1 B.2.1 dX8_paint_48 (by decide) ?_
        refine c_V_I (own := RX8) (As := [.int 2]) (rest := []) B hH (cy_X8_refused B.2.2.2.2.1) (ct_X8_refused B.2.2.2.2.2.2.2 l a0 2 h10 _ _ (k0) hw) ⟨⟨rfl, rfl⟩, Nat.le_of_ble_eq_true rfl, Nat.le_of_ble_eq_true rfl, Nat.zero_le _, Nat.zero_le _⟩ (rv_8 B hH (k0)) (tw_1013 B.2.2.2.2.1) rfl hl.1 rfl (Nat.le_of_ble_eq_true rfl) dX8_paint_52 ?_
        clear hw hH
        intro r15 h14 H locs hw hH
        refine lv_if_eq (tgt := 60) B.1 B.2.1 dX8_paint_55 (by decide) (fun c16 => ?_) (fun c16 => ?_)
        · replace hw := hw.1 c16
          refine lv_aload_n B.1 B.2.1 dX8_paint_60 rfl (lv_at hl 0 rfl) ?_
          refine c_V_V (own := RX8) (As := []) (rest := []) B hH (cy_X8_remember B.2.2.2.2.1) (ct_X8_remember B.2.2.2.2.2.2.2 l a0 h14 _ _ (k0) hw) ⟨⟨rfl, rfl⟩, Nat.le_of_ble_eq_true rfl, Nat.le_of_ble_eq_true rfl, Nat.zero_le _, Nat.zero_le _⟩ (rv_8 B hH (k0)) (tw_1197 B.2.2.2.2.1) rfl hl.1 rfl (Nat.le_of_ble_eq_true rfl) dX8_paint_61 ?_
          clear hw hH
          intro h17 H locs hw hH
          refine lv_aload_n B.1 B.2.1 dX8_paint_64 rfl (lv_at hl 0 rfl) ?_
          refine r_get B hH (own := RX8) (kd_n B (k0) (by decide) (by decide)) (ct_8 (k0)) rfl (ul_8 B.2.2.2.2.1) 3 (by decide) rfl (tw_969 B.2.2.2.2.1) dX8_paint_65 ?_
          refine lv_iload_n B.1 B.2.1 dX8_paint_68 rfl (lv_at hl 1 rfl) ?_
          refine lv_iload_n B.1 B.2.1 dX8_paint_69 rfl (lv_at hl 2 rfl) ?_
          refine lv_iload_n B.1 B.2.1 dX8_paint_70 rfl (lv_at hl 3 rfl) ?_
          refine lv_iload B.1 B.2.1 dX8_paint_71 (lv_at hl 4 rfl) ?_
          refine c_S_I (own := RX8) (As := [.ref (zA Z (a0 + 2)), .int a1, .int a2, .int a3, .int a4]) (rest := []) B hH (cy_X8_paintOn B.2.2.2.2.1) (ct_X8_paintOn B.2.2.2.2.2.2.2 l (a0 + 2) a1 a2 a3 a4 h17 _ _ (kf_8_3 (k0)) hw) ⟨⟨rfl, rfl⟩, Nat.le_of_ble_eq_true rfl, Nat.le_of_ble_eq_true rfl, Nat.zero_le _, Nat.zero_le _⟩ (tw_1066 B.2.2.2.2.1) rfl hl.1 rfl (Nat.le_of_ble_eq_true rfl) dX8_paint_73 ?_
          clear hw hH
          intro r19 h18 H locs hw hH
          exact e_i B hr hH hw dX8_paint_76
        · replace hw := hw.2 c16
          refine lv_iconst (v := 0) B.1 B.2.1 dX8_paint_58 (by decide) ?_
          exact e_i B hr hH hw dX8_paint_59
      · replace hw := hw.2 c13
        refine lv_iload B.1 B.2.1 dX8_paint_34 (lv_at hl 4 rfl) ?_
        refine lv_i2l B.1 B.2.1 dX8_paint_36 rfl ?_
        refine lv_lconst (v := 0) B.1 B.2.1 dX8_paint_37 (by decide) ?_
        refine lv_ldc2 (own := RX8) B.1 B.2.1 B.2.2.2.1 (tw_1037 B.2.2.2.2.1) dX8_paint_38 ?_
        refine c_S_I (own := RX8) (As := [.long (a4.toInt64), .long 0, .long 9]) (rest := [.ref (zA Z a0)]) B hH (cy_X8_in B.2.2.2.2.1) (ct_X8_in B.2.2.2.2.2.2.2 l (a4.toInt64) 0 9 h10 _ _  hw) ⟨⟨rfl, rfl⟩, Nat.le_of_ble_eq_true rfl, Nat.le_of_ble_eq_true rfl, Nat.zero_le _, Nat.zero_le _⟩ (tw_1010 B.2.2.2.2.1) rfl hl.1 rfl (Nat.le_of_ble_eq_true rfl) dX8_paint_41 ?_
        clear hw hH
        intro r21 h20 H locs hw hH
        refine lv_if_ne (tgt := 51) B.1 B.2.1 dX8_paint_44 (by decide) (fun c22 => ?_) (fun c22 => ?_)
        · replace hw := hw.1 c22
          refine lv_iconst (v := 0) B.1 B.2.1 dX8_paint_51 (by decide) ?_
          refine c_V_I (own := RX8) (As := [.int 0]) (rest := []) B hH (cy_X8_refused B.2.2.2.2.1) (ct_X8_refused B.2.2.2.2.2.2.2 l a0 0 h20 _ _ (k0) hw) ⟨⟨rfl, rfl⟩, Nat.le_of_ble_eq_true rfl, Nat.le_of_ble_eq_true rfl, Nat.zero_le _, Nat.zero_le _⟩ (rv_8 B hH (k0)) (tw_1013 B.2.2.2.2.1) rfl hl.1 rfl (Nat.le_of_ble_eq_true rfl) dX8_paint_52 ?_
          clear hw hH
          intro r24 h23 H locs hw hH
          refine lv_if_eq (tgt := 60) B.1 B.2.1 dX8_paint_55 (by decide) (fun c25 => ?_) (fun c25 => ?_)
          · replace hw := hw.1 c25
            refine lv_aload_n B.1 B.2.1 dX8_paint_60 rfl (lv_at hl 0 rfl) ?_
            refine c_V_V (own := RX8) (As := []) (rest := []) B hH (cy_X8_remember B.2.2.2.2.1) (ct_X8_remember B.2.2.2.2.2.2.2 l a0 h23 _ _ (k0) hw) ⟨⟨rfl, rfl⟩, Nat.le_of_ble_eq_true rfl, Nat.le_of_ble_eq_true rfl, Nat.zero_le _, Nat.zero_le _⟩ (rv_8 B hH (k0)) (tw_1197 B.2.2.2.2.1) rfl hl.1 rfl (Nat.le_of_ble_eq_true rfl) dX8_paint_61 ?_
            clear hw hH
            intro h26 H locs hw hH
            refine lv_aload_n B.1 B.2.1 dX8_paint_64 rfl (lv_at hl 0 rfl) ?_
            refine r_get B hH (own := RX8) (kd_n B (k0) (by decide) (by decide)) (ct_8 (k0)) rfl (ul_8 B.2.2.2.2.1) 3 (by decide) rfl (tw_969 B.2.2.2.2.1) dX8_paint_65 ?_
            refine lv_iload_n B.1 B.2.1 dX8_paint_68 rfl (lv_at hl 1 rfl) ?_
            refine lv_iload_n B.1 B.2.1 dX8_paint_69 rfl (lv_at hl 2 rfl) ?_
            refine lv_iload_n B.1 B.2.1 dX8_paint_70 rfl (lv_at hl 3 rfl) ?_
            refine lv_iload B.1 B.2.1 dX8_paint_71 (lv_at hl 4 rfl) ?_
            refine c_S_I (own := RX8) (As := [.ref (zA Z (a0 + 2)), .int a1, .int a2, .int a3, .int a4]) (rest := []) B hH (cy_X8_paintOn B.2.2.2.2.1) (ct_X8_paintOn B.2.2.2.2.2.2.2 l (a0 + 2) a1 a2 a3 a4 h26 _ _ (kf_8_3 (k0)) hw) ⟨⟨rfl, rfl⟩, Nat.le_of_ble_eq_true rfl, Nat.le_of_ble_eq_true rfl, Nat.zero_le _, Nat.zero_le _⟩ (tw_1066 B.2.2.2.2.1) rfl hl.1 rfl (Nat.le_of_ble_eq_true rfl) dX8_paint_73 ?_
            clear hw hH
            intro r28 h27 H locs hw hH
            exact e_i B hr hH hw dX8_paint_76
          · replace hw := hw.2 c25
            refine lv_iconst (v := 0) B.1 B.2.1 dX8_paint_58 (by decide) ?_
            exact e_i B hr hH hw dX8_paint_59
        · replace hw := hw.2 c22
          refine lv_iconst (v := 2) B.1 B.2.1 dX8_paint_47 (by decide) ?_
          refine lv_goto (tgt := 52) B.1 B.2.1 dX8_paint_48 (by decide) ?_
          refine c_V_I (own := RX8) (As := [.int 2]) (rest := []) B hH (cy_X8_refused B.2.2.2.2.1) (ct_X8_refused B.2.2.2.2.2.2.2 l a0 2 h20 _ _ (k0) hw) ⟨⟨rfl, rfl⟩, Nat.le_of_ble_eq_true rfl, Nat.le_of_ble_eq_true rfl, Nat.zero_le _, Nat.zero_le _⟩ (rv_8 B hH (k0)) (tw_1013 B.2.2.2.2.1) rfl hl.1 rfl (Nat.le_of_ble_eq_true rfl) dX8_paint_52 ?_
          clear hw hH
          intro r30 h29 H locs hw hH
          refine lv_if_eq (tgt := 60) B.1 B.2.1 dX8_paint_55 (by decide) (fun c31 => ?_) (fun c31 => ?_)
          · replace hw := hw.1 c31
            refine lv_aload_n B.1 B.2.1 dX8_paint_60 rfl (lv_at hl 0 rfl) ?_
            refine c_V_V (own := RX8) (As := []) (rest := []) B hH (cy_X8_remember B.2.2.2.2.1) (ct_X8_remember B.2.2.2.2.2.2.2 l a0 h29 _ _ (k0) hw) ⟨⟨rfl, rfl⟩, Nat.le_of_ble_eq_true rfl, Nat.le_of_ble_eq_true rfl, Nat.zero_le _, Nat.zero_le _⟩ (rv_8 B hH (k0)) (tw_1197 B.2.2.2.2.1) rfl hl.1 rfl (Nat.le_of_ble_eq_true rfl) dX8_paint_61 ?_
            clear hw hH
            intro h32 H locs hw hH
            refine lv_aload_n B.1 B.2.1 dX8_paint_64 rfl (lv_at hl 0 rfl) ?_
            refine r_get B hH (own := RX8) (kd_n B (k0) (by decide) (by decide)) (ct_8 (k0)) rfl (ul_8 B.2.2.2.2.1) 3 (by decide) rfl (tw_969 B.2.2.2.2.1) dX8_paint_65 ?_
            refine lv_iload_n B.1 B.2.1 dX8_paint_68 rfl (lv_at hl 1 rfl) ?_
            refine lv_iload_n B.1 B.2.1 dX8_paint_69 rfl (lv_at hl 2 rfl) ?_
            refine lv_iload_n B.1 B.2.1 dX8_paint_70 rfl (lv_at hl 3 rfl) ?_
            refine lv_iload B.1 B.2.1 dX8_paint_71 (lv_at hl 4 rfl) ?_
            refine c_S_I (own := RX8) (As := [.ref (zA Z (a0 + 2)), .int a1, .int a2, .int a3, .int a4]) (rest := []) B hH (cy_X8_paintOn B.2.2.2.2.1) (ct_X8_paintOn B.2.2.2.2.2.2.2 l (a0 + 2) a1 a2 a3 a4 h32 _ _ (kf_8_3 (k0)) hw) ⟨⟨rfl, rfl⟩, Nat.le_of_ble_eq_true rfl, Nat.le_of_ble_eq_true rfl, Nat.zero_le _, Nat.zero_le _⟩ (tw_1066 B.2.2.2.2.1) rfl hl.1 rfl (Nat.le_of_ble_eq_true rfl) dX8_paint_73 ?_
            clear hw hH
            intro r34 h33 H locs hw hH
            exact e_i B hr hH hw dX8_paint_76
          · replace hw := hw.2 c31
            refine lv_iconst (v := 0) B.1 B.2.1 dX8_paint_58 (by decide) ?_
            exact e_i B hr hH hw dX8_paint_59
    · replace hw := hw.2 c12
      refine lv_iconst (v := 1) B.1 B.2.1 dX8_paint_25 (by decide) ?_
      refine lv_goto (tgt := 52) B.1 B.2.1 dX8_paint_26 (by decide) ?_
      refine c_V_I (own := RX8) (As := [.int 1]) (rest := []) B hH (cy_X8_refused B.2.2.2.2.1) (ct_X8_refused B.2.2.2.2.2.2.2 l a0 1 h10 _ _ (k0) hw) ⟨⟨rfl, rfl⟩, Nat.le_of_ble_eq_true rfl, Nat.le_of_ble_eq_true rfl, Nat.zero_le _, Nat.zero_le _⟩ (rv_8 B hH (k0)) (tw_1013 B.2.2.2.2.1) rfl hl.1 rfl (Nat.le_of_ble_eq_true rfl) dX8_paint_52 ?_
      clear hw hH
      intro r36 h35 H locs hw hH
      refine lv_if_eq (tgt := 60) B.1 B.2.1 dX8_paint_55 (by decide) (fun c37 => ?_) (fun c37 => ?_)
      · replace hw := hw.1 c37
        refine lv_aload_n B.1 B.2.1 dX8_paint_60 rfl (lv_at hl 0 rfl) ?_
        refine c_V_V (own := RX8) (As := []) (rest := []) B hH (cy_X8_remember B.2.2.2.2.1) (ct_X8_remember B.2.2.2.2.2.2.2 l a0 h35 _ _ (k0) hw) ⟨⟨rfl, rfl⟩, Nat.le_of_ble_eq_true rfl, Nat.le_of_ble_eq_true rfl, Nat.zero_le _, Nat.zero_le _⟩ (rv_8 B hH (k0)) (tw_1197 B.2.2.2.2.1) rfl hl.1 rfl (Nat.le_of_ble_eq_true rfl) dX8_paint_61 ?_
        clear hw hH
        intro h38 H locs hw hH
        refine lv_aload_n B.1 B.2.1 dX8_paint_64 rfl (lv_at hl 0 rfl) ?_
        refine r_get B hH (own := RX8) (kd_n B (k0) (by decide) (by decide)) (ct_8 (k0)) rfl (ul_8 B.2.2.2.2.1) 3 (by decide) rfl (tw_969 B.2.2.2.2.1) dX8_paint_65 ?_
        refine lv_iload_n B.1 B.2.1 dX8_paint_68 rfl (lv_at hl 1 rfl) ?_
        refine lv_iload_n B.1 B.2.1 dX8_paint_69 rfl (lv_at hl 2 rfl) ?_
        refine lv_iload_n B.1 B.2.1 dX8_paint_70 rfl (lv_at hl 3 rfl) ?_
        refine lv_iload B.1 B.2.1 dX8_paint_71 (lv_at hl 4 rfl) ?_
        refine c_S_I (own := RX8) (As := [.ref (zA Z (a0 + 2)), .int a1, .int a2, .int a3, .int a4]) (rest := []) B hH (cy_X8_paintOn B.2.2.2.2.1) (ct_X8_paintOn B.2.2.2.2.2.2.2 l (a0 + 2) a1 a2 a3 a4 h38 _ _ (kf_8_3 (k0)) hw) ⟨⟨rfl, rfl⟩, Nat.le_of_ble_eq_true rfl, Nat.le_of_ble_eq_true rfl, Nat.zero_le _, Nat.zero_le _⟩ (tw_1066 B.2.2.2.2.1) rfl hl.1 rfl (Nat.le_of_ble_eq_true rfl) dX8_paint_73 ?_
        clear hw hH
        intro r40 h39 H locs hw hH
        exact e_i B hr hH hw dX8_paint_76
      · replace hw := hw.2 c37
        refine lv_iconst (v := 0) B.1 B.2.1 dX8_paint_58 (by decide) ?_
        exact e_i B hr hH hw dX8_paint_59
theorem cy_X8_loop {s : State} {args : Array Value} (hG : GG s) : CYV s args yX8_loop cX8_loop 1 (some .int) 0 := CYV.of hG (fun _ _ hG => tw_1208 hG) (tw_8 hG) (tw_1206 hG) (tw_1207 hG) (by decide +kernel)
set_option maxRecDepth 100000 in
set_option maxHeartbeats 4000000 in
theorem ct_X8_loop {Z : ZT} (hZ : ZO Z) (l : Launch) (a0 : Nat) (h : PH) (sz : Nat) (Q : Int32 → PH → Prop) (k0 : kd a0 = 8) (hw : wp_X8_loop a0 h Q) : MI Z l yX8_loop cX8_loop 1 (some .int) ({ frames := 2, cells := 0, slots := 0, locals := 45 } : Room) h sz [.ref (zA Z a0)] Q := by
  refine open_M hZ (by decide +kernel) (by exact Nat.le_of_ble_eq_true rfl) ?_
  intro p e s m below meth c B hr hsz ls hl hH
  subst hsz
  have hl : lv_has ls 1 [(0, .ref (zA Z a0))] := hl
  unfold wp_X8_loop at hw
  refine lv_aload_n B.1 B.2.1 dX8_loop_0 rfl (lv_at hl 0 rfl) ?_
  refine lv_aload_n B.1 B.2.1 dX8_loop_1 rfl (lv_at hl 0 rfl) ?_
  refine r_get B hH (own := RX8) (kd_n B (k0) (by decide) (by decide)) (ct_8 (k0)) rfl (ul_8 B.2.2.2.2.1) 3 (by decide) rfl (tw_969 B.2.2.2.2.1) dX8_loop_2 ?_
  refine lv_iconst (v := 1) B.1 B.2.1 dX8_loop_5 (by decide) ?_
  have q1 := hw.1
  replace hw := hw.2
  refine r_iald B hH (kf_8_3 (k0)) q1 dX8_loop_6 ?_
  refine lv_iconst (v := 4) B.1 B.2.1 dX8_loop_7 (by decide) ?_
  refine lv_icmp_ge (tgt := 15) B.1 B.2.1 dX8_loop_8 (by decide) (fun c2 => ?_) (fun c2 => ?_)
  · replace hw := hw.1 c2
    refine lv_iconst (v := 1) B.1 B.2.1 dX8_loop_15 (by decide) ?_
    refine c_V_I (own := RX8) (As := [.int 1]) (rest := []) B hH (cy_X8_refused B.2.2.2.2.1) (ct_X8_refused B.2.2.2.2.2.2.2 l a0 1 h _ _ (k0) hw) ⟨⟨rfl, rfl⟩, Nat.le_of_ble_eq_true rfl, Nat.le_of_ble_eq_true rfl, Nat.zero_le _, Nat.zero_le _⟩ (rv_8 B hH (k0)) (tw_1013 B.2.2.2.2.1) rfl hl.1 rfl (Nat.le_of_ble_eq_true rfl) dX8_loop_16 ?_
    clear hw hH
    intro r4 h3 H locs hw hH
    refine lv_if_eq (tgt := 24) B.1 B.2.1 dX8_loop_19 (by decide) (fun c5 => ?_) (fun c5 => ?_)
    · replace hw := hw.1 c5
      refine lv_aload_n B.1 B.2.1 dX8_loop_24 rfl (lv_at hl 0 rfl) ?_
      refine c_V_V (own := RX8) (As := []) (rest := []) B hH (cy_X8_remember B.2.2.2.2.1) (ct_X8_remember B.2.2.2.2.2.2.2 l a0 h3 _ _ (k0) hw) ⟨⟨rfl, rfl⟩, Nat.le_of_ble_eq_true rfl, Nat.le_of_ble_eq_true rfl, Nat.zero_le _, Nat.zero_le _⟩ (rv_8 B hH (k0)) (tw_1197 B.2.2.2.2.1) rfl hl.1 rfl (Nat.le_of_ble_eq_true rfl) dX8_loop_25 ?_
      clear hw hH
      intro h6 H locs hw hH
      refine lv_aload_n B.1 B.2.1 dX8_loop_28 rfl (lv_at hl 0 rfl) ?_
      refine r_get B hH (own := RX8) (kd_n B (k0) (by decide) (by decide)) (ct_8 (k0)) rfl (ul_8 B.2.2.2.2.1) 3 (by decide) rfl (tw_969 B.2.2.2.2.1) dX8_loop_29 ?_
      refine c_S_I (own := RX8) (As := [.ref (zA Z (a0 + 2))]) (rest := []) B hH (cy_X8_loopOn B.2.2.2.2.1) (ct_X8_loopOn B.2.2.2.2.2.2.2 l (a0 + 2) h6 _ _ (kf_8_3 (k0)) hw) ⟨⟨rfl, rfl⟩, Nat.le_of_ble_eq_true rfl, Nat.le_of_ble_eq_true rfl, Nat.zero_le _, Nat.zero_le _⟩ (tw_1069 B.2.2.2.2.1) rfl hl.1 rfl (Nat.le_of_ble_eq_true rfl) dX8_loop_32 ?_
      clear hw hH
      intro r8 h7 H locs hw hH
      exact e_i B hr hH hw dX8_loop_35
    · replace hw := hw.2 c5
      refine lv_iconst (v := 0) B.1 B.2.1 dX8_loop_22 (by decide) ?_
      exact e_i B hr hH hw dX8_loop_23
  · replace hw := hw.2 c2
    refine lv_iconst (v := 0) B.1 B.2.1 dX8_loop_11 (by decide) ?_
    refine lv_goto (tgt := 16) B.1 B.2.1 dX8_loop_12 (by decide) ?_
    refine c_V_I (own := RX8) (As := [.int 0]) (rest := []) B hH (cy_X8_refused B.2.2.2.2.1) (ct_X8_refused B.2.2.2.2.2.2.2 l a0 0 h _ _ (k0) hw) ⟨⟨rfl, rfl⟩, Nat.le_of_ble_eq_true rfl, Nat.le_of_ble_eq_true rfl, Nat.zero_le _, Nat.zero_le _⟩ (rv_8 B hH (k0)) (tw_1013 B.2.2.2.2.1) rfl hl.1 rfl (Nat.le_of_ble_eq_true rfl) dX8_loop_16 ?_
    clear hw hH
    intro r10 h9 H locs hw hH
    refine lv_if_eq (tgt := 24) B.1 B.2.1 dX8_loop_19 (by decide) (fun c11 => ?_) (fun c11 => ?_)
    · replace hw := hw.1 c11
      refine lv_aload_n B.1 B.2.1 dX8_loop_24 rfl (lv_at hl 0 rfl) ?_
      refine c_V_V (own := RX8) (As := []) (rest := []) B hH (cy_X8_remember B.2.2.2.2.1) (ct_X8_remember B.2.2.2.2.2.2.2 l a0 h9 _ _ (k0) hw) ⟨⟨rfl, rfl⟩, Nat.le_of_ble_eq_true rfl, Nat.le_of_ble_eq_true rfl, Nat.zero_le _, Nat.zero_le _⟩ (rv_8 B hH (k0)) (tw_1197 B.2.2.2.2.1) rfl hl.1 rfl (Nat.le_of_ble_eq_true rfl) dX8_loop_25 ?_
      clear hw hH
      intro h12 H locs hw hH
      refine lv_aload_n B.1 B.2.1 dX8_loop_28 rfl (lv_at hl 0 rfl) ?_
      refine r_get B hH (own := RX8) (kd_n B (k0) (by decide) (by decide)) (ct_8 (k0)) rfl (ul_8 B.2.2.2.2.1) 3 (by decide) rfl (tw_969 B.2.2.2.2.1) dX8_loop_29 ?_
      refine c_S_I (own := RX8) (As := [.ref (zA Z (a0 + 2))]) (rest := []) B hH (cy_X8_loopOn B.2.2.2.2.1) (ct_X8_loopOn B.2.2.2.2.2.2.2 l (a0 + 2) h12 _ _ (kf_8_3 (k0)) hw) ⟨⟨rfl, rfl⟩, Nat.le_of_ble_eq_true rfl, Nat.le_of_ble_eq_true rfl, Nat.zero_le _, Nat.zero_le _⟩ (tw_1069 B.2.2.2.2.1) rfl hl.1 rfl (Nat.le_of_ble_eq_true rfl) dX8_loop_32 ?_
      clear hw hH
      intro r14 h13 H locs hw hH
      exact e_i B hr hH hw dX8_loop_35
    · replace hw := hw.2 c11
      refine lv_iconst (v := 0) B.1 B.2.1 dX8_loop_22 (by decide) ?_
      exact e_i B hr hH hw dX8_loop_23
theorem cy_X8_splice {s : State} {args : Array Value} (hG : GG s) : CYV s args yX8_splice cX8_splice 5 (some .int) 4 := CYV.of hG (fun _ _ hG => tw_1212 hG) (tw_8 hG) (tw_1210 hG) (tw_1211 hG) (by decide +kernel)
set_option maxRecDepth 100000 in
set_option maxHeartbeats 4000000 in
theorem ct_X8_splice {Z : ZT} (hZ : ZO Z) (l : Launch) (a0 : Nat) (a1 : Int32) (a2 : Int32) (a3 : Int32) (a4 : Int32) (h : PH) (sz : Nat) (Q : Int32 → PH → Prop) (k0 : kd a0 = 8) (hw : wp_X8_splice a0 a1 a2 a3 a4 h Q) : MI Z l yX8_splice cX8_splice 5 (some .int) ({ frames := 4, cells := 0, slots := 0, locals := 95 } : Room) h sz [.ref (zA Z a0), .int a1, .int a2, .int a3, .int a4] Q := by
  refine open_M hZ (by decide +kernel) (by exact Nat.le_of_ble_eq_true rfl) ?_
  intro p e s m below meth c B hr hsz ls hl hH
  subst hsz
  have hl : lv_has ls 5 [(0, .ref (zA Z a0)), (1, .int a1), (2, .int a2), (3, .int a3), (4, .int a4)] := hl
  unfold wp_X8_splice at hw
  refine lv_aload_n B.1 B.2.1 dX8_splice_0 rfl (lv_at hl 0 rfl) ?_
  refine lv_aload_n B.1 B.2.1 dX8_splice_1 rfl (lv_at hl 0 rfl) ?_
  refine r_get B hH (own := RX8) (kd_n B (k0) (by decide) (by decide)) (ct_8 (k0)) rfl (ul_8 B.2.2.2.2.1) 3 (by decide) rfl (tw_969 B.2.2.2.2.1) dX8_splice_2 ?_
  refine lv_iload_n B.1 B.2.1 dX8_splice_5 rfl (lv_at hl 1 rfl) ?_
  refine c_S_I (own := RX8) (As := [.ref (zA Z (a0 + 2)), .int a1]) (rest := [.ref (zA Z a0)]) B hH (cy_X8_isLoop B.2.2.2.2.1) (ct_X8_isLoop B.2.2.2.2.2.2.2 l (a0 + 2) a1 h _ _ (kf_8_3 (k0)) hw) ⟨⟨rfl, rfl⟩, Nat.le_of_ble_eq_true rfl, Nat.le_of_ble_eq_true rfl, Nat.zero_le _, Nat.zero_le _⟩ (tw_1083 B.2.2.2.2.1) rfl hl.1 rfl (Nat.le_of_ble_eq_true rfl) dX8_splice_6 ?_
  clear hw hH
  intro r2 h1 H locs hw hH
  refine lv_if_eq (tgt := 41) B.1 B.2.1 dX8_splice_9 (by decide) (fun c3 => ?_) (fun c3 => ?_)
  · replace hw := hw.1 c3
    refine lv_iconst (v := 1) B.1 B.2.1 dX8_splice_41 (by decide) ?_
    refine c_V_I (own := RX8) (As := [.int 1]) (rest := []) B hH (cy_X8_refused B.2.2.2.2.1) (ct_X8_refused B.2.2.2.2.2.2.2 l a0 1 h1 _ _ (k0) hw) ⟨⟨rfl, rfl⟩, Nat.le_of_ble_eq_true rfl, Nat.le_of_ble_eq_true rfl, Nat.zero_le _, Nat.zero_le _⟩ (rv_8 B hH (k0)) (tw_1013 B.2.2.2.2.1) rfl hl.1 rfl (Nat.le_of_ble_eq_true rfl) dX8_splice_42 ?_
    clear hw hH
    intro r5 h4 H locs hw hH
    refine lv_if_eq (tgt := 50) B.1 B.2.1 dX8_splice_45 (by decide) (fun c6 => ?_) (fun c6 => ?_)
    · replace hw := hw.1 c6
      refine lv_aload_n B.1 B.2.1 dX8_splice_50 rfl (lv_at hl 0 rfl) ?_
      refine c_V_V (own := RX8) (As := []) (rest := []) B hH (cy_X8_remember B.2.2.2.2.1) (ct_X8_remember B.2.2.2.2.2.2.2 l a0 h4 _ _ (k0) hw) ⟨⟨rfl, rfl⟩, Nat.le_of_ble_eq_true rfl, Nat.le_of_ble_eq_true rfl, Nat.zero_le _, Nat.zero_le _⟩ (rv_8 B hH (k0)) (tw_1197 B.2.2.2.2.1) rfl hl.1 rfl (Nat.le_of_ble_eq_true rfl) dX8_splice_51 ?_
      clear hw hH
      intro h7 H locs hw hH
      refine lv_aload_n B.1 B.2.1 dX8_splice_54 rfl (lv_at hl 0 rfl) ?_
      refine r_get B hH (own := RX8) (kd_n B (k0) (by decide) (by decide)) (ct_8 (k0)) rfl (ul_8 B.2.2.2.2.1) 3 (by decide) rfl (tw_969 B.2.2.2.2.1) dX8_splice_55 ?_
      refine lv_iload_n B.1 B.2.1 dX8_splice_58 rfl (lv_at hl 1 rfl) ?_
      refine lv_iload_n B.1 B.2.1 dX8_splice_59 rfl (lv_at hl 2 rfl) ?_
      refine lv_iload_n B.1 B.2.1 dX8_splice_60 rfl (lv_at hl 3 rfl) ?_
      refine lv_iload B.1 B.2.1 dX8_splice_61 (lv_at hl 4 rfl) ?_
      refine c_S_I (own := RX8) (As := [.ref (zA Z (a0 + 2)), .int a1, .int a2, .int a3, .int a4]) (rest := []) B hH (cy_X8_spliceOn B.2.2.2.2.1) (ct_X8_spliceOn B.2.2.2.2.2.2.2 l (a0 + 2) a1 a2 a3 a4 h7 _ _ (kf_8_3 (k0)) hw) ⟨⟨rfl, rfl⟩, Nat.le_of_ble_eq_true rfl, Nat.le_of_ble_eq_true rfl, Nat.zero_le _, Nat.zero_le _⟩ (tw_1101 B.2.2.2.2.1) rfl hl.1 rfl (Nat.le_of_ble_eq_true rfl) dX8_splice_63 ?_
      clear hw hH
      intro r9 h8 H locs hw hH
      exact e_i B hr hH hw dX8_splice_66
    · replace hw := hw.2 c6
      refine lv_iconst (v := 0) B.1 B.2.1 dX8_splice_48 (by decide) ?_
      exact e_i B hr hH hw dX8_splice_49
  · replace hw := hw.2 c3
    refine lv_aload_n B.1 B.2.1 dX8_splice_12 rfl (lv_at hl 0 rfl) ?_
    refine r_get B hH (own := RX8) (kd_n B (k0) (by decide) (by decide)) (ct_8 (k0)) rfl (ul_8 B.2.2.2.2.1) 3 (by decide) rfl (tw_969 B.2.2.2.2.1) dX8_splice_13 ?_
    refine lv_iload_n B.1 B.2.1 dX8_splice_16 rfl (lv_at hl 2 rfl) ?_
    refine lv_iload_n B.1 B.2.1 dX8_splice_17 rfl (lv_at hl 3 rfl) ?_
    refine c_S_I (own := RX8) (As := [.ref (zA Z (a0 + 2)), .int a2, .int a3]) (rest := [.ref (zA Z a0)]) B hH (cy_X8_isPlace B.2.2.2.2.1) (ct_X8_isPlace B.2.2.2.2.2.2.2 l (a0 + 2) a2 a3 h1 _ _ (kf_8_3 (k0)) hw) ⟨⟨rfl, rfl⟩, Nat.le_of_ble_eq_true rfl, Nat.le_of_ble_eq_true rfl, Nat.zero_le _, Nat.zero_le _⟩ (tw_1086 B.2.2.2.2.1) rfl hl.1 rfl (Nat.le_of_ble_eq_true rfl) dX8_splice_18 ?_
    clear hw hH
    intro r11 h10 H locs hw hH
    refine lv_if_eq (tgt := 41) B.1 B.2.1 dX8_splice_21 (by decide) (fun c12 => ?_) (fun c12 => ?_)
    · replace hw := hw.1 c12
      refine lv_iconst (v := 1) B.1 B.2.1 dX8_splice_41 (by decide) ?_
      refine c_V_I (own := RX8) (As := [.int 1]) (rest := []) B hH (cy_X8_refused B.2.2.2.2.1) (ct_X8_refused B.2.2.2.2.2.2.2 l a0 1 h10 _ _ (k0) hw) ⟨⟨rfl, rfl⟩, Nat.le_of_ble_eq_true rfl, Nat.le_of_ble_eq_true rfl, Nat.zero_le _, Nat.zero_le _⟩ (rv_8 B hH (k0)) (tw_1013 B.2.2.2.2.1) rfl hl.1 rfl (Nat.le_of_ble_eq_true rfl) dX8_splice_42 ?_
      clear hw hH
      intro r14 h13 H locs hw hH
      refine lv_if_eq (tgt := 50) B.1 B.2.1 dX8_splice_45 (by decide) (fun c15 => ?_) (fun c15 => ?_)
      · replace hw := hw.1 c15
        refine lv_aload_n B.1 B.2.1 dX8_splice_50 rfl (lv_at hl 0 rfl) ?_
        refine c_V_V (own := RX8) (As := []) (rest := []) B hH (cy_X8_remember B.2.2.2.2.1) (ct_X8_remember B.2.2.2.2.2.2.2 l a0 h13 _ _ (k0) hw) ⟨⟨rfl, rfl⟩, Nat.le_of_ble_eq_true rfl, Nat.le_of_ble_eq_true rfl, Nat.zero_le _, Nat.zero_le _⟩ (rv_8 B hH (k0)) (tw_1197 B.2.2.2.2.1) rfl hl.1 rfl (Nat.le_of_ble_eq_true rfl) dX8_splice_51 ?_
        clear hw hH
        intro h16 H locs hw hH
        refine lv_aload_n B.1 B.2.1 dX8_splice_54 rfl (lv_at hl 0 rfl) ?_
        refine r_get B hH (own := RX8) (kd_n B (k0) (by decide) (by decide)) (ct_8 (k0)) rfl (ul_8 B.2.2.2.2.1) 3 (by decide) rfl (tw_969 B.2.2.2.2.1) dX8_splice_55 ?_
        refine lv_iload_n B.1 B.2.1 dX8_splice_58 rfl (lv_at hl 1 rfl) ?_
        refine lv_iload_n B.1 B.2.1 dX8_splice_59 rfl (lv_at hl 2 rfl) ?_
        refine lv_iload_n B.1 B.2.1 dX8_splice_60 rfl (lv_at hl 3 rfl) ?_
        refine lv_iload B.1 B.2.1 dX8_splice_61 (lv_at hl 4 rfl) ?_
        refine c_S_I (own := RX8) (As := [.ref (zA Z (a0 + 2)), .int a1, .int a2, .int a3, .int a4]) (rest := []) B hH (cy_X8_spliceOn B.2.2.2.2.1) (ct_X8_spliceOn B.2.2.2.2.2.2.2 l (a0 + 2) a1 a2 a3 a4 h16 _ _ (kf_8_3 (k0)) hw) ⟨⟨rfl, rfl⟩, Nat.le_of_ble_eq_true rfl, Nat.le_of_ble_eq_true rfl, Nat.zero_le _, Nat.zero_le _⟩ (tw_1101 B.2.2.2.2.1) rfl hl.1 rfl (Nat.le_of_ble_eq_true rfl) dX8_splice_63 ?_
        clear hw hH
        intro r18 h17 H locs hw hH
        exact e_i B hr hH hw dX8_splice_66
      · replace hw := hw.2 c15
        refine lv_iconst (v := 0) B.1 B.2.1 dX8_splice_48 (by decide) ?_
        exact e_i B hr hH hw dX8_splice_49
    · replace hw := hw.2 c12
      refine lv_aload_n B.1 B.2.1 dX8_splice_24 rfl (lv_at hl 0 rfl) ?_
      refine r_get B hH (own := RX8) (kd_n B (k0) (by decide) (by decide)) (ct_8 (k0)) rfl (ul_8 B.2.2.2.2.1) 3 (by decide) rfl (tw_969 B.2.2.2.2.1) dX8_splice_25 ?_
      refine lv_iload_n B.1 B.2.1 dX8_splice_28 rfl (lv_at hl 2 rfl) ?_
      refine lv_iload B.1 B.2.1 dX8_splice_29 (lv_at hl 4 rfl) ?_
      refine c_S_I (own := RX8) (As := [.ref (zA Z (a0 + 2)), .int a2, .int a4]) (rest := [.ref (zA Z a0)]) B hH (cy_X8_isPlace B.2.2.2.2.1) (ct_X8_isPlace B.2.2.2.2.2.2.2 l (a0 + 2) a2 a4 h10 _ _ (kf_8_3 (k0)) hw) ⟨⟨rfl, rfl⟩, Nat.le_of_ble_eq_true rfl, Nat.le_of_ble_eq_true rfl, Nat.zero_le _, Nat.zero_le _⟩ (tw_1086 B.2.2.2.2.1) rfl hl.1 rfl (Nat.le_of_ble_eq_true rfl) dX8_splice_31 ?_
      clear hw hH
      intro r20 h19 H locs hw hH
      refine lv_if_eq (tgt := 41) B.1 B.2.1 dX8_splice_34 (by decide) (fun c21 => ?_) (fun c21 => ?_)
      · replace hw := hw.1 c21
        refine lv_iconst (v := 1) B.1 B.2.1 dX8_splice_41 (by decide) ?_
        refine c_V_I (own := RX8) (As := [.int 1]) (rest := []) B hH (cy_X8_refused B.2.2.2.2.1) (ct_X8_refused B.2.2.2.2.2.2.2 l a0 1 h19 _ _ (k0) hw) ⟨⟨rfl, rfl⟩, Nat.le_of_ble_eq_true rfl, Nat.le_of_ble_eq_true rfl, Nat.zero_le _, Nat.zero_le _⟩ (rv_8 B hH (k0)) (tw_1013 B.2.2.2.2.1) rfl hl.1 rfl (Nat.le_of_ble_eq_true rfl) dX8_splice_42 ?_
        clear hw hH
        intro r23 h22 H locs hw hH
        refine lv_if_eq (tgt := 50) B.1 B.2.1 dX8_splice_45 (by decide) (fun c24 => ?_) (fun c24 => ?_)
        · replace hw := hw.1 c24
          refine lv_aload_n B.1 B.2.1 dX8_splice_50 rfl (lv_at hl 0 rfl) ?_
          refine c_V_V (own := RX8) (As := []) (rest := []) B hH (cy_X8_remember B.2.2.2.2.1) (ct_X8_remember B.2.2.2.2.2.2.2 l a0 h22 _ _ (k0) hw) ⟨⟨rfl, rfl⟩, Nat.le_of_ble_eq_true rfl, Nat.le_of_ble_eq_true rfl, Nat.zero_le _, Nat.zero_le _⟩ (rv_8 B hH (k0)) (tw_1197 B.2.2.2.2.1) rfl hl.1 rfl (Nat.le_of_ble_eq_true rfl) dX8_splice_51 ?_
          clear hw hH
          intro h25 H locs hw hH
          refine lv_aload_n B.1 B.2.1 dX8_splice_54 rfl (lv_at hl 0 rfl) ?_
          refine r_get B hH (own := RX8) (kd_n B (k0) (by decide) (by decide)) (ct_8 (k0)) rfl (ul_8 B.2.2.2.2.1) 3 (by decide) rfl (tw_969 B.2.2.2.2.1) dX8_splice_55 ?_
          refine lv_iload_n B.1 B.2.1 dX8_splice_58 rfl (lv_at hl 1 rfl) ?_
          refine lv_iload_n B.1 B.2.1 dX8_splice_59 rfl (lv_at hl 2 rfl) ?_
          refine lv_iload_n B.1 B.2.1 dX8_splice_60 rfl (lv_at hl 3 rfl) ?_
          refine lv_iload B.1 B.2.1 dX8_splice_61 (lv_at hl 4 rfl) ?_
          refine c_S_I (own := RX8) (As := [.ref (zA Z (a0 + 2)), .int a1, .int a2, .int a3, .int a4]) (rest := []) B hH (cy_X8_spliceOn B.2.2.2.2.1) (ct_X8_spliceOn B.2.2.2.2.2.2.2 l (a0 + 2) a1 a2 a3 a4 h25 _ _ (kf_8_3 (k0)) hw) ⟨⟨rfl, rfl⟩, Nat.le_of_ble_eq_true rfl, Nat.le_of_ble_eq_true rfl, Nat.zero_le _, Nat.zero_le _⟩ (tw_1101 B.2.2.2.2.1) rfl hl.1 rfl (Nat.le_of_ble_eq_true rfl) dX8_splice_63 ?_
          clear hw hH
          intro r27 h26 H locs hw hH
          exact e_i B hr hH hw dX8_splice_66
        · replace hw := hw.2 c24
          refine lv_iconst (v := 0) B.1 B.2.1 dX8_splice_48 (by decide) ?_
          exact e_i B hr hH hw dX8_splice_49
      · replace hw := hw.2 c21
        refine lv_iconst (v := 0) B.1 B.2.1 dX8_splice_37 (by decide) ?_
        refine lv_goto (tgt := 42) B.1 B.2.1 dX8_splice_38 (by decide) ?_
        refine c_V_I (own := RX8) (As := [.int 0]) (rest := []) B hH (cy_X8_refused B.2.2.2.2.1) (ct_X8_refused B.2.2.2.2.2.2.2 l a0 0 h19 _ _ (k0) hw) ⟨⟨rfl, rfl⟩, Nat.le_of_ble_eq_true rfl, Nat.le_of_ble_eq_true rfl, Nat.zero_le _, Nat.zero_le _⟩ (rv_8 B hH (k0)) (tw_1013 B.2.2.2.2.1) rfl hl.1 rfl (Nat.le_of_ble_eq_true rfl) dX8_splice_42 ?_
        clear hw hH
        intro r29 h28 H locs hw hH
        refine lv_if_eq (tgt := 50) B.1 B.2.1 dX8_splice_45 (by decide) (fun c30 => ?_) (fun c30 => ?_)
        · replace hw := hw.1 c30
          refine lv_aload_n B.1 B.2.1 dX8_splice_50 rfl (lv_at hl 0 rfl) ?_
          refine c_V_V (own := RX8) (As := []) (rest := []) B hH (cy_X8_remember B.2.2.2.2.1) (ct_X8_remember B.2.2.2.2.2.2.2 l a0 h28 _ _ (k0) hw) ⟨⟨rfl, rfl⟩, Nat.le_of_ble_eq_true rfl, Nat.le_of_ble_eq_true rfl, Nat.zero_le _, Nat.zero_le _⟩ (rv_8 B hH (k0)) (tw_1197 B.2.2.2.2.1) rfl hl.1 rfl (Nat.le_of_ble_eq_true rfl) dX8_splice_51 ?_
          clear hw hH
          intro h31 H locs hw hH
          refine lv_aload_n B.1 B.2.1 dX8_splice_54 rfl (lv_at hl 0 rfl) ?_
          refine r_get B hH (own := RX8) (kd_n B (k0) (by decide) (by decide)) (ct_8 (k0)) rfl (ul_8 B.2.2.2.2.1) 3 (by decide) rfl (tw_969 B.2.2.2.2.1) dX8_splice_55 ?_
          refine lv_iload_n B.1 B.2.1 dX8_splice_58 rfl (lv_at hl 1 rfl) ?_
          refine lv_iload_n B.1 B.2.1 dX8_splice_59 rfl (lv_at hl 2 rfl) ?_
          refine lv_iload_n B.1 B.2.1 dX8_splice_60 rfl (lv_at hl 3 rfl) ?_
          refine lv_iload B.1 B.2.1 dX8_splice_61 (lv_at hl 4 rfl) ?_
          refine c_S_I (own := RX8) (As := [.ref (zA Z (a0 + 2)), .int a1, .int a2, .int a3, .int a4]) (rest := []) B hH (cy_X8_spliceOn B.2.2.2.2.1) (ct_X8_spliceOn B.2.2.2.2.2.2.2 l (a0 + 2) a1 a2 a3 a4 h31 _ _ (kf_8_3 (k0)) hw) ⟨⟨rfl, rfl⟩, Nat.le_of_ble_eq_true rfl, Nat.le_of_ble_eq_true rfl, Nat.zero_le _, Nat.zero_le _⟩ (tw_1101 B.2.2.2.2.1) rfl hl.1 rfl (Nat.le_of_ble_eq_true rfl) dX8_splice_63 ?_
          clear hw hH
          intro r33 h32 H locs hw hH
          exact e_i B hr hH hw dX8_splice_66
        · replace hw := hw.2 c30
          refine lv_iconst (v := 0) B.1 B.2.1 dX8_splice_48 (by decide) ?_
          exact e_i B hr hH hw dX8_splice_49
theorem cy_X8_unsplice {s : State} {args : Array Value} (hG : GG s) : CYV s args yX8_unsplice cX8_unsplice 2 (some .int) 1 := CYV.of hG (fun _ _ hG => tw_1216 hG) (tw_8 hG) (tw_1214 hG) (tw_1215 hG) (by decide +kernel)
set_option maxRecDepth 100000 in
set_option maxHeartbeats 4000000 in
theorem ct_X8_unsplice {Z : ZT} (hZ : ZO Z) (l : Launch) (a0 : Nat) (a1 : Int32) (h : PH) (sz : Nat) (Q : Int32 → PH → Prop) (k0 : kd a0 = 8) (hw : wp_X8_unsplice a0 a1 h Q) : MI Z l yX8_unsplice cX8_unsplice 2 (some .int) ({ frames := 2, cells := 0, slots := 0, locals := 46 } : Room) h sz [.ref (zA Z a0), .int a1] Q := by
  refine open_M hZ (by decide +kernel) (by exact Nat.le_of_ble_eq_true rfl) ?_
  intro p e s m below meth c B hr hsz ls hl hH
  subst hsz
  have hl : lv_has ls 2 [(0, .ref (zA Z a0)), (1, .int a1)] := hl
  unfold wp_X8_unsplice at hw
  refine lv_aload_n B.1 B.2.1 dX8_unsplice_0 rfl (lv_at hl 0 rfl) ?_
  refine lv_aload_n B.1 B.2.1 dX8_unsplice_1 rfl (lv_at hl 0 rfl) ?_
  refine r_get B hH (own := RX8) (kd_n B (k0) (by decide) (by decide)) (ct_8 (k0)) rfl (ul_8 B.2.2.2.2.1) 3 (by decide) rfl (tw_969 B.2.2.2.2.1) dX8_unsplice_2 ?_
  refine lv_iload_n B.1 B.2.1 dX8_unsplice_5 rfl (lv_at hl 1 rfl) ?_
  refine c_S_I (own := RX8) (As := [.ref (zA Z (a0 + 2)), .int a1]) (rest := [.ref (zA Z a0)]) B hH (cy_X8_isLoop B.2.2.2.2.1) (ct_X8_isLoop B.2.2.2.2.2.2.2 l (a0 + 2) a1 h _ _ (kf_8_3 (k0)) hw) ⟨⟨rfl, rfl⟩, Nat.le_of_ble_eq_true rfl, Nat.le_of_ble_eq_true rfl, Nat.zero_le _, Nat.zero_le _⟩ (tw_1083 B.2.2.2.2.1) rfl hl.1 rfl (Nat.le_of_ble_eq_true rfl) dX8_unsplice_6 ?_
  clear hw hH
  intro r2 h1 H locs hw hH
  refine lv_if_ne (tgt := 16) B.1 B.2.1 dX8_unsplice_9 (by decide) (fun c3 => ?_) (fun c3 => ?_)
  · replace hw := hw.1 c3
    refine lv_aload_n B.1 B.2.1 dX8_unsplice_16 rfl (lv_at hl 0 rfl) ?_
    refine r_get B hH (own := RX8) (kd_n B (k0) (by decide) (by decide)) (ct_8 (k0)) rfl (ul_8 B.2.2.2.2.1) 3 (by decide) rfl (tw_969 B.2.2.2.2.1) dX8_unsplice_17 ?_
    refine lv_iload_n B.1 B.2.1 dX8_unsplice_20 rfl (lv_at hl 1 rfl) ?_
    refine lv_iconst (v := 0) B.1 B.2.1 dX8_unsplice_21 (by decide) ?_
    refine c_S_I (own := RX8) (As := [.ref (zA Z (a0 + 2)), .int a1, .int 0]) (rest := [.ref (zA Z a0)]) B hH (cy_X8_of B.2.2.2.2.1) (ct_X8_of B.2.2.2.2.2.2.2 l (a0 + 2) a1 0 h1 _ _ (kf_8_3 (k0)) hw) ⟨⟨rfl, rfl⟩, Nat.le_of_ble_eq_true rfl, Nat.le_of_ble_eq_true rfl, Nat.zero_le _, Nat.zero_le _⟩ (tw_1098 B.2.2.2.2.1) rfl hl.1 rfl (Nat.le_of_ble_eq_true rfl) dX8_unsplice_22 ?_
    clear hw hH
    intro r5 h4 H locs hw hH
    refine lv_if_ne (tgt := 32) B.1 B.2.1 dX8_unsplice_25 (by decide) (fun c6 => ?_) (fun c6 => ?_)
    · replace hw := hw.1 c6
      refine lv_iconst (v := 0) B.1 B.2.1 dX8_unsplice_32 (by decide) ?_
      refine c_V_I (own := RX8) (As := [.int 0]) (rest := []) B hH (cy_X8_refused B.2.2.2.2.1) (ct_X8_refused B.2.2.2.2.2.2.2 l a0 0 h4 _ _ (k0) hw) ⟨⟨rfl, rfl⟩, Nat.le_of_ble_eq_true rfl, Nat.le_of_ble_eq_true rfl, Nat.zero_le _, Nat.zero_le _⟩ (rv_8 B hH (k0)) (tw_1013 B.2.2.2.2.1) rfl hl.1 rfl (Nat.le_of_ble_eq_true rfl) dX8_unsplice_33 ?_
      clear hw hH
      intro r8 h7 H locs hw hH
      refine lv_if_eq (tgt := 41) B.1 B.2.1 dX8_unsplice_36 (by decide) (fun c9 => ?_) (fun c9 => ?_)
      · replace hw := hw.1 c9
        refine lv_aload_n B.1 B.2.1 dX8_unsplice_41 rfl (lv_at hl 0 rfl) ?_
        refine c_V_V (own := RX8) (As := []) (rest := []) B hH (cy_X8_remember B.2.2.2.2.1) (ct_X8_remember B.2.2.2.2.2.2.2 l a0 h7 _ _ (k0) hw) ⟨⟨rfl, rfl⟩, Nat.le_of_ble_eq_true rfl, Nat.le_of_ble_eq_true rfl, Nat.zero_le _, Nat.zero_le _⟩ (rv_8 B hH (k0)) (tw_1197 B.2.2.2.2.1) rfl hl.1 rfl (Nat.le_of_ble_eq_true rfl) dX8_unsplice_42 ?_
        clear hw hH
        intro h10 H locs hw hH
        refine lv_aload_n B.1 B.2.1 dX8_unsplice_45 rfl (lv_at hl 0 rfl) ?_
        refine r_get B hH (own := RX8) (kd_n B (k0) (by decide) (by decide)) (ct_8 (k0)) rfl (ul_8 B.2.2.2.2.1) 3 (by decide) rfl (tw_969 B.2.2.2.2.1) dX8_unsplice_46 ?_
        refine lv_iload_n B.1 B.2.1 dX8_unsplice_49 rfl (lv_at hl 1 rfl) ?_
        refine c_S_I (own := RX8) (As := [.ref (zA Z (a0 + 2)), .int a1]) (rest := []) B hH (cy_X8_unspliceOn B.2.2.2.2.1) (ct_X8_unspliceOn B.2.2.2.2.2.2.2 l (a0 + 2) a1 h10 _ _ (kf_8_3 (k0)) hw) ⟨⟨rfl, rfl⟩, Nat.le_of_ble_eq_true rfl, Nat.le_of_ble_eq_true rfl, Nat.zero_le _, Nat.zero_le _⟩ (tw_1217 B.2.2.2.2.1) rfl hl.1 rfl (Nat.le_of_ble_eq_true rfl) dX8_unsplice_50 ?_
        clear hw hH
        intro r12 h11 H locs hw hH
        exact e_i B hr hH hw dX8_unsplice_53
      · replace hw := hw.2 c9
        refine lv_iconst (v := 0) B.1 B.2.1 dX8_unsplice_39 (by decide) ?_
        exact e_i B hr hH hw dX8_unsplice_40
    · replace hw := hw.2 c6
      refine lv_iconst (v := 2) B.1 B.2.1 dX8_unsplice_28 (by decide) ?_
      refine lv_goto (tgt := 33) B.1 B.2.1 dX8_unsplice_29 (by decide) ?_
      refine c_V_I (own := RX8) (As := [.int 2]) (rest := []) B hH (cy_X8_refused B.2.2.2.2.1) (ct_X8_refused B.2.2.2.2.2.2.2 l a0 2 h4 _ _ (k0) hw) ⟨⟨rfl, rfl⟩, Nat.le_of_ble_eq_true rfl, Nat.le_of_ble_eq_true rfl, Nat.zero_le _, Nat.zero_le _⟩ (rv_8 B hH (k0)) (tw_1013 B.2.2.2.2.1) rfl hl.1 rfl (Nat.le_of_ble_eq_true rfl) dX8_unsplice_33 ?_
      clear hw hH
      intro r14 h13 H locs hw hH
      refine lv_if_eq (tgt := 41) B.1 B.2.1 dX8_unsplice_36 (by decide) (fun c15 => ?_) (fun c15 => ?_)
      · replace hw := hw.1 c15
        refine lv_aload_n B.1 B.2.1 dX8_unsplice_41 rfl (lv_at hl 0 rfl) ?_
        refine c_V_V (own := RX8) (As := []) (rest := []) B hH (cy_X8_remember B.2.2.2.2.1) (ct_X8_remember B.2.2.2.2.2.2.2 l a0 h13 _ _ (k0) hw) ⟨⟨rfl, rfl⟩, Nat.le_of_ble_eq_true rfl, Nat.le_of_ble_eq_true rfl, Nat.zero_le _, Nat.zero_le _⟩ (rv_8 B hH (k0)) (tw_1197 B.2.2.2.2.1) rfl hl.1 rfl (Nat.le_of_ble_eq_true rfl) dX8_unsplice_42 ?_
        clear hw hH
        intro h16 H locs hw hH
        refine lv_aload_n B.1 B.2.1 dX8_unsplice_45 rfl (lv_at hl 0 rfl) ?_
        refine r_get B hH (own := RX8) (kd_n B (k0) (by decide) (by decide)) (ct_8 (k0)) rfl (ul_8 B.2.2.2.2.1) 3 (by decide) rfl (tw_969 B.2.2.2.2.1) dX8_unsplice_46 ?_
        refine lv_iload_n B.1 B.2.1 dX8_unsplice_49 rfl (lv_at hl 1 rfl) ?_
        refine c_S_I (own := RX8) (As := [.ref (zA Z (a0 + 2)), .int a1]) (rest := []) B hH (cy_X8_unspliceOn B.2.2.2.2.1) (ct_X8_unspliceOn B.2.2.2.2.2.2.2 l (a0 + 2) a1 h16 _ _ (kf_8_3 (k0)) hw) ⟨⟨rfl, rfl⟩, Nat.le_of_ble_eq_true rfl, Nat.le_of_ble_eq_true rfl, Nat.zero_le _, Nat.zero_le _⟩ (tw_1217 B.2.2.2.2.1) rfl hl.1 rfl (Nat.le_of_ble_eq_true rfl) dX8_unsplice_50 ?_
        clear hw hH
        intro r18 h17 H locs hw hH
        exact e_i B hr hH hw dX8_unsplice_53
      · replace hw := hw.2 c15
        refine lv_iconst (v := 0) B.1 B.2.1 dX8_unsplice_39 (by decide) ?_
        exact e_i B hr hH hw dX8_unsplice_40
  · replace hw := hw.2 c3
    refine lv_iconst (v := 1) B.1 B.2.1 dX8_unsplice_12 (by decide) ?_
    refine lv_goto (tgt := 33) B.1 B.2.1 dX8_unsplice_13 (by decide) ?_
    refine c_V_I (own := RX8) (As := [.int 1]) (rest := []) B hH (cy_X8_refused B.2.2.2.2.1) (ct_X8_refused B.2.2.2.2.2.2.2 l a0 1 h1 _ _ (k0) hw) ⟨⟨rfl, rfl⟩, Nat.le_of_ble_eq_true rfl, Nat.le_of_ble_eq_true rfl, Nat.zero_le _, Nat.zero_le _⟩ (rv_8 B hH (k0)) (tw_1013 B.2.2.2.2.1) rfl hl.1 rfl (Nat.le_of_ble_eq_true rfl) dX8_unsplice_33 ?_
    clear hw hH
    intro r20 h19 H locs hw hH
    refine lv_if_eq (tgt := 41) B.1 B.2.1 dX8_unsplice_36 (by decide) (fun c21 => ?_) (fun c21 => ?_)
    · replace hw := hw.1 c21
      refine lv_aload_n B.1 B.2.1 dX8_unsplice_41 rfl (lv_at hl 0 rfl) ?_
      refine c_V_V (own := RX8) (As := []) (rest := []) B hH (cy_X8_remember B.2.2.2.2.1) (ct_X8_remember B.2.2.2.2.2.2.2 l a0 h19 _ _ (k0) hw) ⟨⟨rfl, rfl⟩, Nat.le_of_ble_eq_true rfl, Nat.le_of_ble_eq_true rfl, Nat.zero_le _, Nat.zero_le _⟩ (rv_8 B hH (k0)) (tw_1197 B.2.2.2.2.1) rfl hl.1 rfl (Nat.le_of_ble_eq_true rfl) dX8_unsplice_42 ?_
      clear hw hH
      intro h22 H locs hw hH
      refine lv_aload_n B.1 B.2.1 dX8_unsplice_45 rfl (lv_at hl 0 rfl) ?_
      refine r_get B hH (own := RX8) (kd_n B (k0) (by decide) (by decide)) (ct_8 (k0)) rfl (ul_8 B.2.2.2.2.1) 3 (by decide) rfl (tw_969 B.2.2.2.2.1) dX8_unsplice_46 ?_
      refine lv_iload_n B.1 B.2.1 dX8_unsplice_49 rfl (lv_at hl 1 rfl) ?_
      refine c_S_I (own := RX8) (As := [.ref (zA Z (a0 + 2)), .int a1]) (rest := []) B hH (cy_X8_unspliceOn B.2.2.2.2.1) (ct_X8_unspliceOn B.2.2.2.2.2.2.2 l (a0 + 2) a1 h22 _ _ (kf_8_3 (k0)) hw) ⟨⟨rfl, rfl⟩, Nat.le_of_ble_eq_true rfl, Nat.le_of_ble_eq_true rfl, Nat.zero_le _, Nat.zero_le _⟩ (tw_1217 B.2.2.2.2.1) rfl hl.1 rfl (Nat.le_of_ble_eq_true rfl) dX8_unsplice_50 ?_
      clear hw hH
      intro r24 h23 H locs hw hH
      exact e_i B hr hH hw dX8_unsplice_53
    · replace hw := hw.2 c21
      refine lv_iconst (v := 0) B.1 B.2.1 dX8_unsplice_39 (by decide) ?_
      exact e_i B hr hH hw dX8_unsplice_40
theorem cy_X8_speed {s : State} {args : Array Value} (hG : GG s) : CYV s args yX8_speed cX8_speed 4 (some .int) 3 := CYV.of hG (fun _ _ hG => tw_1223 hG) (tw_8 hG) (tw_1221 hG) (tw_1222 hG) (by decide +kernel)
set_option maxRecDepth 100000 in
set_option maxHeartbeats 4000000 in
theorem ct_X8_speed {Z : ZT} (hZ : ZO Z) (l : Launch) (a0 : Nat) (a1 : Int32) (a2 : Int32) (a3 : Int32) (h : PH) (sz : Nat) (Q : Int32 → PH → Prop) (k0 : kd a0 = 8) (hw : wp_X8_speed a0 a1 a2 a3 h Q) : MI Z l yX8_speed cX8_speed 4 (some .int) ({ frames := 2, cells := 0, slots := 0, locals := 47 } : Room) h sz [.ref (zA Z a0), .int a1, .int a2, .int a3] Q := by
  refine open_M hZ (by decide +kernel) (by exact Nat.le_of_ble_eq_true rfl) ?_
  intro p e s m below meth c B hr hsz ls hl hH
  subst hsz
  have hl : lv_has ls 4 [(0, .ref (zA Z a0)), (1, .int a1), (2, .int a2), (3, .int a3)] := hl
  unfold wp_X8_speed at hw
  refine lv_aload_n B.1 B.2.1 dX8_speed_0 rfl (lv_at hl 0 rfl) ?_
  refine lv_aload_n B.1 B.2.1 dX8_speed_1 rfl (lv_at hl 0 rfl) ?_
  refine r_get B hH (own := RX8) (kd_n B (k0) (by decide) (by decide)) (ct_8 (k0)) rfl (ul_8 B.2.2.2.2.1) 3 (by decide) rfl (tw_969 B.2.2.2.2.1) dX8_speed_2 ?_
  refine lv_iload_n B.1 B.2.1 dX8_speed_5 rfl (lv_at hl 1 rfl) ?_
  refine c_S_I (own := RX8) (As := [.ref (zA Z (a0 + 2)), .int a1]) (rest := [.ref (zA Z a0)]) B hH (cy_X8_isLoop B.2.2.2.2.1) (ct_X8_isLoop B.2.2.2.2.2.2.2 l (a0 + 2) a1 h _ _ (kf_8_3 (k0)) hw) ⟨⟨rfl, rfl⟩, Nat.le_of_ble_eq_true rfl, Nat.le_of_ble_eq_true rfl, Nat.zero_le _, Nat.zero_le _⟩ (tw_1083 B.2.2.2.2.1) rfl hl.1 rfl (Nat.le_of_ble_eq_true rfl) dX8_speed_6 ?_
  clear hw hH
  intro r2 h1 H locs hw hH
  refine lv_if_ne (tgt := 16) B.1 B.2.1 dX8_speed_9 (by decide) (fun c3 => ?_) (fun c3 => ?_)
  · replace hw := hw.1 c3
    refine lv_iload_n B.1 B.2.1 dX8_speed_16 rfl (lv_at hl 2 rfl) ?_
    refine lv_i2l B.1 B.2.1 dX8_speed_17 rfl ?_
    refine lv_lconst (v := 1) B.1 B.2.1 dX8_speed_18 (by decide) ?_
    refine lv_ldc2 (own := RX8) B.1 B.2.1 B.2.2.2.1 (tw_1037 B.2.2.2.2.1) dX8_speed_19 ?_
    refine c_S_I (own := RX8) (As := [.long (a2.toInt64), .long 1, .long 9]) (rest := [.ref (zA Z a0)]) B hH (cy_X8_in B.2.2.2.2.1) (ct_X8_in B.2.2.2.2.2.2.2 l (a2.toInt64) 1 9 h1 _ _  hw) ⟨⟨rfl, rfl⟩, Nat.le_of_ble_eq_true rfl, Nat.le_of_ble_eq_true rfl, Nat.zero_le _, Nat.zero_le _⟩ (tw_1010 B.2.2.2.2.1) rfl hl.1 rfl (Nat.le_of_ble_eq_true rfl) dX8_speed_22 ?_
    clear hw hH
    intro r5 h4 H locs hw hH
    refine lv_if_eq (tgt := 44) B.1 B.2.1 dX8_speed_25 (by decide) (fun c6 => ?_) (fun c6 => ?_)
    · replace hw := hw.1 c6
      refine lv_iconst (v := 2) B.1 B.2.1 dX8_speed_44 (by decide) ?_
      refine c_V_I (own := RX8) (As := [.int 2]) (rest := []) B hH (cy_X8_refused B.2.2.2.2.1) (ct_X8_refused B.2.2.2.2.2.2.2 l a0 2 h4 _ _ (k0) hw) ⟨⟨rfl, rfl⟩, Nat.le_of_ble_eq_true rfl, Nat.le_of_ble_eq_true rfl, Nat.zero_le _, Nat.zero_le _⟩ (rv_8 B hH (k0)) (tw_1013 B.2.2.2.2.1) rfl hl.1 rfl (Nat.le_of_ble_eq_true rfl) dX8_speed_45 ?_
      clear hw hH
      intro r8 h7 H locs hw hH
      refine lv_if_eq (tgt := 53) B.1 B.2.1 dX8_speed_48 (by decide) (fun c9 => ?_) (fun c9 => ?_)
      · replace hw := hw.1 c9
        refine lv_aload_n B.1 B.2.1 dX8_speed_53 rfl (lv_at hl 0 rfl) ?_
        refine c_V_V (own := RX8) (As := []) (rest := []) B hH (cy_X8_remember B.2.2.2.2.1) (ct_X8_remember B.2.2.2.2.2.2.2 l a0 h7 _ _ (k0) hw) ⟨⟨rfl, rfl⟩, Nat.le_of_ble_eq_true rfl, Nat.le_of_ble_eq_true rfl, Nat.zero_le _, Nat.zero_le _⟩ (rv_8 B hH (k0)) (tw_1197 B.2.2.2.2.1) rfl hl.1 rfl (Nat.le_of_ble_eq_true rfl) dX8_speed_54 ?_
        clear hw hH
        intro h10 H locs hw hH
        refine lv_aload_n B.1 B.2.1 dX8_speed_57 rfl (lv_at hl 0 rfl) ?_
        refine r_get B hH (own := RX8) (kd_n B (k0) (by decide) (by decide)) (ct_8 (k0)) rfl (ul_8 B.2.2.2.2.1) 3 (by decide) rfl (tw_969 B.2.2.2.2.1) dX8_speed_58 ?_
        refine lv_iload_n B.1 B.2.1 dX8_speed_61 rfl (lv_at hl 1 rfl) ?_
        refine lv_iload_n B.1 B.2.1 dX8_speed_62 rfl (lv_at hl 2 rfl) ?_
        refine lv_iload_n B.1 B.2.1 dX8_speed_63 rfl (lv_at hl 3 rfl) ?_
        refine c_S_I (own := RX8) (As := [.ref (zA Z (a0 + 2)), .int a1, .int a2, .int a3]) (rest := []) B hH (cy_X8_speedOn B.2.2.2.2.1) (ct_X8_speedOn B.2.2.2.2.2.2.2 l (a0 + 2) a1 a2 a3 h10 _ _ (kf_8_3 (k0)) hw) ⟨⟨rfl, rfl⟩, Nat.le_of_ble_eq_true rfl, Nat.le_of_ble_eq_true rfl, Nat.zero_le _, Nat.zero_le _⟩ (tw_1108 B.2.2.2.2.1) rfl hl.1 rfl (Nat.le_of_ble_eq_true rfl) dX8_speed_64 ?_
        clear hw hH
        intro r12 h11 H locs hw hH
        exact e_i B hr hH hw dX8_speed_67
      · replace hw := hw.2 c9
        refine lv_iconst (v := 0) B.1 B.2.1 dX8_speed_51 (by decide) ?_
        exact e_i B hr hH hw dX8_speed_52
    · replace hw := hw.2 c6
      refine lv_iload_n B.1 B.2.1 dX8_speed_28 rfl (lv_at hl 3 rfl) ?_
      refine lv_i2l B.1 B.2.1 dX8_speed_29 rfl ?_
      refine lv_lconst (v := 1) B.1 B.2.1 dX8_speed_30 (by decide) ?_
      refine lv_ldc2 (own := RX8) B.1 B.2.1 B.2.2.2.1 (tw_1037 B.2.2.2.2.1) dX8_speed_31 ?_
      refine c_S_I (own := RX8) (As := [.long (a3.toInt64), .long 1, .long 9]) (rest := [.ref (zA Z a0)]) B hH (cy_X8_in B.2.2.2.2.1) (ct_X8_in B.2.2.2.2.2.2.2 l (a3.toInt64) 1 9 h4 _ _  hw) ⟨⟨rfl, rfl⟩, Nat.le_of_ble_eq_true rfl, Nat.le_of_ble_eq_true rfl, Nat.zero_le _, Nat.zero_le _⟩ (tw_1010 B.2.2.2.2.1) rfl hl.1 rfl (Nat.le_of_ble_eq_true rfl) dX8_speed_34 ?_
      clear hw hH
      intro r14 h13 H locs hw hH
      refine lv_if_eq (tgt := 44) B.1 B.2.1 dX8_speed_37 (by decide) (fun c15 => ?_) (fun c15 => ?_)
      · replace hw := hw.1 c15
        refine lv_iconst (v := 2) B.1 B.2.1 dX8_speed_44 (by decide) ?_
        refine c_V_I (own := RX8) (As := [.int 2]) (rest := []) B hH (cy_X8_refused B.2.2.2.2.1) (ct_X8_refused B.2.2.2.2.2.2.2 l a0 2 h13 _ _ (k0) hw) ⟨⟨rfl, rfl⟩, Nat.le_of_ble_eq_true rfl, Nat.le_of_ble_eq_true rfl, Nat.zero_le _, Nat.zero_le _⟩ (rv_8 B hH (k0)) (tw_1013 B.2.2.2.2.1) rfl hl.1 rfl (Nat.le_of_ble_eq_true rfl) dX8_speed_45 ?_
        clear hw hH
        intro r17 h16 H locs hw hH
        refine lv_if_eq (tgt := 53) B.1 B.2.1 dX8_speed_48 (by decide) (fun c18 => ?_) (fun c18 => ?_)
        · replace hw := hw.1 c18
          refine lv_aload_n B.1 B.2.1 dX8_speed_53 rfl (lv_at hl 0 rfl) ?_
          refine c_V_V (own := RX8) (As := []) (rest := []) B hH (cy_X8_remember B.2.2.2.2.1) (ct_X8_remember B.2.2.2.2.2.2.2 l a0 h16 _ _ (k0) hw) ⟨⟨rfl, rfl⟩, Nat.le_of_ble_eq_true rfl, Nat.le_of_ble_eq_true rfl, Nat.zero_le _, Nat.zero_le _⟩ (rv_8 B hH (k0)) (tw_1197 B.2.2.2.2.1) rfl hl.1 rfl (Nat.le_of_ble_eq_true rfl) dX8_speed_54 ?_
          clear hw hH
          intro h19 H locs hw hH
          refine lv_aload_n B.1 B.2.1 dX8_speed_57 rfl (lv_at hl 0 rfl) ?_
          refine r_get B hH (own := RX8) (kd_n B (k0) (by decide) (by decide)) (ct_8 (k0)) rfl (ul_8 B.2.2.2.2.1) 3 (by decide) rfl (tw_969 B.2.2.2.2.1) dX8_speed_58 ?_
          refine lv_iload_n B.1 B.2.1 dX8_speed_61 rfl (lv_at hl 1 rfl) ?_
          refine lv_iload_n B.1 B.2.1 dX8_speed_62 rfl (lv_at hl 2 rfl) ?_
          refine lv_iload_n B.1 B.2.1 dX8_speed_63 rfl (lv_at hl 3 rfl) ?_
          refine c_S_I (own := RX8) (As := [.ref (zA Z (a0 + 2)), .int a1, .int a2, .int a3]) (rest := []) B hH (cy_X8_speedOn B.2.2.2.2.1) (ct_X8_speedOn B.2.2.2.2.2.2.2 l (a0 + 2) a1 a2 a3 h19 _ _ (kf_8_3 (k0)) hw) ⟨⟨rfl, rfl⟩, Nat.le_of_ble_eq_true rfl, Nat.le_of_ble_eq_true rfl, Nat.zero_le _, Nat.zero_le _⟩ (tw_1108 B.2.2.2.2.1) rfl hl.1 rfl (Nat.le_of_ble_eq_true rfl) dX8_speed_64 ?_
          clear hw hH
          intro r21 h20 H locs hw hH
          exact e_i B hr hH hw dX8_speed_67
        · replace hw := hw.2 c18
          refine lv_iconst (v := 0) B.1 B.2.1 dX8_speed_51 (by decide) ?_
          exact e_i B hr hH hw dX8_speed_52
      · replace hw := hw.2 c15
        refine lv_iconst (v := 0) B.1 B.2.1 dX8_speed_40 (by decide) ?_
        refine lv_goto (tgt := 45) B.1 B.2.1 dX8_speed_41 (by decide) ?_
        refine c_V_I (own := RX8) (As := [.int 0]) (rest := []) B hH (cy_X8_refused B.2.2.2.2.1) (ct_X8_refused B.2.2.2.2.2.2.2 l a0 0 h13 _ _ (k0) hw) ⟨⟨rfl, rfl⟩, Nat.le_of_ble_eq_true rfl, Nat.le_of_ble_eq_true rfl, Nat.zero_le _, Nat.zero_le _⟩ (rv_8 B hH (k0)) (tw_1013 B.2.2.2.2.1) rfl hl.1 rfl (Nat.le_of_ble_eq_true rfl) dX8_speed_45 ?_
        clear hw hH
        intro r23 h22 H locs hw hH
        refine lv_if_eq (tgt := 53) B.1 B.2.1 dX8_speed_48 (by decide) (fun c24 => ?_) (fun c24 => ?_)
        · replace hw := hw.1 c24
          refine lv_aload_n B.1 B.2.1 dX8_speed_53 rfl (lv_at hl 0 rfl) ?_
          refine c_V_V (own := RX8) (As := []) (rest := []) B hH (cy_X8_remember B.2.2.2.2.1) (ct_X8_remember B.2.2.2.2.2.2.2 l a0 h22 _ _ (k0) hw) ⟨⟨rfl, rfl⟩, Nat.le_of_ble_eq_true rfl, Nat.le_of_ble_eq_true rfl, Nat.zero_le _, Nat.zero_le _⟩ (rv_8 B hH (k0)) (tw_1197 B.2.2.2.2.1) rfl hl.1 rfl (Nat.le_of_ble_eq_true rfl) dX8_speed_54 ?_
          clear hw hH
          intro h25 H locs hw hH
          refine lv_aload_n B.1 B.2.1 dX8_speed_57 rfl (lv_at hl 0 rfl) ?_
          refine r_get B hH (own := RX8) (kd_n B (k0) (by decide) (by decide)) (ct_8 (k0)) rfl (ul_8 B.2.2.2.2.1) 3 (by decide) rfl (tw_969 B.2.2.2.2.1) dX8_speed_58 ?_
          refine lv_iload_n B.1 B.2.1 dX8_speed_61 rfl (lv_at hl 1 rfl) ?_
          refine lv_iload_n B.1 B.2.1 dX8_speed_62 rfl (lv_at hl 2 rfl) ?_
          refine lv_iload_n B.1 B.2.1 dX8_speed_63 rfl (lv_at hl 3 rfl) ?_
          refine c_S_I (own := RX8) (As := [.ref (zA Z (a0 + 2)), .int a1, .int a2, .int a3]) (rest := []) B hH (cy_X8_speedOn B.2.2.2.2.1) (ct_X8_speedOn B.2.2.2.2.2.2.2 l (a0 + 2) a1 a2 a3 h25 _ _ (kf_8_3 (k0)) hw) ⟨⟨rfl, rfl⟩, Nat.le_of_ble_eq_true rfl, Nat.le_of_ble_eq_true rfl, Nat.zero_le _, Nat.zero_le _⟩ (tw_1108 B.2.2.2.2.1) rfl hl.1 rfl (Nat.le_of_ble_eq_true rfl) dX8_speed_64 ?_
          clear hw hH
          intro r27 h26 H locs hw hH
          exact e_i B hr hH hw dX8_speed_67
        · replace hw := hw.2 c24
          refine lv_iconst (v := 0) B.1 B.2.1 dX8_speed_51 (by decide) ?_
          exact e_i B hr hH hw dX8_speed_52
  · replace hw := hw.2 c3
    refine lv_iconst (v := 1) B.1 B.2.1 dX8_speed_12 (by decide) ?_
    refine lv_goto (tgt := 45) B.1 B.2.1 dX8_speed_13 (by decide) ?_
    refine c_V_I (own := RX8) (As := [.int 1]) (rest := []) B hH (cy_X8_refused B.2.2.2.2.1) (ct_X8_refused B.2.2.2.2.2.2.2 l a0 1 h1 _ _ (k0) hw) ⟨⟨rfl, rfl⟩, Nat.le_of_ble_eq_true rfl, Nat.le_of_ble_eq_true rfl, Nat.zero_le _, Nat.zero_le _⟩ (rv_8 B hH (k0)) (tw_1013 B.2.2.2.2.1) rfl hl.1 rfl (Nat.le_of_ble_eq_true rfl) dX8_speed_45 ?_
    clear hw hH
    intro r29 h28 H locs hw hH
    refine lv_if_eq (tgt := 53) B.1 B.2.1 dX8_speed_48 (by decide) (fun c30 => ?_) (fun c30 => ?_)
    · replace hw := hw.1 c30
      refine lv_aload_n B.1 B.2.1 dX8_speed_53 rfl (lv_at hl 0 rfl) ?_
      refine c_V_V (own := RX8) (As := []) (rest := []) B hH (cy_X8_remember B.2.2.2.2.1) (ct_X8_remember B.2.2.2.2.2.2.2 l a0 h28 _ _ (k0) hw) ⟨⟨rfl, rfl⟩, Nat.le_of_ble_eq_true rfl, Nat.le_of_ble_eq_true rfl, Nat.zero_le _, Nat.zero_le _⟩ (rv_8 B hH (k0)) (tw_1197 B.2.2.2.2.1) rfl hl.1 rfl (Nat.le_of_ble_eq_true rfl) dX8_speed_54 ?_
      clear hw hH
      intro h31 H locs hw hH
      refine lv_aload_n B.1 B.2.1 dX8_speed_57 rfl (lv_at hl 0 rfl) ?_
      refine r_get B hH (own := RX8) (kd_n B (k0) (by decide) (by decide)) (ct_8 (k0)) rfl (ul_8 B.2.2.2.2.1) 3 (by decide) rfl (tw_969 B.2.2.2.2.1) dX8_speed_58 ?_
      refine lv_iload_n B.1 B.2.1 dX8_speed_61 rfl (lv_at hl 1 rfl) ?_
      refine lv_iload_n B.1 B.2.1 dX8_speed_62 rfl (lv_at hl 2 rfl) ?_
      refine lv_iload_n B.1 B.2.1 dX8_speed_63 rfl (lv_at hl 3 rfl) ?_
      refine c_S_I (own := RX8) (As := [.ref (zA Z (a0 + 2)), .int a1, .int a2, .int a3]) (rest := []) B hH (cy_X8_speedOn B.2.2.2.2.1) (ct_X8_speedOn B.2.2.2.2.2.2.2 l (a0 + 2) a1 a2 a3 h31 _ _ (kf_8_3 (k0)) hw) ⟨⟨rfl, rfl⟩, Nat.le_of_ble_eq_true rfl, Nat.le_of_ble_eq_true rfl, Nat.zero_le _, Nat.zero_le _⟩ (tw_1108 B.2.2.2.2.1) rfl hl.1 rfl (Nat.le_of_ble_eq_true rfl) dX8_speed_64 ?_
      clear hw hH
      intro r33 h32 H locs hw hH
      exact e_i B hr hH hw dX8_speed_67
    · replace hw := hw.2 c30
      refine lv_iconst (v := 0) B.1 B.2.1 dX8_speed_51 (by decide) ?_
      exact e_i B hr hH hw dX8_speed_52
theorem cy_X8_mute {s : State} {args : Array Value} (hG : GG s) : CYV s args yX8_mute cX8_mute 3 (some .int) 2 := CYV.of hG (fun _ _ hG => tw_1227 hG) (tw_8 hG) (tw_1225 hG) (tw_1226 hG) (by decide +kernel)
set_option maxRecDepth 100000 in
set_option maxHeartbeats 4000000 in
theorem ct_X8_mute {Z : ZT} (hZ : ZO Z) (l : Launch) (a0 : Nat) (a1 : Int32) (a2 : Int32) (h : PH) (sz : Nat) (Q : Int32 → PH → Prop) (k0 : kd a0 = 8) (hw : wp_X8_mute a0 a1 a2 h Q) : MI Z l yX8_mute cX8_mute 3 (some .int) ({ frames := 5, cells := 0, slots := 0, locals := 112 } : Room) h sz [.ref (zA Z a0), .int a1, .int a2] Q := by
  refine open_M hZ (by decide +kernel) (by exact Nat.le_of_ble_eq_true rfl) ?_
  intro p e s m below meth c B hr hsz ls hl hH
  subst hsz
  have hl : lv_has ls 3 [(0, .ref (zA Z a0)), (1, .int a1), (2, .int a2)] := hl
  unfold wp_X8_mute at hw
  refine lv_aload_n B.1 B.2.1 dX8_mute_0 rfl (lv_at hl 0 rfl) ?_
  refine lv_aload_n B.1 B.2.1 dX8_mute_1 rfl (lv_at hl 0 rfl) ?_
  refine r_get B hH (own := RX8) (kd_n B (k0) (by decide) (by decide)) (ct_8 (k0)) rfl (ul_8 B.2.2.2.2.1) 3 (by decide) rfl (tw_969 B.2.2.2.2.1) dX8_mute_2 ?_
  refine lv_iload_n B.1 B.2.1 dX8_mute_5 rfl (lv_at hl 1 rfl) ?_
  refine c_S_I (own := RX8) (As := [.ref (zA Z (a0 + 2)), .int a1]) (rest := [.ref (zA Z a0)]) B hH (cy_X8_isLoop B.2.2.2.2.1) (ct_X8_isLoop B.2.2.2.2.2.2.2 l (a0 + 2) a1 h _ _ (kf_8_3 (k0)) hw) ⟨⟨rfl, rfl⟩, Nat.le_of_ble_eq_true rfl, Nat.le_of_ble_eq_true rfl, Nat.zero_le _, Nat.zero_le _⟩ (tw_1083 B.2.2.2.2.1) rfl hl.1 rfl (Nat.le_of_ble_eq_true rfl) dX8_mute_6 ?_
  clear hw hH
  intro r2 h1 H locs hw hH
  refine lv_if_eq (tgt := 16) B.1 B.2.1 dX8_mute_9 (by decide) (fun c3 => ?_) (fun c3 => ?_)
  · replace hw := hw.1 c3
    refine lv_iconst (v := 1) B.1 B.2.1 dX8_mute_16 (by decide) ?_
    refine c_V_I (own := RX8) (As := [.int 1]) (rest := []) B hH (cy_X8_refused B.2.2.2.2.1) (ct_X8_refused B.2.2.2.2.2.2.2 l a0 1 h1 _ _ (k0) hw) ⟨⟨rfl, rfl⟩, Nat.le_of_ble_eq_true rfl, Nat.le_of_ble_eq_true rfl, Nat.zero_le _, Nat.zero_le _⟩ (rv_8 B hH (k0)) (tw_1013 B.2.2.2.2.1) rfl hl.1 rfl (Nat.le_of_ble_eq_true rfl) dX8_mute_17 ?_
    clear hw hH
    intro r5 h4 H locs hw hH
    refine lv_if_eq (tgt := 25) B.1 B.2.1 dX8_mute_20 (by decide) (fun c6 => ?_) (fun c6 => ?_)
    · replace hw := hw.1 c6
      refine lv_aload_n B.1 B.2.1 dX8_mute_25 rfl (lv_at hl 0 rfl) ?_
      refine c_V_V (own := RX8) (As := []) (rest := []) B hH (cy_X8_remember B.2.2.2.2.1) (ct_X8_remember B.2.2.2.2.2.2.2 l a0 h4 _ _ (k0) hw) ⟨⟨rfl, rfl⟩, Nat.le_of_ble_eq_true rfl, Nat.le_of_ble_eq_true rfl, Nat.zero_le _, Nat.zero_le _⟩ (rv_8 B hH (k0)) (tw_1197 B.2.2.2.2.1) rfl hl.1 rfl (Nat.le_of_ble_eq_true rfl) dX8_mute_26 ?_
      clear hw hH
      intro h7 H locs hw hH
      refine lv_aload_n B.1 B.2.1 dX8_mute_29 rfl (lv_at hl 0 rfl) ?_
      refine r_get B hH (own := RX8) (kd_n B (k0) (by decide) (by decide)) (ct_8 (k0)) rfl (ul_8 B.2.2.2.2.1) 3 (by decide) rfl (tw_969 B.2.2.2.2.1) dX8_mute_30 ?_
      refine lv_iload_n B.1 B.2.1 dX8_mute_33 rfl (lv_at hl 1 rfl) ?_
      refine lv_iload_n B.1 B.2.1 dX8_mute_34 rfl (lv_at hl 2 rfl) ?_
      refine c_S_I (own := RX8) (As := [.ref (zA Z (a0 + 2)), .int a1, .int a2]) (rest := []) B hH (cy_X8_muteOn B.2.2.2.2.1) (ct_X8_muteOn B.2.2.2.2.2.2.2 l (a0 + 2) a1 a2 h7 _ _ (kf_8_3 (k0)) hw) ⟨⟨rfl, rfl⟩, Nat.le_of_ble_eq_true rfl, Nat.le_of_ble_eq_true rfl, Nat.zero_le _, Nat.zero_le _⟩ (tw_1111 B.2.2.2.2.1) rfl hl.1 rfl (Nat.le_of_ble_eq_true rfl) dX8_mute_35 ?_
      clear hw hH
      intro r9 h8 H locs hw hH
      exact e_i B hr hH hw dX8_mute_38
    · replace hw := hw.2 c6
      refine lv_iconst (v := 0) B.1 B.2.1 dX8_mute_23 (by decide) ?_
      exact e_i B hr hH hw dX8_mute_24
  · replace hw := hw.2 c3
    refine lv_iconst (v := 0) B.1 B.2.1 dX8_mute_12 (by decide) ?_
    refine lv_goto (tgt := 17) B.1 B.2.1 dX8_mute_13 (by decide) ?_
    refine c_V_I (own := RX8) (As := [.int 0]) (rest := []) B hH (cy_X8_refused B.2.2.2.2.1) (ct_X8_refused B.2.2.2.2.2.2.2 l a0 0 h1 _ _ (k0) hw) ⟨⟨rfl, rfl⟩, Nat.le_of_ble_eq_true rfl, Nat.le_of_ble_eq_true rfl, Nat.zero_le _, Nat.zero_le _⟩ (rv_8 B hH (k0)) (tw_1013 B.2.2.2.2.1) rfl hl.1 rfl (Nat.le_of_ble_eq_true rfl) dX8_mute_17 ?_
    clear hw hH
    intro r11 h10 H locs hw hH
    refine lv_if_eq (tgt := 25) B.1 B.2.1 dX8_mute_20 (by decide) (fun c12 => ?_) (fun c12 => ?_)
    · replace hw := hw.1 c12
      refine lv_aload_n B.1 B.2.1 dX8_mute_25 rfl (lv_at hl 0 rfl) ?_
      refine c_V_V (own := RX8) (As := []) (rest := []) B hH (cy_X8_remember B.2.2.2.2.1) (ct_X8_remember B.2.2.2.2.2.2.2 l a0 h10 _ _ (k0) hw) ⟨⟨rfl, rfl⟩, Nat.le_of_ble_eq_true rfl, Nat.le_of_ble_eq_true rfl, Nat.zero_le _, Nat.zero_le _⟩ (rv_8 B hH (k0)) (tw_1197 B.2.2.2.2.1) rfl hl.1 rfl (Nat.le_of_ble_eq_true rfl) dX8_mute_26 ?_
      clear hw hH
      intro h13 H locs hw hH
      refine lv_aload_n B.1 B.2.1 dX8_mute_29 rfl (lv_at hl 0 rfl) ?_
      refine r_get B hH (own := RX8) (kd_n B (k0) (by decide) (by decide)) (ct_8 (k0)) rfl (ul_8 B.2.2.2.2.1) 3 (by decide) rfl (tw_969 B.2.2.2.2.1) dX8_mute_30 ?_
      refine lv_iload_n B.1 B.2.1 dX8_mute_33 rfl (lv_at hl 1 rfl) ?_
      refine lv_iload_n B.1 B.2.1 dX8_mute_34 rfl (lv_at hl 2 rfl) ?_
      refine c_S_I (own := RX8) (As := [.ref (zA Z (a0 + 2)), .int a1, .int a2]) (rest := []) B hH (cy_X8_muteOn B.2.2.2.2.1) (ct_X8_muteOn B.2.2.2.2.2.2.2 l (a0 + 2) a1 a2 h13 _ _ (kf_8_3 (k0)) hw) ⟨⟨rfl, rfl⟩, Nat.le_of_ble_eq_true rfl, Nat.le_of_ble_eq_true rfl, Nat.zero_le _, Nat.zero_le _⟩ (tw_1111 B.2.2.2.2.1) rfl hl.1 rfl (Nat.le_of_ble_eq_true rfl) dX8_mute_35 ?_
      clear hw hH
      intro r15 h14 H locs hw hH
      exact e_i B hr hH hw dX8_mute_38
    · replace hw := hw.2 c12
      refine lv_iconst (v := 0) B.1 B.2.1 dX8_mute_23 (by decide) ?_
      exact e_i B hr hH hw dX8_mute_24
theorem cy_X8_ticks {s : State} {args : Array Value} (hG : GG s) : CYV s args yX8_ticks cX8_ticks 2 (some .int) 1 := CYV.of hG (fun _ _ hG => tw_1231 hG) (tw_8 hG) (tw_1229 hG) (tw_1230 hG) (by decide +kernel)
set_option maxRecDepth 100000 in
set_option maxHeartbeats 4000000 in
theorem ct_X8_ticks {Z : ZT} (hZ : ZO Z) (l : Launch) (a0 : Nat) (a1 : Int32) (h : PH) (sz : Nat) (Q : Int32 → PH → Prop) (k0 : kd a0 = 8) (hw : wp_X8_ticks a0 a1 h Q) : MI Z l yX8_ticks cX8_ticks 2 (some .int) ({ frames := 5, cells := 0, slots := 0, locals := 112 } : Room) h sz [.ref (zA Z a0), .int a1] Q := by
  refine open_M hZ (by decide +kernel) (by exact Nat.le_of_ble_eq_true rfl) ?_
  intro p e s m below meth c B hr hsz ls hl hH
  subst hsz
  have hl : lv_has ls 2 [(0, .ref (zA Z a0)), (1, .int a1)] := hl
  unfold wp_X8_ticks at hw
  refine lv_aload_n B.1 B.2.1 dX8_ticks_0 rfl (lv_at hl 0 rfl) ?_
  refine lv_iload_n B.1 B.2.1 dX8_ticks_1 rfl (lv_at hl 1 rfl) ?_
  refine lv_i2l B.1 B.2.1 dX8_ticks_2 rfl ?_
  refine lv_lconst (v := 1) B.1 B.2.1 dX8_ticks_3 (by decide) ?_
  refine lv_ldc2 (own := RX8) B.1 B.2.1 B.2.2.2.1 (tw_1232 B.2.2.2.2.1) dX8_ticks_4 ?_
  refine c_S_I (own := RX8) (As := [.long (a1.toInt64), .long 1, .long 999]) (rest := [.ref (zA Z a0)]) B hH (cy_X8_in B.2.2.2.2.1) (ct_X8_in B.2.2.2.2.2.2.2 l (a1.toInt64) 1 999 h _ _  hw) ⟨⟨rfl, rfl⟩, Nat.le_of_ble_eq_true rfl, Nat.le_of_ble_eq_true rfl, Nat.zero_le _, Nat.zero_le _⟩ (tw_1010 B.2.2.2.2.1) rfl hl.1 rfl (Nat.le_of_ble_eq_true rfl) dX8_ticks_7 ?_
  clear hw hH
  intro r2 h1 H locs hw hH
  refine lv_if_eq (tgt := 17) B.1 B.2.1 dX8_ticks_10 (by decide) (fun c3 => ?_) (fun c3 => ?_)
  · replace hw := hw.1 c3
    refine lv_iconst (v := 1) B.1 B.2.1 dX8_ticks_17 (by decide) ?_
    refine c_V_I (own := RX8) (As := [.int 1]) (rest := []) B hH (cy_X8_refused B.2.2.2.2.1) (ct_X8_refused B.2.2.2.2.2.2.2 l a0 1 h1 _ _ (k0) hw) ⟨⟨rfl, rfl⟩, Nat.le_of_ble_eq_true rfl, Nat.le_of_ble_eq_true rfl, Nat.zero_le _, Nat.zero_le _⟩ (rv_8 B hH (k0)) (tw_1013 B.2.2.2.2.1) rfl hl.1 rfl (Nat.le_of_ble_eq_true rfl) dX8_ticks_18 ?_
    clear hw hH
    intro r5 h4 H locs hw hH
    refine lv_if_eq (tgt := 26) B.1 B.2.1 dX8_ticks_21 (by decide) (fun c6 => ?_) (fun c6 => ?_)
    · replace hw := hw.1 c6
      refine lv_aload_n B.1 B.2.1 dX8_ticks_26 rfl (lv_at hl 0 rfl) ?_
      refine c_V_V (own := RX8) (As := []) (rest := []) B hH (cy_X8_remember B.2.2.2.2.1) (ct_X8_remember B.2.2.2.2.2.2.2 l a0 h4 _ _ (k0) hw) ⟨⟨rfl, rfl⟩, Nat.le_of_ble_eq_true rfl, Nat.le_of_ble_eq_true rfl, Nat.zero_le _, Nat.zero_le _⟩ (rv_8 B hH (k0)) (tw_1197 B.2.2.2.2.1) rfl hl.1 rfl (Nat.le_of_ble_eq_true rfl) dX8_ticks_27 ?_
      clear hw hH
      intro h7 H locs hw hH
      refine lv_aload_n B.1 B.2.1 dX8_ticks_30 rfl (lv_at hl 0 rfl) ?_
      refine r_get B hH (own := RX8) (kd_n B (k0) (by decide) (by decide)) (ct_8 (k0)) rfl (ul_8 B.2.2.2.2.1) 3 (by decide) rfl (tw_969 B.2.2.2.2.1) dX8_ticks_31 ?_
      refine lv_iload_n B.1 B.2.1 dX8_ticks_34 rfl (lv_at hl 1 rfl) ?_
      refine c_S_I (own := RX8) (As := [.ref (zA Z (a0 + 2)), .int a1]) (rest := []) B hH (cy_X8_goOn B.2.2.2.2.1) (ct_X8_goOn B.2.2.2.2.2.2.2 l (a0 + 2) a1 h7 _ _ (kf_8_3 (k0)) hw) ⟨⟨rfl, rfl⟩, Nat.le_of_ble_eq_true rfl, Nat.le_of_ble_eq_true rfl, Nat.zero_le _, Nat.zero_le _⟩ (tw_1126 B.2.2.2.2.1) rfl hl.1 rfl (Nat.le_of_ble_eq_true rfl) dX8_ticks_35 ?_
      clear hw hH
      intro r9 h8 H locs hw hH
      exact e_i B hr hH hw dX8_ticks_38
    · replace hw := hw.2 c6
      refine lv_iconst (v := 0) B.1 B.2.1 dX8_ticks_24 (by decide) ?_
      exact e_i B hr hH hw dX8_ticks_25
  · replace hw := hw.2 c3
    refine lv_iconst (v := 0) B.1 B.2.1 dX8_ticks_13 (by decide) ?_
    refine lv_goto (tgt := 18) B.1 B.2.1 dX8_ticks_14 (by decide) ?_
    refine c_V_I (own := RX8) (As := [.int 0]) (rest := []) B hH (cy_X8_refused B.2.2.2.2.1) (ct_X8_refused B.2.2.2.2.2.2.2 l a0 0 h1 _ _ (k0) hw) ⟨⟨rfl, rfl⟩, Nat.le_of_ble_eq_true rfl, Nat.le_of_ble_eq_true rfl, Nat.zero_le _, Nat.zero_le _⟩ (rv_8 B hH (k0)) (tw_1013 B.2.2.2.2.1) rfl hl.1 rfl (Nat.le_of_ble_eq_true rfl) dX8_ticks_18 ?_
    clear hw hH
    intro r11 h10 H locs hw hH
    refine lv_if_eq (tgt := 26) B.1 B.2.1 dX8_ticks_21 (by decide) (fun c12 => ?_) (fun c12 => ?_)
    · replace hw := hw.1 c12
      refine lv_aload_n B.1 B.2.1 dX8_ticks_26 rfl (lv_at hl 0 rfl) ?_
      refine c_V_V (own := RX8) (As := []) (rest := []) B hH (cy_X8_remember B.2.2.2.2.1) (ct_X8_remember B.2.2.2.2.2.2.2 l a0 h10 _ _ (k0) hw) ⟨⟨rfl, rfl⟩, Nat.le_of_ble_eq_true rfl, Nat.le_of_ble_eq_true rfl, Nat.zero_le _, Nat.zero_le _⟩ (rv_8 B hH (k0)) (tw_1197 B.2.2.2.2.1) rfl hl.1 rfl (Nat.le_of_ble_eq_true rfl) dX8_ticks_27 ?_
      clear hw hH
      intro h13 H locs hw hH
      refine lv_aload_n B.1 B.2.1 dX8_ticks_30 rfl (lv_at hl 0 rfl) ?_
      refine r_get B hH (own := RX8) (kd_n B (k0) (by decide) (by decide)) (ct_8 (k0)) rfl (ul_8 B.2.2.2.2.1) 3 (by decide) rfl (tw_969 B.2.2.2.2.1) dX8_ticks_31 ?_
      refine lv_iload_n B.1 B.2.1 dX8_ticks_34 rfl (lv_at hl 1 rfl) ?_
      refine c_S_I (own := RX8) (As := [.ref (zA Z (a0 + 2)), .int a1]) (rest := []) B hH (cy_X8_goOn B.2.2.2.2.1) (ct_X8_goOn B.2.2.2.2.2.2.2 l (a0 + 2) a1 h13 _ _ (kf_8_3 (k0)) hw) ⟨⟨rfl, rfl⟩, Nat.le_of_ble_eq_true rfl, Nat.le_of_ble_eq_true rfl, Nat.zero_le _, Nat.zero_le _⟩ (tw_1126 B.2.2.2.2.1) rfl hl.1 rfl (Nat.le_of_ble_eq_true rfl) dX8_ticks_35 ?_
      clear hw hH
      intro r15 h14 H locs hw hH
      exact e_i B hr hH hw dX8_ticks_38
    · replace hw := hw.2 c12
      refine lv_iconst (v := 0) B.1 B.2.1 dX8_ticks_24 (by decide) ?_
      exact e_i B hr hH hw dX8_ticks_25
theorem cy_X8_record {s : State} {args : Array Value} (hG : GG s) : CYV s args yX8_record cX8_record 3 (some .int) 2 := CYV.of hG (fun _ _ hG => tw_1236 hG) (tw_8 hG) (tw_1234 hG) (tw_1235 hG) (by decide +kernel)
set_option maxRecDepth 100000 in
set_option maxHeartbeats 4000000 in
theorem ct_X8_record {Z : ZT} (hZ : ZO Z) (l : Launch) (a0 : Nat) (a1 : Int32) (a2 : Int32) (h : PH) (sz : Nat) (Q : Int32 → PH → Prop) (k0 : kd a0 = 8) (hw : wp_X8_record a0 a1 a2 h Q) : MI Z l yX8_record cX8_record 3 (some .int) ({ frames := 6, cells := 0, slots := 0, locals := 137 } : Room) h sz [.ref (zA Z a0), .int a1, .int a2] Q := by
  refine open_M hZ (by decide +kernel) (by exact Nat.le_of_ble_eq_true rfl) ?_
  intro p e s m below meth c B hr hsz ls hl hH
  subst hsz
  have hl : lv_has ls 3 [(0, .ref (zA Z a0)), (1, .int a1), (2, .int a2)] := hl
  unfold wp_X8_record at hw
  refine lv_aload_n B.1 B.2.1 dX8_record_0 rfl (lv_at hl 0 rfl) ?_
  refine lv_aload_n B.1 B.2.1 dX8_record_1 rfl (lv_at hl 0 rfl) ?_
  refine r_get B hH (own := RX8) (kd_n B (k0) (by decide) (by decide)) (ct_8 (k0)) rfl (ul_8 B.2.2.2.2.1) 3 (by decide) rfl (tw_969 B.2.2.2.2.1) dX8_record_2 ?_
  refine lv_iload_n B.1 B.2.1 dX8_record_5 rfl (lv_at hl 1 rfl) ?_
  refine c_S_I (own := RX8) (As := [.ref (zA Z (a0 + 2)), .int a1]) (rest := [.ref (zA Z a0)]) B hH (cy_X8_isReel B.2.2.2.2.1) (ct_X8_isReel B.2.2.2.2.2.2.2 l (a0 + 2) a1 h _ _ (kf_8_3 (k0)) hw) ⟨⟨rfl, rfl⟩, Nat.le_of_ble_eq_true rfl, Nat.le_of_ble_eq_true rfl, Nat.zero_le _, Nat.zero_le _⟩ (tw_1060 B.2.2.2.2.1) rfl hl.1 rfl (Nat.le_of_ble_eq_true rfl) dX8_record_6 ?_
  clear hw hH
  intro r2 h1 H locs hw hH
  refine lv_if_ne (tgt := 16) B.1 B.2.1 dX8_record_9 (by decide) (fun c3 => ?_) (fun c3 => ?_)
  · replace hw := hw.1 c3
    refine lv_iload_n B.1 B.2.1 dX8_record_16 rfl (lv_at hl 2 rfl) ?_
    refine lv_i2l B.1 B.2.1 dX8_record_17 rfl ?_
    refine lv_lconst (v := 1) B.1 B.2.1 dX8_record_18 (by decide) ?_
    refine lv_aload_n B.1 B.2.1 dX8_record_19 rfl (lv_at hl 0 rfl) ?_
    refine r_get B hH (own := RX8) (kd_n B (k0) (by decide) (by decide)) (ct_8 (k0)) rfl (ul_8 B.2.2.2.2.1) 3 (by decide) rfl (tw_969 B.2.2.2.2.1) dX8_record_20 ?_
    refine lv_iload_n B.1 B.2.1 dX8_record_23 rfl (lv_at hl 1 rfl) ?_
    refine c_S_I (own := RX8) (As := [.ref (zA Z (a0 + 2)), .int a1]) (rest := [.long 1, .long (a2.toInt64), .ref (zA Z a0)]) B hH (cy_X8_cells B.2.2.2.2.1) (ct_X8_cells B.2.2.2.2.2.2.2 l (a0 + 2) a1 h1 _ _ (kf_8_3 (k0)) hw) ⟨⟨rfl, rfl⟩, Nat.le_of_ble_eq_true rfl, Nat.le_of_ble_eq_true rfl, Nat.zero_le _, Nat.zero_le _⟩ (tw_1063 B.2.2.2.2.1) rfl hl.1 rfl (Nat.le_of_ble_eq_true rfl) dX8_record_24 ?_
    clear hw hH
    intro r5 h4 H locs hw hH
    refine lv_i2l B.1 B.2.1 dX8_record_27 rfl ?_
    refine c_S_I (own := RX8) (As := [.long (a2.toInt64), .long 1, .long (r5.toInt64)]) (rest := [.ref (zA Z a0)]) B hH (cy_X8_in B.2.2.2.2.1) (ct_X8_in B.2.2.2.2.2.2.2 l (a2.toInt64) 1 (r5.toInt64) h4 _ _  hw) ⟨⟨rfl, rfl⟩, Nat.le_of_ble_eq_true rfl, Nat.le_of_ble_eq_true rfl, Nat.zero_le _, Nat.zero_le _⟩ (tw_1010 B.2.2.2.2.1) rfl hl.1 rfl (Nat.le_of_ble_eq_true rfl) dX8_record_28 ?_
    clear hw hH
    intro r7 h6 H locs hw hH
    refine lv_if_eq (tgt := 38) B.1 B.2.1 dX8_record_31 (by decide) (fun c8 => ?_) (fun c8 => ?_)
    · replace hw := hw.1 c8
      refine lv_iconst (v := 2) B.1 B.2.1 dX8_record_38 (by decide) ?_
      refine c_V_I (own := RX8) (As := [.int 2]) (rest := []) B hH (cy_X8_refused B.2.2.2.2.1) (ct_X8_refused B.2.2.2.2.2.2.2 l a0 2 h6 _ _ (k0) hw) ⟨⟨rfl, rfl⟩, Nat.le_of_ble_eq_true rfl, Nat.le_of_ble_eq_true rfl, Nat.zero_le _, Nat.zero_le _⟩ (rv_8 B hH (k0)) (tw_1013 B.2.2.2.2.1) rfl hl.1 rfl (Nat.le_of_ble_eq_true rfl) dX8_record_39 ?_
      clear hw hH
      intro r10 h9 H locs hw hH
      refine lv_if_eq (tgt := 47) B.1 B.2.1 dX8_record_42 (by decide) (fun c11 => ?_) (fun c11 => ?_)
      · replace hw := hw.1 c11
        refine lv_aload_n B.1 B.2.1 dX8_record_47 rfl (lv_at hl 0 rfl) ?_
        refine c_V_V (own := RX8) (As := []) (rest := []) B hH (cy_X8_remember B.2.2.2.2.1) (ct_X8_remember B.2.2.2.2.2.2.2 l a0 h9 _ _ (k0) hw) ⟨⟨rfl, rfl⟩, Nat.le_of_ble_eq_true rfl, Nat.le_of_ble_eq_true rfl, Nat.zero_le _, Nat.zero_le _⟩ (rv_8 B hH (k0)) (tw_1197 B.2.2.2.2.1) rfl hl.1 rfl (Nat.le_of_ble_eq_true rfl) dX8_record_48 ?_
        clear hw hH
        intro h12 H locs hw hH
        refine lv_aload_n B.1 B.2.1 dX8_record_51 rfl (lv_at hl 0 rfl) ?_
        refine r_get B hH (own := RX8) (kd_n B (k0) (by decide) (by decide)) (ct_8 (k0)) rfl (ul_8 B.2.2.2.2.1) 3 (by decide) rfl (tw_969 B.2.2.2.2.1) dX8_record_52 ?_
        refine lv_iload_n B.1 B.2.1 dX8_record_55 rfl (lv_at hl 1 rfl) ?_
        refine lv_iload_n B.1 B.2.1 dX8_record_56 rfl (lv_at hl 2 rfl) ?_
        refine c_S_I (own := RX8) (As := [.ref (zA Z (a0 + 2)), .int a1, .int a2]) (rest := []) B hH (cy_X8_recordOn B.2.2.2.2.1) (ct_X8_recordOn B.2.2.2.2.2.2.2 l (a0 + 2) a1 a2 h12 _ _ (kf_8_3 (k0)) hw) ⟨⟨rfl, rfl⟩, Nat.le_of_ble_eq_true rfl, Nat.le_of_ble_eq_true rfl, Nat.zero_le _, Nat.zero_le _⟩ (tw_1129 B.2.2.2.2.1) rfl hl.1 rfl (Nat.le_of_ble_eq_true rfl) dX8_record_57 ?_
        clear hw hH
        intro r14 h13 H locs hw hH
        exact e_i B hr hH hw dX8_record_60
      · replace hw := hw.2 c11
        refine lv_iconst (v := 0) B.1 B.2.1 dX8_record_45 (by decide) ?_
        exact e_i B hr hH hw dX8_record_46
    · replace hw := hw.2 c8
      refine lv_iconst (v := 0) B.1 B.2.1 dX8_record_34 (by decide) ?_
      refine lv_goto (tgt := 39) B.1 B.2.1 dX8_record_35 (by decide) ?_
      refine c_V_I (own := RX8) (As := [.int 0]) (rest := []) B hH (cy_X8_refused B.2.2.2.2.1) (ct_X8_refused B.2.2.2.2.2.2.2 l a0 0 h6 _ _ (k0) hw) ⟨⟨rfl, rfl⟩, Nat.le_of_ble_eq_true rfl, Nat.le_of_ble_eq_true rfl, Nat.zero_le _, Nat.zero_le _⟩ (rv_8 B hH (k0)) (tw_1013 B.2.2.2.2.1) rfl hl.1 rfl (Nat.le_of_ble_eq_true rfl) dX8_record_39 ?_
      clear hw hH
      intro r16 h15 H locs hw hH
      refine lv_if_eq (tgt := 47) B.1 B.2.1 dX8_record_42 (by decide) (fun c17 => ?_) (fun c17 => ?_)
      · replace hw := hw.1 c17
        refine lv_aload_n B.1 B.2.1 dX8_record_47 rfl (lv_at hl 0 rfl) ?_
        refine c_V_V (own := RX8) (As := []) (rest := []) B hH (cy_X8_remember B.2.2.2.2.1) (ct_X8_remember B.2.2.2.2.2.2.2 l a0 h15 _ _ (k0) hw) ⟨⟨rfl, rfl⟩, Nat.le_of_ble_eq_true rfl, Nat.le_of_ble_eq_true rfl, Nat.zero_le _, Nat.zero_le _⟩ (rv_8 B hH (k0)) (tw_1197 B.2.2.2.2.1) rfl hl.1 rfl (Nat.le_of_ble_eq_true rfl) dX8_record_48 ?_
        clear hw hH
        intro h18 H locs hw hH
        refine lv_aload_n B.1 B.2.1 dX8_record_51 rfl (lv_at hl 0 rfl) ?_
        refine r_get B hH (own := RX8) (kd_n B (k0) (by decide) (by decide)) (ct_8 (k0)) rfl (ul_8 B.2.2.2.2.1) 3 (by decide) rfl (tw_969 B.2.2.2.2.1) dX8_record_52 ?_
        refine lv_iload_n B.1 B.2.1 dX8_record_55 rfl (lv_at hl 1 rfl) ?_
        refine lv_iload_n B.1 B.2.1 dX8_record_56 rfl (lv_at hl 2 rfl) ?_
        refine c_S_I (own := RX8) (As := [.ref (zA Z (a0 + 2)), .int a1, .int a2]) (rest := []) B hH (cy_X8_recordOn B.2.2.2.2.1) (ct_X8_recordOn B.2.2.2.2.2.2.2 l (a0 + 2) a1 a2 h18 _ _ (kf_8_3 (k0)) hw) ⟨⟨rfl, rfl⟩, Nat.le_of_ble_eq_true rfl, Nat.le_of_ble_eq_true rfl, Nat.zero_le _, Nat.zero_le _⟩ (tw_1129 B.2.2.2.2.1) rfl hl.1 rfl (Nat.le_of_ble_eq_true rfl) dX8_record_57 ?_
        clear hw hH
        intro r20 h19 H locs hw hH
        exact e_i B hr hH hw dX8_record_60
      · replace hw := hw.2 c17
        refine lv_iconst (v := 0) B.1 B.2.1 dX8_record_45 (by decide) ?_
        exact e_i B hr hH hw dX8_record_46
  · replace hw := hw.2 c3
    refine lv_iconst (v := 1) B.1 B.2.1 dX8_record_12 (by decide) ?_
    refine lv_goto (tgt := 39) B.1 B.2.1 dX8_record_13 (by decide) ?_
    refine c_V_I (own := RX8) (As := [.int 1]) (rest := []) B hH (cy_X8_refused B.2.2.2.2.1) (ct_X8_refused B.2.2.2.2.2.2.2 l a0 1 h1 _ _ (k0) hw) ⟨⟨rfl, rfl⟩, Nat.le_of_ble_eq_true rfl, Nat.le_of_ble_eq_true rfl, Nat.zero_le _, Nat.zero_le _⟩ (rv_8 B hH (k0)) (tw_1013 B.2.2.2.2.1) rfl hl.1 rfl (Nat.le_of_ble_eq_true rfl) dX8_record_39 ?_
    clear hw hH
    intro r22 h21 H locs hw hH
    refine lv_if_eq (tgt := 47) B.1 B.2.1 dX8_record_42 (by decide) (fun c23 => ?_) (fun c23 => ?_)
    · replace hw := hw.1 c23
      refine lv_aload_n B.1 B.2.1 dX8_record_47 rfl (lv_at hl 0 rfl) ?_
      refine c_V_V (own := RX8) (As := []) (rest := []) B hH (cy_X8_remember B.2.2.2.2.1) (ct_X8_remember B.2.2.2.2.2.2.2 l a0 h21 _ _ (k0) hw) ⟨⟨rfl, rfl⟩, Nat.le_of_ble_eq_true rfl, Nat.le_of_ble_eq_true rfl, Nat.zero_le _, Nat.zero_le _⟩ (rv_8 B hH (k0)) (tw_1197 B.2.2.2.2.1) rfl hl.1 rfl (Nat.le_of_ble_eq_true rfl) dX8_record_48 ?_
      clear hw hH
      intro h24 H locs hw hH
      refine lv_aload_n B.1 B.2.1 dX8_record_51 rfl (lv_at hl 0 rfl) ?_
      refine r_get B hH (own := RX8) (kd_n B (k0) (by decide) (by decide)) (ct_8 (k0)) rfl (ul_8 B.2.2.2.2.1) 3 (by decide) rfl (tw_969 B.2.2.2.2.1) dX8_record_52 ?_
      refine lv_iload_n B.1 B.2.1 dX8_record_55 rfl (lv_at hl 1 rfl) ?_
      refine lv_iload_n B.1 B.2.1 dX8_record_56 rfl (lv_at hl 2 rfl) ?_
      refine c_S_I (own := RX8) (As := [.ref (zA Z (a0 + 2)), .int a1, .int a2]) (rest := []) B hH (cy_X8_recordOn B.2.2.2.2.1) (ct_X8_recordOn B.2.2.2.2.2.2.2 l (a0 + 2) a1 a2 h24 _ _ (kf_8_3 (k0)) hw) ⟨⟨rfl, rfl⟩, Nat.le_of_ble_eq_true rfl, Nat.le_of_ble_eq_true rfl, Nat.zero_le _, Nat.zero_le _⟩ (tw_1129 B.2.2.2.2.1) rfl hl.1 rfl (Nat.le_of_ble_eq_true rfl) dX8_record_57 ?_
      clear hw hH
      intro r26 h25 H locs hw hH
      exact e_i B hr hH hw dX8_record_60
    · replace hw := hw.2 c23
      refine lv_iconst (v := 0) B.1 B.2.1 dX8_record_45 (by decide) ?_
      exact e_i B hr hH hw dX8_record_46
theorem cy_X8_undo {s : State} {args : Array Value} (hG : GG s) : CYV s args yX8_undo cX8_undo 1 (some .int) 0 := CYV.of hG (fun _ _ hG => tw_1240 hG) (tw_8 hG) (tw_1238 hG) (tw_1239 hG) (by decide +kernel)
set_option maxRecDepth 100000 in
set_option maxHeartbeats 4000000 in
theorem ct_X8_undo {Z : ZT} (hZ : ZO Z) (l : Launch) (a0 : Nat) (h : PH) (sz : Nat) (Q : Int32 → PH → Prop) (k0 : kd a0 = 8) (hw : wp_X8_undo a0 h Q) : MI Z l yX8_undo cX8_undo 1 (some .int) ({ frames := 1, cells := 0, slots := 0, locals := 24 } : Room) h sz [.ref (zA Z a0)] Q := by
  refine open_M hZ (by decide +kernel) (by exact Nat.le_of_ble_eq_true rfl) ?_
  intro p e s m below meth c B hr hsz ls hl hH
  subst hsz
  have hl : lv_has ls 1 [(0, .ref (zA Z a0))] := hl
  unfold wp_X8_undo at hw
  refine lv_aload_n B.1 B.2.1 dX8_undo_0 rfl (lv_at hl 0 rfl) ?_
  refine lv_aload_n B.1 B.2.1 dX8_undo_1 rfl (lv_at hl 0 rfl) ?_
  refine r_get B hH (own := RX8) (kd_n B (k0) (by decide) (by decide)) (ct_8 (k0)) rfl (ul_8 B.2.2.2.2.1) 6 (by decide) rfl (tw_972 B.2.2.2.2.1) dX8_undo_2 ?_
  refine lv_if_ne (tgt := 12) B.1 B.2.1 dX8_undo_5 (by decide) (fun c1 => ?_) (fun c1 => ?_)
  · replace hw := hw.1 c1
    refine lv_iconst (v := 0) B.1 B.2.1 dX8_undo_12 (by decide) ?_
    refine c_V_I (own := RX8) (As := [.int 0]) (rest := []) B hH (cy_X8_refused B.2.2.2.2.1) (ct_X8_refused B.2.2.2.2.2.2.2 l a0 0 h _ _ (k0) hw) ⟨⟨rfl, rfl⟩, Nat.le_of_ble_eq_true rfl, Nat.le_of_ble_eq_true rfl, Nat.zero_le _, Nat.zero_le _⟩ (rv_8 B hH (k0)) (tw_1013 B.2.2.2.2.1) rfl hl.1 rfl (Nat.le_of_ble_eq_true rfl) dX8_undo_13 ?_
    clear hw hH
    intro r3 h2 H locs hw hH
    refine lv_if_eq (tgt := 21) B.1 B.2.1 dX8_undo_16 (by decide) (fun c4 => ?_) (fun c4 => ?_)
    · replace hw := hw.1 c4
      refine lv_aload_n B.1 B.2.1 dX8_undo_21 rfl (lv_at hl 0 rfl) ?_
      refine lv_dup B.1 B.2.1 dX8_undo_22 rfl ?_
      refine r_get B hH (own := RX8) (kd_n B (k0) (by decide) (by decide)) (ct_8 (k0)) rfl (ul_8 B.2.2.2.2.1) 6 (by decide) rfl (tw_972 B.2.2.2.2.1) dX8_undo_23 ?_
      refine lv_iconst (v := 1) B.1 B.2.1 dX8_undo_26 (by decide) ?_
      refine lv_isub B.1 B.2.1 dX8_undo_27 ?_
      refine r_put B hH (own := RX8) (kd_n B (k0) (by decide) (by decide)) (ct_8 (k0)) rfl (ul_8 B.2.2.2.2.1) tyX8 tyX8_ok nmX8 6 (by decide) (ty := .int) rfl rfl rfl rfl (Nat.le_of_ble_eq_true rfl) (cs_8_6 (k0)) (tw_972 B.2.2.2.2.1) dX8_undo_28 ?_
      clear hH
      intro H locs hH
      obtain ⟨h5, eh5⟩ : ∃ z : PH, z = up2 h2 a0 6 ((h2 a0 6) - 1) := ⟨_, rfl⟩
      rw [← eh5] at hH
      replace hw := hw h5 eh5
      refine lv_aload_n B.1 B.2.1 dX8_undo_31 rfl (lv_at hl 0 rfl) ?_
      refine r_get B hH (own := RX8) (kd_n B (k0) (by decide) (by decide)) (ct_8 (k0)) rfl (ul_8 B.2.2.2.2.1) 5 (by decide) rfl (tw_971 B.2.2.2.2.1) dX8_undo_32 ?_
      refine lv_sipush (v := 427) B.1 B.2.1 dX8_undo_35 (by decide) ?_
      refine lv_aload_n B.1 B.2.1 dX8_undo_38 rfl (lv_at hl 0 rfl) ?_
      refine r_get B hH (own := RX8) (kd_n B (k0) (by decide) (by decide)) (ct_8 (k0)) rfl (ul_8 B.2.2.2.2.1) 6 (by decide) rfl (tw_972 B.2.2.2.2.1) dX8_undo_39 ?_
      refine lv_imul B.1 B.2.1 dX8_undo_42 ?_
      refine lv_aload_n B.1 B.2.1 dX8_undo_43 rfl (lv_at hl 0 rfl) ?_
      refine r_get B hH (own := RX8) (kd_n B (k0) (by decide) (by decide)) (ct_8 (k0)) rfl (ul_8 B.2.2.2.2.1) 3 (by decide) rfl (tw_969 B.2.2.2.2.1) dX8_undo_44 ?_
      refine lv_iconst (v := 0) B.1 B.2.1 dX8_undo_47 (by decide) ?_
      refine c_S_V (own := RX8) (As := [.ref (zA Z (a0 + 4)), .int (427 * (h5 a0 6)), .ref (zA Z (a0 + 2)), .int 0]) (rest := []) B hH (cy_X8_copyState B.2.2.2.2.1) (ct_X8_copyState B.2.2.2.2.2.2.2 l (a0 + 4) (427 * (h5 a0 6)) (a0 + 2) 0 h5 _ _ (kf_8_5 (k0)) (kf_8_3 (k0)) hw) ⟨⟨rfl, rfl⟩, Nat.le_of_ble_eq_true rfl, Nat.le_of_ble_eq_true rfl, Nat.zero_le _, Nat.zero_le _⟩ (tw_1136 B.2.2.2.2.1) rfl hl.1 rfl (Nat.le_of_ble_eq_true rfl) dX8_undo_48 ?_
      clear hw hH
      intro h6 H locs hw hH
      refine lv_aload_n B.1 B.2.1 dX8_undo_51 rfl (lv_at hl 0 rfl) ?_
      refine r_get B hH (own := RX8) (kd_n B (k0) (by decide) (by decide)) (ct_8 (k0)) rfl (ul_8 B.2.2.2.2.1) 6 (by decide) rfl (tw_972 B.2.2.2.2.1) dX8_undo_52 ?_
      exact e_i B hr hH hw dX8_undo_55
    · replace hw := hw.2 c4
      refine lv_iconst (v := 0) B.1 B.2.1 dX8_undo_19 (by decide) ?_
      exact e_i B hr hH hw dX8_undo_20
  · replace hw := hw.2 c1
    refine lv_iconst (v := 1) B.1 B.2.1 dX8_undo_8 (by decide) ?_
    refine lv_goto (tgt := 13) B.1 B.2.1 dX8_undo_9 (by decide) ?_
    refine c_V_I (own := RX8) (As := [.int 1]) (rest := []) B hH (cy_X8_refused B.2.2.2.2.1) (ct_X8_refused B.2.2.2.2.2.2.2 l a0 1 h _ _ (k0) hw) ⟨⟨rfl, rfl⟩, Nat.le_of_ble_eq_true rfl, Nat.le_of_ble_eq_true rfl, Nat.zero_le _, Nat.zero_le _⟩ (rv_8 B hH (k0)) (tw_1013 B.2.2.2.2.1) rfl hl.1 rfl (Nat.le_of_ble_eq_true rfl) dX8_undo_13 ?_
    clear hw hH
    intro r8 h7 H locs hw hH
    refine lv_if_eq (tgt := 21) B.1 B.2.1 dX8_undo_16 (by decide) (fun c9 => ?_) (fun c9 => ?_)
    · replace hw := hw.1 c9
      refine lv_aload_n B.1 B.2.1 dX8_undo_21 rfl (lv_at hl 0 rfl) ?_
      refine lv_dup B.1 B.2.1 dX8_undo_22 rfl ?_
      refine r_get B hH (own := RX8) (kd_n B (k0) (by decide) (by decide)) (ct_8 (k0)) rfl (ul_8 B.2.2.2.2.1) 6 (by decide) rfl (tw_972 B.2.2.2.2.1) dX8_undo_23 ?_
      refine lv_iconst (v := 1) B.1 B.2.1 dX8_undo_26 (by decide) ?_
      refine lv_isub B.1 B.2.1 dX8_undo_27 ?_
      refine r_put B hH (own := RX8) (kd_n B (k0) (by decide) (by decide)) (ct_8 (k0)) rfl (ul_8 B.2.2.2.2.1) tyX8 tyX8_ok nmX8 6 (by decide) (ty := .int) rfl rfl rfl rfl (Nat.le_of_ble_eq_true rfl) (cs_8_6 (k0)) (tw_972 B.2.2.2.2.1) dX8_undo_28 ?_
      clear hH
      intro H locs hH
      obtain ⟨h10, eh10⟩ : ∃ z : PH, z = up2 h7 a0 6 ((h7 a0 6) - 1) := ⟨_, rfl⟩
      rw [← eh10] at hH
      replace hw := hw h10 eh10
      refine lv_aload_n B.1 B.2.1 dX8_undo_31 rfl (lv_at hl 0 rfl) ?_
      refine r_get B hH (own := RX8) (kd_n B (k0) (by decide) (by decide)) (ct_8 (k0)) rfl (ul_8 B.2.2.2.2.1) 5 (by decide) rfl (tw_971 B.2.2.2.2.1) dX8_undo_32 ?_
      refine lv_sipush (v := 427) B.1 B.2.1 dX8_undo_35 (by decide) ?_
      refine lv_aload_n B.1 B.2.1 dX8_undo_38 rfl (lv_at hl 0 rfl) ?_
      refine r_get B hH (own := RX8) (kd_n B (k0) (by decide) (by decide)) (ct_8 (k0)) rfl (ul_8 B.2.2.2.2.1) 6 (by decide) rfl (tw_972 B.2.2.2.2.1) dX8_undo_39 ?_
      refine lv_imul B.1 B.2.1 dX8_undo_42 ?_
      refine lv_aload_n B.1 B.2.1 dX8_undo_43 rfl (lv_at hl 0 rfl) ?_
      refine r_get B hH (own := RX8) (kd_n B (k0) (by decide) (by decide)) (ct_8 (k0)) rfl (ul_8 B.2.2.2.2.1) 3 (by decide) rfl (tw_969 B.2.2.2.2.1) dX8_undo_44 ?_
      refine lv_iconst (v := 0) B.1 B.2.1 dX8_undo_47 (by decide) ?_
      refine c_S_V (own := RX8) (As := [.ref (zA Z (a0 + 4)), .int (427 * (h10 a0 6)), .ref (zA Z (a0 + 2)), .int 0]) (rest := []) B hH (cy_X8_copyState B.2.2.2.2.1) (ct_X8_copyState B.2.2.2.2.2.2.2 l (a0 + 4) (427 * (h10 a0 6)) (a0 + 2) 0 h10 _ _ (kf_8_5 (k0)) (kf_8_3 (k0)) hw) ⟨⟨rfl, rfl⟩, Nat.le_of_ble_eq_true rfl, Nat.le_of_ble_eq_true rfl, Nat.zero_le _, Nat.zero_le _⟩ (tw_1136 B.2.2.2.2.1) rfl hl.1 rfl (Nat.le_of_ble_eq_true rfl) dX8_undo_48 ?_
      clear hw hH
      intro h11 H locs hw hH
      refine lv_aload_n B.1 B.2.1 dX8_undo_51 rfl (lv_at hl 0 rfl) ?_
      refine r_get B hH (own := RX8) (kd_n B (k0) (by decide) (by decide)) (ct_8 (k0)) rfl (ul_8 B.2.2.2.2.1) 6 (by decide) rfl (tw_972 B.2.2.2.2.1) dX8_undo_52 ?_
      exact e_i B hr hH hw dX8_undo_55
    · replace hw := hw.2 c9
      refine lv_iconst (v := 0) B.1 B.2.1 dX8_undo_19 (by decide) ?_
      exact e_i B hr hH hw dX8_undo_20
theorem cy_X8_soundIn {s : State} {args : Array Value} (hG : GG s) : CYV s args yX8_soundIn cX8_soundIn 2 (some .int) 1 := CYV.of hG (fun _ _ hG => tw_1244 hG) (tw_8 hG) (tw_1242 hG) (tw_1243 hG) (by decide +kernel)
set_option maxRecDepth 100000 in
set_option maxHeartbeats 4000000 in
theorem ct_X8_soundIn {Z : ZT} (hZ : ZO Z) (l : Launch) (a0 : Nat) (a1 : Int32) (h : PH) (sz : Nat) (Q : Int32 → PH → Prop) (k0 : kd a0 = 8) (hw : wp_X8_soundIn a0 a1 h Q) : MI Z l yX8_soundIn cX8_soundIn 2 (some .int) ({ frames := 4, cells := 0, slots := 0, locals := 90 } : Room) h sz [.ref (zA Z a0), .int a1] Q := by
  refine open_M hZ (by decide +kernel) (by exact Nat.le_of_ble_eq_true rfl) ?_
  intro p e s m below meth c B hr hsz ls hl hH
  subst hsz
  have hl : lv_has ls 2 [(0, .ref (zA Z a0)), (1, .int a1)] := hl
  unfold wp_X8_soundIn at hw
  refine lv_aload_n B.1 B.2.1 dX8_soundIn_0 rfl (lv_at hl 0 rfl) ?_
  refine lv_iload_n B.1 B.2.1 dX8_soundIn_1 rfl (lv_at hl 1 rfl) ?_
  refine lv_i2l B.1 B.2.1 dX8_soundIn_2 rfl ?_
  refine lv_lconst (v := 0) B.1 B.2.1 dX8_soundIn_3 (by decide) ?_
  refine lv_ldc2 (own := RX8) B.1 B.2.1 B.2.2.2.1 (tw_1245 B.2.2.2.2.1) dX8_soundIn_4 ?_
  refine c_S_I (own := RX8) (As := [.long (a1.toInt64), .long 0, .long 1000000]) (rest := [.ref (zA Z a0)]) B hH (cy_X8_in B.2.2.2.2.1) (ct_X8_in B.2.2.2.2.2.2.2 l (a1.toInt64) 0 1000000 h _ _  hw) ⟨⟨rfl, rfl⟩, Nat.le_of_ble_eq_true rfl, Nat.le_of_ble_eq_true rfl, Nat.zero_le _, Nat.zero_le _⟩ (tw_1010 B.2.2.2.2.1) rfl hl.1 rfl (Nat.le_of_ble_eq_true rfl) dX8_soundIn_7 ?_
  clear hw hH
  intro r2 h1 H locs hw hH
  refine lv_if_eq (tgt := 17) B.1 B.2.1 dX8_soundIn_10 (by decide) (fun c3 => ?_) (fun c3 => ?_)
  · replace hw := hw.1 c3
    refine lv_iconst (v := 1) B.1 B.2.1 dX8_soundIn_17 (by decide) ?_
    refine c_V_I (own := RX8) (As := [.int 1]) (rest := []) B hH (cy_X8_refused B.2.2.2.2.1) (ct_X8_refused B.2.2.2.2.2.2.2 l a0 1 h1 _ _ (k0) hw) ⟨⟨rfl, rfl⟩, Nat.le_of_ble_eq_true rfl, Nat.le_of_ble_eq_true rfl, Nat.zero_le _, Nat.zero_le _⟩ (rv_8 B hH (k0)) (tw_1013 B.2.2.2.2.1) rfl hl.1 rfl (Nat.le_of_ble_eq_true rfl) dX8_soundIn_18 ?_
    clear hw hH
    intro r5 h4 H locs hw hH
    refine lv_if_eq (tgt := 26) B.1 B.2.1 dX8_soundIn_21 (by decide) (fun c6 => ?_) (fun c6 => ?_)
    · replace hw := hw.1 c6
      refine lv_aload_n B.1 B.2.1 dX8_soundIn_26 rfl (lv_at hl 0 rfl) ?_
      refine r_get B hH (own := RX8) (kd_n B (k0) (by decide) (by decide)) (ct_8 (k0)) rfl (ul_8 B.2.2.2.2.1) 3 (by decide) rfl (tw_969 B.2.2.2.2.1) dX8_soundIn_27 ?_
      refine lv_iload_n B.1 B.2.1 dX8_soundIn_30 rfl (lv_at hl 1 rfl) ?_
      refine lv_i2l B.1 B.2.1 dX8_soundIn_31 rfl ?_
      refine c_S_I (own := RX8) (As := [.ref (zA Z (a0 + 2)), .long (a1.toInt64)]) (rest := []) B hH (cy_X8_soundLater B.2.2.2.2.1) (ct_X8_soundLater B.2.2.2.2.2.2.2 l (a0 + 2) (a1.toInt64) h4 _ _ (kf_8_3 (k0)) hw) ⟨⟨rfl, rfl⟩, Nat.le_of_ble_eq_true rfl, Nat.le_of_ble_eq_true rfl, Nat.zero_le _, Nat.zero_le _⟩ (tw_1114 B.2.2.2.2.1) rfl hl.1 rfl (Nat.le_of_ble_eq_true rfl) dX8_soundIn_32 ?_
      clear hw hH
      intro r8 h7 H locs hw hH
      exact e_i B hr hH hw dX8_soundIn_35
    · replace hw := hw.2 c6
      refine lv_iconst (v := 0) B.1 B.2.1 dX8_soundIn_24 (by decide) ?_
      exact e_i B hr hH hw dX8_soundIn_25
  · replace hw := hw.2 c3
    refine lv_iconst (v := 0) B.1 B.2.1 dX8_soundIn_13 (by decide) ?_
    refine lv_goto (tgt := 18) B.1 B.2.1 dX8_soundIn_14 (by decide) ?_
    refine c_V_I (own := RX8) (As := [.int 0]) (rest := []) B hH (cy_X8_refused B.2.2.2.2.1) (ct_X8_refused B.2.2.2.2.2.2.2 l a0 0 h1 _ _ (k0) hw) ⟨⟨rfl, rfl⟩, Nat.le_of_ble_eq_true rfl, Nat.le_of_ble_eq_true rfl, Nat.zero_le _, Nat.zero_le _⟩ (rv_8 B hH (k0)) (tw_1013 B.2.2.2.2.1) rfl hl.1 rfl (Nat.le_of_ble_eq_true rfl) dX8_soundIn_18 ?_
    clear hw hH
    intro r10 h9 H locs hw hH
    refine lv_if_eq (tgt := 26) B.1 B.2.1 dX8_soundIn_21 (by decide) (fun c11 => ?_) (fun c11 => ?_)
    · replace hw := hw.1 c11
      refine lv_aload_n B.1 B.2.1 dX8_soundIn_26 rfl (lv_at hl 0 rfl) ?_
      refine r_get B hH (own := RX8) (kd_n B (k0) (by decide) (by decide)) (ct_8 (k0)) rfl (ul_8 B.2.2.2.2.1) 3 (by decide) rfl (tw_969 B.2.2.2.2.1) dX8_soundIn_27 ?_
      refine lv_iload_n B.1 B.2.1 dX8_soundIn_30 rfl (lv_at hl 1 rfl) ?_
      refine lv_i2l B.1 B.2.1 dX8_soundIn_31 rfl ?_
      refine c_S_I (own := RX8) (As := [.ref (zA Z (a0 + 2)), .long (a1.toInt64)]) (rest := []) B hH (cy_X8_soundLater B.2.2.2.2.1) (ct_X8_soundLater B.2.2.2.2.2.2.2 l (a0 + 2) (a1.toInt64) h9 _ _ (kf_8_3 (k0)) hw) ⟨⟨rfl, rfl⟩, Nat.le_of_ble_eq_true rfl, Nat.le_of_ble_eq_true rfl, Nat.zero_le _, Nat.zero_le _⟩ (tw_1114 B.2.2.2.2.1) rfl hl.1 rfl (Nat.le_of_ble_eq_true rfl) dX8_soundIn_32 ?_
      clear hw hH
      intro r13 h12 H locs hw hH
      exact e_i B hr hH hw dX8_soundIn_35
    · replace hw := hw.2 c11
      refine lv_iconst (v := 0) B.1 B.2.1 dX8_soundIn_24 (by decide) ?_
      exact e_i B hr hH hw dX8_soundIn_25
theorem cy_X8_firstZero {s : State} {args : Array Value} (hG : GG s) : CYS s args yX8_firstZero cX8_firstZero 11 (some .long) 5 := CYS.of hG (fun _ _ hG => tw_1252 hG) (tw_8 hG) (tw_1251 hG) (by decide +kernel)
set_option maxRecDepth 100000 in
set_option maxHeartbeats 4000000 in
theorem ct_X8_firstZero {Z : ZT} (hZ : ZO Z) (l : Launch) (a0 : Nat) (a1 : Int32) (a2 : Int64) (a4 : Int64) (a6 : Int64) (h : PH) (sz : Nat) (Q : Int64 → PH → Prop) (k0 : kd a0 = 10) (hw : wp_X8_firstZero a0 a1 a2 a4 a6 h Q) : ML Z l yX8_firstZero cX8_firstZero 11 (some .long) ({ frames := 3, cells := 0, slots := 0, locals := 66 } : Room) h sz [.ref (zA Z a0), .int a1, .long a2, .long a4, .long a6] Q := by
  refine open_M hZ (by decide +kernel) (by exact Nat.le_of_ble_eq_true rfl) ?_
  intro p e s m below meth c B hr hsz ls hl hH
  subst hsz
  have hl : lv_has ls 11 [(0, .ref (zA Z a0)), (1, .int a1), (2, .long a2), (4, .long a4), (6, .long a6)] := hl
  unfold wp_X8_firstZero at hw
  have L6 : ∀ (b0 : Nat) (b1 : Int32) (b4 : Int64) (b6 : Int64), kd b0 = 10 → ∀ (n : Nat) (b8 : Int64) (b10 : Int32) (h : PH), ∀ (H : Heap) (locs : List Loc) (ls : Array Slot), wp_X8_firstZero_b6 b0 b1 b4 b6 Q n b8 b10 h → HH Z s h H locs → lv_has ls 11 [(0, .ref (zA Z b0)), (1, .int b1), (4, .long b4), (6, .long b6), (8, .long b8), (10, .int b10)] → W p l e ({ frames := 3, cells := 0, slots := 0, locals := 66 } : Room) s m ([.ref (zA Z a0), .int a1, .long a2, .long a4, .long a6]).toArray below meth c H locs 0 0 (MQ below (va_Ql Q (BZ Z) (fr Z s.heap.size)) ([.ref (zA Z a0), .int a1, .long a2, .long a4, .long a6]).toArray s 0 0 (fr Z s.heap.size)) (F0 m 6 ls []) := by
    intro b0 b1 b4 b6 kb0 n
    induction n with
    | zero => intro b8 b10 h H locs ls hw hH hl; exact absurd hw id
    | succ n ih =>
      intro b8 b10 h H locs ls hw hH hl
      unfold wp_X8_firstZero_b6 at hw
      refine lv_iload B.1 B.2.1 dX8_firstZero_6 (lv_at hl 5 rfl) ?_
      refine lv_aload_n B.1 B.2.1 dX8_firstZero_8 rfl (lv_at hl 0 rfl) ?_
      refine lv_iload_n B.1 B.2.1 dX8_firstZero_9 rfl (lv_at hl 1 rfl) ?_
      refine c_S_I (own := RX8) (As := [.ref (zA Z b0), .int b1]) (rest := [.int b10]) B hH (cy_X8_period B.2.2.2.2.1) (ct_X8_period B.2.2.2.2.2.2.2 l b0 b1 h _ _ (kb0) hw) ⟨⟨rfl, rfl⟩, Nat.le_of_ble_eq_true rfl, Nat.le_of_ble_eq_true rfl, Nat.zero_le _, Nat.zero_le _⟩ (tw_1182 B.2.2.2.2.1) rfl hl.1 rfl (Nat.le_of_ble_eq_true rfl) dX8_firstZero_10 ?_
      clear hw hH
      intro r2 h1 H locs hw hH
      refine lv_icmp_gt (tgt := 50) B.1 B.2.1 dX8_firstZero_13 (by decide) (fun c3 => ?_) (fun c3 => ?_)
      · replace hw := hw.1 c3
        refine lv_ldc2 (own := RX8) B.1 B.2.1 B.2.2.2.1 (tw_1253 B.2.2.2.2.1) dX8_firstZero_50 ?_
        exact e_l B hr hH hw dX8_firstZero_53
      · replace hw := hw.2 c3
        refine lv_lload B.1 B.2.1 dX8_firstZero_16 (lv_at hl 4 rfl) ?_
        refine lv_lload B.1 B.2.1 dX8_firstZero_18 (lv_at hl 3 rfl) ?_
        refine W.lcmp B.1 B.2.1 dX8_firstZero_20 ?_
        refine lv_if_gt (tgt := 50) B.1 B.2.1 dX8_firstZero_21 (by decide) (fun c4 => ?_) (fun c4 => ?_)
        · replace hw := hw.1 c4
          refine lv_ldc2 (own := RX8) B.1 B.2.1 B.2.2.2.1 (tw_1253 B.2.2.2.2.1) dX8_firstZero_50 ?_
          exact e_l B hr hH hw dX8_firstZero_53
        · replace hw := hw.2 c4
          refine lv_aload_n B.1 B.2.1 dX8_firstZero_24 rfl (lv_at hl 0 rfl) ?_
          refine lv_iload_n B.1 B.2.1 dX8_firstZero_25 rfl (lv_at hl 1 rfl) ?_
          refine lv_lload B.1 B.2.1 dX8_firstZero_26 (lv_at hl 4 rfl) ?_
          refine c_S_I (own := RX8) (As := [.ref (zA Z b0), .int b1, .long b8]) (rest := []) B hH (cy_X8_phaseIn B.2.2.2.2.1) (ct_X8_phaseIn B.2.2.2.2.2.2.2 l b0 b1 b8 h1 _ _ (kb0) hw) ⟨⟨rfl, rfl⟩, Nat.le_of_ble_eq_true rfl, Nat.le_of_ble_eq_true rfl, Nat.zero_le _, Nat.zero_le _⟩ (tw_1117 B.2.2.2.2.1) rfl hl.1 rfl (Nat.le_of_ble_eq_true rfl) dX8_firstZero_28 ?_
          clear hw hH
          intro r6 h5 H locs hw hH
          refine lv_if_ne (tgt := 37) B.1 B.2.1 dX8_firstZero_31 (by decide) (fun c7 => ?_) (fun c7 => ?_)
          · replace hw := hw.1 c7
            refine lv_lload B.1 B.2.1 dX8_firstZero_37 (lv_at hl 4 rfl) ?_
            refine lv_lload B.1 B.2.1 dX8_firstZero_39 (lv_at hl 2 rfl) ?_
            refine lv_ladd B.1 B.2.1 dX8_firstZero_41 ?_
            refine lv_topl (fun x8 ex8 => ?_)
            replace hw := hw x8 ex8
            refine lv_lstore (lv' := [(8, .long x8), (0, .ref (zA Z b0)), (1, .int b1), (4, .long b4), (6, .long b6), (10, .int b10)]) B.1 B.2.1 dX8_firstZero_42 hl (by decide) (by first | rfl | simp [va_re_cat, Value.category]) ?_
            clear hl
            intro ls hl
            obtain ⟨x9, ex9⟩ : ∃ y : Int32, y = b10 + 1 := ⟨_, rfl⟩
            replace hw := hw x9 ex9
            refine lv_iinc (v := x9) (lv' := [(10, .int x9), (8, .long x8), (0, .ref (zA Z b0)), (1, .int b1), (4, .long b4), (6, .long b6)]) B.1 B.2.1 dX8_firstZero_44 hl (k := 5) rfl (by rw [ex9]; rfl) (by decide) (by first | rfl | simp [va_re_cat, Value.category]) ?_
            clear hl
            intro ls hl
            refine lv_goto (tgt := 6) B.1 B.2.1 dX8_firstZero_47 (by decide) ?_
            exact ih x8 x9 h5  _ _ _ hw hH (lv_sub hl [2, 3, 4, 5, 1, 0] rfl)
          · replace hw := hw.2 c7
            refine lv_lload B.1 B.2.1 dX8_firstZero_34 (lv_at hl 4 rfl) ?_
            exact e_l B hr hH hw dX8_firstZero_36
  refine lv_lload_n B.1 B.2.1 dX8_firstZero_0 rfl (lv_at hl 2 rfl) ?_
  refine lv_lstore (lv' := [(8, .long a2), (0, .ref (zA Z a0)), (1, .int a1), (2, .long a2), (4, .long a4), (6, .long a6)]) B.1 B.2.1 dX8_firstZero_1 hl (by decide) (by first | rfl | simp [va_re_cat, Value.category]) ?_
  clear hl
  intro ls hl
  refine lv_iconst (v := 0) B.1 B.2.1 dX8_firstZero_3 (by decide) ?_
  refine lv_istore (lv' := [(10, .int 0), (8, .long a2), (0, .ref (zA Z a0)), (1, .int a1), (2, .long a2), (4, .long a4), (6, .long a6)]) B.1 B.2.1 dX8_firstZero_4 hl (by decide) (by first | rfl | simp [va_re_cat, Value.category]) ?_
  clear hl
  intro ls hl
  obtain ⟨n10, hw⟩ := hw
  exact L6 a0 a1 a4 a6 (k0) n10 a2 0 h  _ _ _ hw hH (lv_sub hl [2, 3, 5, 6, 1, 0] rfl)
theorem cy_X8_multiple {s : State} {args : Array Value} (hG : GG s) : CYS s args yX8_multiple cX8_multiple 3 (some .long) 2 := CYS.of hG (fun _ _ hG => tw_1260 hG) (tw_8 hG) (tw_1259 hG) (by decide +kernel)
set_option maxRecDepth 100000 in
set_option maxHeartbeats 4000000 in
theorem ct_X8_multiple {Z : ZT} (hZ : ZO Z) (l : Launch) (a0 : Int64) (a2 : Int32) (h : PH) (sz : Nat) (Q : Int64 → PH → Prop)  (hw : wp_X8_multiple a0 a2 h Q) : ML Z l yX8_multiple cX8_multiple 3 (some .long) ({ frames := 1, cells := 0, slots := 0, locals := 24 } : Room) h sz [.long a0, .int a2] Q := by
  refine open_M hZ (by decide +kernel) (by exact Nat.le_of_ble_eq_true rfl) ?_
  intro p e s m below meth c B hr hsz ls hl hH
  subst hsz
  have hl : lv_has ls 3 [(0, .long a0), (2, .int a2)] := hl
  unfold wp_X8_multiple at hw
  refine lv_lload_n B.1 B.2.1 dX8_multiple_0 rfl (lv_at hl 0 rfl) ?_
  refine lv_lload_n B.1 B.2.1 dX8_multiple_1 rfl (lv_at hl 0 rfl) ?_
  refine lv_iload_n B.1 B.2.1 dX8_multiple_2 rfl (lv_at hl 1 rfl) ?_
  refine lv_i2l B.1 B.2.1 dX8_multiple_3 rfl ?_
  have q1 := hw.1
  replace hw := hw.2
  refine x_lrem B dX8_multiple_4 q1 ?_
  refine lv_l2i B.1 B.2.1 dX8_multiple_5 rfl ?_
  refine lv_iload_n B.1 B.2.1 dX8_multiple_6 rfl (lv_at hl 1 rfl) ?_
  refine c_S_I (own := RX8) (As := [.int ((jlrem a0 (a2.toInt64)).toInt32), .int a2]) (rest := [.long a0]) B hH (cy_X8_divisor B.2.2.2.2.1) (ct_X8_divisor B.2.2.2.2.2.2.2 l ((jlrem a0 (a2.toInt64)).toInt32) a2 h _ _  hw) ⟨⟨rfl, rfl⟩, Nat.le_of_ble_eq_true rfl, Nat.le_of_ble_eq_true rfl, Nat.zero_le _, Nat.zero_le _⟩ (tw_1185 B.2.2.2.2.1) rfl hl.1 rfl (Nat.le_of_ble_eq_true rfl) dX8_multiple_7 ?_
  clear hw hH
  intro r3 h2 H locs hw hH
  refine lv_i2l B.1 B.2.1 dX8_multiple_10 rfl ?_
  have q4 := hw.1
  replace hw := hw.2
  refine lv_ldiv B.1 B.2.1 dX8_multiple_11 q4 ?_
  refine lv_iload_n B.1 B.2.1 dX8_multiple_12 rfl (lv_at hl 1 rfl) ?_
  refine lv_i2l B.1 B.2.1 dX8_multiple_13 rfl ?_
  refine lv_lmul B.1 B.2.1 dX8_multiple_14 ?_
  exact e_l B hr hH hw dX8_multiple_15
theorem cy_X8_meet {s : State} {args : Array Value} (hG : GG s) : CYV s args yX8_meet cX8_meet 6 (some .int) 3 := CYV.of hG (fun _ _ hG => tw_1249 hG) (tw_8 hG) (tw_1247 hG) (tw_1248 hG) (by decide +kernel)
set_option maxRecDepth 100000 in
set_option maxHeartbeats 4000000 in
theorem ct_X8_meet {Z : ZT} (hZ : ZO Z) (l : Launch) (a0 : Nat) (a1 : Int32) (a2 : Int32) (a3 : Int32) (h : PH) (sz : Nat) (Q : Int32 → PH → Prop) (k0 : kd a0 = 8) (hw : wp_X8_meet a0 a1 a2 a3 h Q) : MI Z l yX8_meet cX8_meet 6 (some .int) ({ frames := 4, cells := 0, slots := 0, locals := 96 } : Room) h sz [.ref (zA Z a0), .int a1, .int a2, .int a3] Q := by
  refine open_M hZ (by decide +kernel) (by exact Nat.le_of_ble_eq_true rfl) ?_
  intro p e s m below meth c B hr hsz ls hl hH
  subst hsz
  have hl : lv_has ls 6 [(0, .ref (zA Z a0)), (1, .int a1), (2, .int a2), (3, .int a3)] := hl
  unfold wp_X8_meet at hw
  refine lv_aload_n B.1 B.2.1 dX8_meet_0 rfl (lv_at hl 0 rfl) ?_
  refine lv_aload_n B.1 B.2.1 dX8_meet_1 rfl (lv_at hl 0 rfl) ?_
  refine r_get B hH (own := RX8) (kd_n B (k0) (by decide) (by decide)) (ct_8 (k0)) rfl (ul_8 B.2.2.2.2.1) 3 (by decide) rfl (tw_969 B.2.2.2.2.1) dX8_meet_2 ?_
  refine lv_iload_n B.1 B.2.1 dX8_meet_5 rfl (lv_at hl 1 rfl) ?_
  refine c_S_I (own := RX8) (As := [.ref (zA Z (a0 + 2)), .int a1]) (rest := [.ref (zA Z a0)]) B hH (cy_X8_isLoop B.2.2.2.2.1) (ct_X8_isLoop B.2.2.2.2.2.2.2 l (a0 + 2) a1 h _ _ (kf_8_3 (k0)) hw) ⟨⟨rfl, rfl⟩, Nat.le_of_ble_eq_true rfl, Nat.le_of_ble_eq_true rfl, Nat.zero_le _, Nat.zero_le _⟩ (tw_1083 B.2.2.2.2.1) rfl hl.1 rfl (Nat.le_of_ble_eq_true rfl) dX8_meet_6 ?_
  clear hw hH
  intro r2 h1 H locs hw hH
  refine lv_if_eq (tgt := 23) B.1 B.2.1 dX8_meet_9 (by decide) (fun c3 => ?_) (fun c3 => ?_)
  · replace hw := hw.1 c3
    refine lv_iconst (v := 1) B.1 B.2.1 dX8_meet_23 (by decide) ?_
    refine lv_goto (tgt := 42) B.1 B.2.1 dX8_meet_24 (by decide) ?_
    refine c_V_I (own := RX8) (As := [.int 1]) (rest := []) B hH (cy_X8_refused B.2.2.2.2.1) (ct_X8_refused B.2.2.2.2.2.2.2 l a0 1 h1 _ _ (k0) hw) ⟨⟨rfl, rfl⟩, Nat.le_of_ble_eq_true rfl, Nat.le_of_ble_eq_true rfl, Nat.zero_le _, Nat.zero_le _⟩ (rv_8 B hH (k0)) (tw_1013 B.2.2.2.2.1) rfl hl.1 rfl (Nat.le_of_ble_eq_true rfl) dX8_meet_42 ?_
    clear hw hH
    intro r5 h4 H locs hw hH
    refine lv_if_eq (tgt := 50) B.1 B.2.1 dX8_meet_45 (by decide) (fun c6 => ?_) (fun c6 => ?_)
    · replace hw := hw.1 c6
      refine lv_aload_n B.1 B.2.1 dX8_meet_50 rfl (lv_at hl 0 rfl) ?_
      refine r_get B hH (own := RX8) (kd_n B (k0) (by decide) (by decide)) (ct_8 (k0)) rfl (ul_8 B.2.2.2.2.1) 3 (by decide) rfl (tw_969 B.2.2.2.2.1) dX8_meet_51 ?_
      refine lv_iload_n B.1 B.2.1 dX8_meet_54 rfl (lv_at hl 1 rfl) ?_
      refine lv_iconst (v := 0) B.1 B.2.1 dX8_meet_55 (by decide) ?_
      refine c_S_I (own := RX8) (As := [.ref (zA Z (a0 + 2)), .int a1, .int 0]) (rest := []) B hH (cy_X8_of B.2.2.2.2.1) (ct_X8_of B.2.2.2.2.2.2.2 l (a0 + 2) a1 0 h4 _ _ (kf_8_3 (k0)) hw) ⟨⟨rfl, rfl⟩, Nat.le_of_ble_eq_true rfl, Nat.le_of_ble_eq_true rfl, Nat.zero_le _, Nat.zero_le _⟩ (tw_1098 B.2.2.2.2.1) rfl hl.1 rfl (Nat.le_of_ble_eq_true rfl) dX8_meet_56 ?_
      clear hw hH
      intro r8 h7 H locs hw hH
      refine lv_if_eq (tgt := 74) B.1 B.2.1 dX8_meet_59 (by decide) (fun c9 => ?_) (fun c9 => ?_)
      · replace hw := hw.1 c9
        refine lv_iconst (v := (-1)) B.1 B.2.1 dX8_meet_74 (by decide) ?_
        exact e_i B hr hH hw dX8_meet_75
      · replace hw := hw.2 c9
        refine lv_aload_n B.1 B.2.1 dX8_meet_62 rfl (lv_at hl 0 rfl) ?_
        refine r_get B hH (own := RX8) (kd_n B (k0) (by decide) (by decide)) (ct_8 (k0)) rfl (ul_8 B.2.2.2.2.1) 3 (by decide) rfl (tw_969 B.2.2.2.2.1) dX8_meet_63 ?_
        refine lv_iload_n B.1 B.2.1 dX8_meet_66 rfl (lv_at hl 2 rfl) ?_
        refine lv_iconst (v := 0) B.1 B.2.1 dX8_meet_67 (by decide) ?_
        refine c_S_I (own := RX8) (As := [.ref (zA Z (a0 + 2)), .int a2, .int 0]) (rest := []) B hH (cy_X8_of B.2.2.2.2.1) (ct_X8_of B.2.2.2.2.2.2.2 l (a0 + 2) a2 0 h7 _ _ (kf_8_3 (k0)) hw) ⟨⟨rfl, rfl⟩, Nat.le_of_ble_eq_true rfl, Nat.le_of_ble_eq_true rfl, Nat.zero_le _, Nat.zero_le _⟩ (tw_1098 B.2.2.2.2.1) rfl hl.1 rfl (Nat.le_of_ble_eq_true rfl) dX8_meet_68 ?_
        clear hw hH
        intro r11 h10 H locs hw hH
        refine lv_if_ne (tgt := 76) B.1 B.2.1 dX8_meet_71 (by decide) (fun c12 => ?_) (fun c12 => ?_)
        · replace hw := hw.1 c12
          refine lv_aload_n B.1 B.2.1 dX8_meet_76 rfl (lv_at hl 0 rfl) ?_
          refine r_get B hH (own := RX8) (kd_n B (k0) (by decide) (by decide)) (ct_8 (k0)) rfl (ul_8 B.2.2.2.2.1) 3 (by decide) rfl (tw_969 B.2.2.2.2.1) dX8_meet_77 ?_
          refine lv_iload_n B.1 B.2.1 dX8_meet_80 rfl (lv_at hl 1 rfl) ?_
          refine lv_lconst (v := 0) B.1 B.2.1 dX8_meet_81 (by decide) ?_
          refine lv_lconst (v := 1) B.1 B.2.1 dX8_meet_82 (by decide) ?_
          refine lv_ldc2 (own := RX8) B.1 B.2.1 B.2.2.2.1 (tw_1245 B.2.2.2.2.1) dX8_meet_83 ?_
          refine c_S_L (own := RX8) (As := [.ref (zA Z (a0 + 2)), .int a1, .long 0, .long 1, .long 1000000]) (rest := []) B hH (cy_X8_firstZero B.2.2.2.2.1) (ct_X8_firstZero B.2.2.2.2.2.2.2 l (a0 + 2) a1 0 1 1000000 h10 _ _ (kf_8_3 (k0)) hw) ⟨⟨rfl, rfl⟩, Nat.le_of_ble_eq_true rfl, Nat.le_of_ble_eq_true rfl, Nat.zero_le _, Nat.zero_le _⟩ (tw_1250 B.2.2.2.2.1) rfl hl.1 rfl (Nat.le_of_ble_eq_true rfl) dX8_meet_86 ?_
          clear hw hH
          intro r14 h13 H locs hw hH
          refine lv_lstore (lv' := [(4, .long r14), (0, .ref (zA Z a0)), (1, .int a1), (2, .int a2), (3, .int a3)]) B.1 B.2.1 dX8_meet_89 hl (by decide) (by first | rfl | simp [va_re_cat, Value.category]) ?_
          clear hl
          intro ls hl
          refine lv_lload B.1 B.2.1 dX8_meet_91 (lv_at hl 0 rfl) ?_
          refine lv_ldc2 (own := RX8) B.1 B.2.1 B.2.2.2.1 (tw_1253 B.2.2.2.2.1) dX8_meet_93 ?_
          refine W.lcmp B.1 B.2.1 dX8_meet_96 ?_
          refine lv_if_ne (tgt := 104) B.1 B.2.1 dX8_meet_97 (by decide) (fun c15 => ?_) (fun c15 => ?_)
          · replace hw := hw.1 c15
            refine lv_aload_n B.1 B.2.1 dX8_meet_104 rfl (lv_at hl 1 rfl) ?_
            refine r_get B hH (own := RX8) (kd_n B (k0) (by decide) (by decide)) (ct_8 (k0)) rfl (ul_8 B.2.2.2.2.1) 3 (by decide) rfl (tw_969 B.2.2.2.2.1) dX8_meet_105 ?_
            refine lv_iload_n B.1 B.2.1 dX8_meet_108 rfl (lv_at hl 3 rfl) ?_
            refine lv_lload B.1 B.2.1 dX8_meet_109 (lv_at hl 0 rfl) ?_
            refine lv_aload_n B.1 B.2.1 dX8_meet_111 rfl (lv_at hl 1 rfl) ?_
            refine r_get B hH (own := RX8) (kd_n B (k0) (by decide) (by decide)) (ct_8 (k0)) rfl (ul_8 B.2.2.2.2.1) 3 (by decide) rfl (tw_969 B.2.2.2.2.1) dX8_meet_112 ?_
            refine lv_iload_n B.1 B.2.1 dX8_meet_115 rfl (lv_at hl 2 rfl) ?_
            refine c_S_I (own := RX8) (As := [.ref (zA Z (a0 + 2)), .int a1]) (rest := [.long r14, .int a2, .ref (zA Z (a0 + 2))]) B hH (cy_X8_period B.2.2.2.2.1) (ct_X8_period B.2.2.2.2.2.2.2 l (a0 + 2) a1 h13 _ _ (kf_8_3 (k0)) hw) ⟨⟨rfl, rfl⟩, Nat.le_of_ble_eq_true rfl, Nat.le_of_ble_eq_true rfl, Nat.zero_le _, Nat.zero_le _⟩ (tw_1182 B.2.2.2.2.1) rfl hl.1 rfl (Nat.le_of_ble_eq_true rfl) dX8_meet_116 ?_
            clear hw hH
            intro r17 h16 H locs hw hH
            refine lv_i2l B.1 B.2.1 dX8_meet_119 rfl ?_
            refine lv_ldc2 (own := RX8) B.1 B.2.1 B.2.2.2.1 (tw_1245 B.2.2.2.2.1) dX8_meet_120 ?_
            refine c_S_L (own := RX8) (As := [.ref (zA Z (a0 + 2)), .int a2, .long r14, .long (r17.toInt64), .long 1000000]) (rest := []) B hH (cy_X8_firstZero B.2.2.2.2.1) (ct_X8_firstZero B.2.2.2.2.2.2.2 l (a0 + 2) a2 r14 (r17.toInt64) 1000000 h16 _ _ (kf_8_3 (k0)) hw) ⟨⟨rfl, rfl⟩, Nat.le_of_ble_eq_true rfl, Nat.le_of_ble_eq_true rfl, Nat.zero_le _, Nat.zero_le _⟩ (tw_1250 B.2.2.2.2.1) rfl hl.1 rfl (Nat.le_of_ble_eq_true rfl) dX8_meet_123 ?_
            clear hw hH
            intro r19 h18 H locs hw hH
            refine lv_l2i B.1 B.2.1 dX8_meet_126 rfl ?_
            exact e_i B hr hH hw dX8_meet_127
          · replace hw := hw.2 c15
            refine lv_iconst (v := (-1)) B.1 B.2.1 dX8_meet_100 (by decide) ?_
            refine lv_goto (tgt := 127) B.1 B.2.1 dX8_meet_101 (by decide) ?_
            exact e_i B hr hH hw dX8_meet_127
        · replace hw := hw.2 c12
          refine lv_iconst (v := (-1)) B.1 B.2.1 dX8_meet_74 (by decide) ?_
          exact e_i B hr hH hw dX8_meet_75
    · replace hw := hw.2 c6
      refine lv_iconst (v := 0) B.1 B.2.1 dX8_meet_48 (by decide) ?_
      exact e_i B hr hH hw dX8_meet_49
  · replace hw := hw.2 c3
    refine lv_aload_n B.1 B.2.1 dX8_meet_12 rfl (lv_at hl 0 rfl) ?_
    refine r_get B hH (own := RX8) (kd_n B (k0) (by decide) (by decide)) (ct_8 (k0)) rfl (ul_8 B.2.2.2.2.1) 3 (by decide) rfl (tw_969 B.2.2.2.2.1) dX8_meet_13 ?_
    refine lv_iload_n B.1 B.2.1 dX8_meet_16 rfl (lv_at hl 2 rfl) ?_
    refine c_S_I (own := RX8) (As := [.ref (zA Z (a0 + 2)), .int a2]) (rest := [.ref (zA Z a0)]) B hH (cy_X8_isLoop B.2.2.2.2.1) (ct_X8_isLoop B.2.2.2.2.2.2.2 l (a0 + 2) a2 h1 _ _ (kf_8_3 (k0)) hw) ⟨⟨rfl, rfl⟩, Nat.le_of_ble_eq_true rfl, Nat.le_of_ble_eq_true rfl, Nat.zero_le _, Nat.zero_le _⟩ (tw_1083 B.2.2.2.2.1) rfl hl.1 rfl (Nat.le_of_ble_eq_true rfl) dX8_meet_17 ?_
    clear hw hH
    intro r21 h20 H locs hw hH
    refine lv_if_ne (tgt := 27) B.1 B.2.1 dX8_meet_20 (by decide) (fun c22 => ?_) (fun c22 => ?_)
    · replace hw := hw.1 c22
      refine lv_iload_n B.1 B.2.1 dX8_meet_27 rfl (lv_at hl 3 rfl) ?_
      refine lv_i2l B.1 B.2.1 dX8_meet_28 rfl ?_
      refine lv_lconst (v := 0) B.1 B.2.1 dX8_meet_29 (by decide) ?_
      refine lv_lconst (v := 1) B.1 B.2.1 dX8_meet_30 (by decide) ?_
      refine c_S_I (own := RX8) (As := [.long (a3.toInt64), .long 0, .long 1]) (rest := [.ref (zA Z a0)]) B hH (cy_X8_in B.2.2.2.2.1) (ct_X8_in B.2.2.2.2.2.2.2 l (a3.toInt64) 0 1 h20 _ _  hw) ⟨⟨rfl, rfl⟩, Nat.le_of_ble_eq_true rfl, Nat.le_of_ble_eq_true rfl, Nat.zero_le _, Nat.zero_le _⟩ (tw_1010 B.2.2.2.2.1) rfl hl.1 rfl (Nat.le_of_ble_eq_true rfl) dX8_meet_31 ?_
      clear hw hH
      intro r24 h23 H locs hw hH
      refine lv_if_eq (tgt := 41) B.1 B.2.1 dX8_meet_34 (by decide) (fun c25 => ?_) (fun c25 => ?_)
      · replace hw := hw.1 c25
        refine lv_iconst (v := 2) B.1 B.2.1 dX8_meet_41 (by decide) ?_
        refine c_V_I (own := RX8) (As := [.int 2]) (rest := []) B hH (cy_X8_refused B.2.2.2.2.1) (ct_X8_refused B.2.2.2.2.2.2.2 l a0 2 h23 _ _ (k0) hw) ⟨⟨rfl, rfl⟩, Nat.le_of_ble_eq_true rfl, Nat.le_of_ble_eq_true rfl, Nat.zero_le _, Nat.zero_le _⟩ (rv_8 B hH (k0)) (tw_1013 B.2.2.2.2.1) rfl hl.1 rfl (Nat.le_of_ble_eq_true rfl) dX8_meet_42 ?_
        clear hw hH
        intro r27 h26 H locs hw hH
        refine lv_if_eq (tgt := 50) B.1 B.2.1 dX8_meet_45 (by decide) (fun c28 => ?_) (fun c28 => ?_)
        · replace hw := hw.1 c28
          refine lv_aload_n B.1 B.2.1 dX8_meet_50 rfl (lv_at hl 0 rfl) ?_
          refine r_get B hH (own := RX8) (kd_n B (k0) (by decide) (by decide)) (ct_8 (k0)) rfl (ul_8 B.2.2.2.2.1) 3 (by decide) rfl (tw_969 B.2.2.2.2.1) dX8_meet_51 ?_
          refine lv_iload_n B.1 B.2.1 dX8_meet_54 rfl (lv_at hl 1 rfl) ?_
          refine lv_iconst (v := 0) B.1 B.2.1 dX8_meet_55 (by decide) ?_
          refine c_S_I (own := RX8) (As := [.ref (zA Z (a0 + 2)), .int a1, .int 0]) (rest := []) B hH (cy_X8_of B.2.2.2.2.1) (ct_X8_of B.2.2.2.2.2.2.2 l (a0 + 2) a1 0 h26 _ _ (kf_8_3 (k0)) hw) ⟨⟨rfl, rfl⟩, Nat.le_of_ble_eq_true rfl, Nat.le_of_ble_eq_true rfl, Nat.zero_le _, Nat.zero_le _⟩ (tw_1098 B.2.2.2.2.1) rfl hl.1 rfl (Nat.le_of_ble_eq_true rfl) dX8_meet_56 ?_
          clear hw hH
          intro r30 h29 H locs hw hH
          refine lv_if_eq (tgt := 74) B.1 B.2.1 dX8_meet_59 (by decide) (fun c31 => ?_) (fun c31 => ?_)
          · replace hw := hw.1 c31
            refine lv_iconst (v := (-1)) B.1 B.2.1 dX8_meet_74 (by decide) ?_
            exact e_i B hr hH hw dX8_meet_75
          · replace hw := hw.2 c31
            refine lv_aload_n B.1 B.2.1 dX8_meet_62 rfl (lv_at hl 0 rfl) ?_
            refine r_get B hH (own := RX8) (kd_n B (k0) (by decide) (by decide)) (ct_8 (k0)) rfl (ul_8 B.2.2.2.2.1) 3 (by decide) rfl (tw_969 B.2.2.2.2.1) dX8_meet_63 ?_
            refine lv_iload_n B.1 B.2.1 dX8_meet_66 rfl (lv_at hl 2 rfl) ?_
            refine lv_iconst (v := 0) B.1 B.2.1 dX8_meet_67 (by decide) ?_
            refine c_S_I (own := RX8) (As := [.ref (zA Z (a0 + 2)), .int a2, .int 0]) (rest := []) B hH (cy_X8_of B.2.2.2.2.1) (ct_X8_of B.2.2.2.2.2.2.2 l (a0 + 2) a2 0 h29 _ _ (kf_8_3 (k0)) hw) ⟨⟨rfl, rfl⟩, Nat.le_of_ble_eq_true rfl, Nat.le_of_ble_eq_true rfl, Nat.zero_le _, Nat.zero_le _⟩ (tw_1098 B.2.2.2.2.1) rfl hl.1 rfl (Nat.le_of_ble_eq_true rfl) dX8_meet_68 ?_
            clear hw hH
            intro r33 h32 H locs hw hH
            refine lv_if_ne (tgt := 76) B.1 B.2.1 dX8_meet_71 (by decide) (fun c34 => ?_) (fun c34 => ?_)
            · replace hw := hw.1 c34
              refine lv_aload_n B.1 B.2.1 dX8_meet_76 rfl (lv_at hl 0 rfl) ?_
              refine r_get B hH (own := RX8) (kd_n B (k0) (by decide) (by decide)) (ct_8 (k0)) rfl (ul_8 B.2.2.2.2.1) 3 (by decide) rfl (tw_969 B.2.2.2.2.1) dX8_meet_77 ?_
              refine lv_iload_n B.1 B.2.1 dX8_meet_80 rfl (lv_at hl 1 rfl) ?_
              refine lv_lconst (v := 0) B.1 B.2.1 dX8_meet_81 (by decide) ?_
              refine lv_lconst (v := 1) B.1 B.2.1 dX8_meet_82 (by decide) ?_
              refine lv_ldc2 (own := RX8) B.1 B.2.1 B.2.2.2.1 (tw_1245 B.2.2.2.2.1) dX8_meet_83 ?_
              refine c_S_L (own := RX8) (As := [.ref (zA Z (a0 + 2)), .int a1, .long 0, .long 1, .long 1000000]) (rest := []) B hH (cy_X8_firstZero B.2.2.2.2.1) (ct_X8_firstZero B.2.2.2.2.2.2.2 l (a0 + 2) a1 0 1 1000000 h32 _ _ (kf_8_3 (k0)) hw) ⟨⟨rfl, rfl⟩, Nat.le_of_ble_eq_true rfl, Nat.le_of_ble_eq_true rfl, Nat.zero_le _, Nat.zero_le _⟩ (tw_1250 B.2.2.2.2.1) rfl hl.1 rfl (Nat.le_of_ble_eq_true rfl) dX8_meet_86 ?_
              clear hw hH
              intro r36 h35 H locs hw hH
              refine lv_lstore (lv' := [(4, .long r36), (0, .ref (zA Z a0)), (1, .int a1), (2, .int a2), (3, .int a3)]) B.1 B.2.1 dX8_meet_89 hl (by decide) (by first | rfl | simp [va_re_cat, Value.category]) ?_
              clear hl
              intro ls hl
              refine lv_lload B.1 B.2.1 dX8_meet_91 (lv_at hl 0 rfl) ?_
              refine lv_ldc2 (own := RX8) B.1 B.2.1 B.2.2.2.1 (tw_1253 B.2.2.2.2.1) dX8_meet_93 ?_
              refine W.lcmp B.1 B.2.1 dX8_meet_96 ?_
              refine lv_if_ne (tgt := 104) B.1 B.2.1 dX8_meet_97 (by decide) (fun c37 => ?_) (fun c37 => ?_)
              · replace hw := hw.1 c37
                refine lv_aload_n B.1 B.2.1 dX8_meet_104 rfl (lv_at hl 1 rfl) ?_
                refine r_get B hH (own := RX8) (kd_n B (k0) (by decide) (by decide)) (ct_8 (k0)) rfl (ul_8 B.2.2.2.2.1) 3 (by decide) rfl (tw_969 B.2.2.2.2.1) dX8_meet_105 ?_
                refine lv_iload_n B.1 B.2.1 dX8_meet_108 rfl (lv_at hl 3 rfl) ?_
                refine lv_lload B.1 B.2.1 dX8_meet_109 (lv_at hl 0 rfl) ?_
                refine lv_aload_n B.1 B.2.1 dX8_meet_111 rfl (lv_at hl 1 rfl) ?_
                refine r_get B hH (own := RX8) (kd_n B (k0) (by decide) (by decide)) (ct_8 (k0)) rfl (ul_8 B.2.2.2.2.1) 3 (by decide) rfl (tw_969 B.2.2.2.2.1) dX8_meet_112 ?_
                refine lv_iload_n B.1 B.2.1 dX8_meet_115 rfl (lv_at hl 2 rfl) ?_
                refine c_S_I (own := RX8) (As := [.ref (zA Z (a0 + 2)), .int a1]) (rest := [.long r36, .int a2, .ref (zA Z (a0 + 2))]) B hH (cy_X8_period B.2.2.2.2.1) (ct_X8_period B.2.2.2.2.2.2.2 l (a0 + 2) a1 h35 _ _ (kf_8_3 (k0)) hw) ⟨⟨rfl, rfl⟩, Nat.le_of_ble_eq_true rfl, Nat.le_of_ble_eq_true rfl, Nat.zero_le _, Nat.zero_le _⟩ (tw_1182 B.2.2.2.2.1) rfl hl.1 rfl (Nat.le_of_ble_eq_true rfl) dX8_meet_116 ?_
                clear hw hH
                intro r39 h38 H locs hw hH
                refine lv_i2l B.1 B.2.1 dX8_meet_119 rfl ?_
                refine lv_ldc2 (own := RX8) B.1 B.2.1 B.2.2.2.1 (tw_1245 B.2.2.2.2.1) dX8_meet_120 ?_
                refine c_S_L (own := RX8) (As := [.ref (zA Z (a0 + 2)), .int a2, .long r36, .long (r39.toInt64), .long 1000000]) (rest := []) B hH (cy_X8_firstZero B.2.2.2.2.1) (ct_X8_firstZero B.2.2.2.2.2.2.2 l (a0 + 2) a2 r36 (r39.toInt64) 1000000 h38 _ _ (kf_8_3 (k0)) hw) ⟨⟨rfl, rfl⟩, Nat.le_of_ble_eq_true rfl, Nat.le_of_ble_eq_true rfl, Nat.zero_le _, Nat.zero_le _⟩ (tw_1250 B.2.2.2.2.1) rfl hl.1 rfl (Nat.le_of_ble_eq_true rfl) dX8_meet_123 ?_
                clear hw hH
                intro r41 h40 H locs hw hH
                refine lv_l2i B.1 B.2.1 dX8_meet_126 rfl ?_
                exact e_i B hr hH hw dX8_meet_127
              · replace hw := hw.2 c37
                refine lv_iconst (v := (-1)) B.1 B.2.1 dX8_meet_100 (by decide) ?_
                refine lv_goto (tgt := 127) B.1 B.2.1 dX8_meet_101 (by decide) ?_
                exact e_i B hr hH hw dX8_meet_127
            · replace hw := hw.2 c34
              refine lv_iconst (v := (-1)) B.1 B.2.1 dX8_meet_74 (by decide) ?_
              exact e_i B hr hH hw dX8_meet_75
        · replace hw := hw.2 c28
          refine lv_iconst (v := 0) B.1 B.2.1 dX8_meet_48 (by decide) ?_
          exact e_i B hr hH hw dX8_meet_49
      · replace hw := hw.2 c25
        refine lv_iconst (v := 0) B.1 B.2.1 dX8_meet_37 (by decide) ?_
        refine lv_goto (tgt := 42) B.1 B.2.1 dX8_meet_38 (by decide) ?_
        refine c_V_I (own := RX8) (As := [.int 0]) (rest := []) B hH (cy_X8_refused B.2.2.2.2.1) (ct_X8_refused B.2.2.2.2.2.2.2 l a0 0 h23 _ _ (k0) hw) ⟨⟨rfl, rfl⟩, Nat.le_of_ble_eq_true rfl, Nat.le_of_ble_eq_true rfl, Nat.zero_le _, Nat.zero_le _⟩ (rv_8 B hH (k0)) (tw_1013 B.2.2.2.2.1) rfl hl.1 rfl (Nat.le_of_ble_eq_true rfl) dX8_meet_42 ?_
        clear hw hH
        intro r43 h42 H locs hw hH
        refine lv_if_eq (tgt := 50) B.1 B.2.1 dX8_meet_45 (by decide) (fun c44 => ?_) (fun c44 => ?_)
        · replace hw := hw.1 c44
          refine lv_aload_n B.1 B.2.1 dX8_meet_50 rfl (lv_at hl 0 rfl) ?_
          refine r_get B hH (own := RX8) (kd_n B (k0) (by decide) (by decide)) (ct_8 (k0)) rfl (ul_8 B.2.2.2.2.1) 3 (by decide) rfl (tw_969 B.2.2.2.2.1) dX8_meet_51 ?_
          refine lv_iload_n B.1 B.2.1 dX8_meet_54 rfl (lv_at hl 1 rfl) ?_
          refine lv_iconst (v := 0) B.1 B.2.1 dX8_meet_55 (by decide) ?_
          refine c_S_I (own := RX8) (As := [.ref (zA Z (a0 + 2)), .int a1, .int 0]) (rest := []) B hH (cy_X8_of B.2.2.2.2.1) (ct_X8_of B.2.2.2.2.2.2.2 l (a0 + 2) a1 0 h42 _ _ (kf_8_3 (k0)) hw) ⟨⟨rfl, rfl⟩, Nat.le_of_ble_eq_true rfl, Nat.le_of_ble_eq_true rfl, Nat.zero_le _, Nat.zero_le _⟩ (tw_1098 B.2.2.2.2.1) rfl hl.1 rfl (Nat.le_of_ble_eq_true rfl) dX8_meet_56 ?_
          clear hw hH
          intro r46 h45 H locs hw hH
          refine lv_if_eq (tgt := 74) B.1 B.2.1 dX8_meet_59 (by decide) (fun c47 => ?_) (fun c47 => ?_)
          · replace hw := hw.1 c47
            refine lv_iconst (v := (-1)) B.1 B.2.1 dX8_meet_74 (by decide) ?_
            exact e_i B hr hH hw dX8_meet_75
          · replace hw := hw.2 c47
            refine lv_aload_n B.1 B.2.1 dX8_meet_62 rfl (lv_at hl 0 rfl) ?_
            refine r_get B hH (own := RX8) (kd_n B (k0) (by decide) (by decide)) (ct_8 (k0)) rfl (ul_8 B.2.2.2.2.1) 3 (by decide) rfl (tw_969 B.2.2.2.2.1) dX8_meet_63 ?_
            refine lv_iload_n B.1 B.2.1 dX8_meet_66 rfl (lv_at hl 2 rfl) ?_
            refine lv_iconst (v := 0) B.1 B.2.1 dX8_meet_67 (by decide) ?_
            refine c_S_I (own := RX8) (As := [.ref (zA Z (a0 + 2)), .int a2, .int 0]) (rest := []) B hH (cy_X8_of B.2.2.2.2.1) (ct_X8_of B.2.2.2.2.2.2.2 l (a0 + 2) a2 0 h45 _ _ (kf_8_3 (k0)) hw) ⟨⟨rfl, rfl⟩, Nat.le_of_ble_eq_true rfl, Nat.le_of_ble_eq_true rfl, Nat.zero_le _, Nat.zero_le _⟩ (tw_1098 B.2.2.2.2.1) rfl hl.1 rfl (Nat.le_of_ble_eq_true rfl) dX8_meet_68 ?_
            clear hw hH
            intro r49 h48 H locs hw hH
            refine lv_if_ne (tgt := 76) B.1 B.2.1 dX8_meet_71 (by decide) (fun c50 => ?_) (fun c50 => ?_)
            · replace hw := hw.1 c50
              refine lv_aload_n B.1 B.2.1 dX8_meet_76 rfl (lv_at hl 0 rfl) ?_
              refine r_get B hH (own := RX8) (kd_n B (k0) (by decide) (by decide)) (ct_8 (k0)) rfl (ul_8 B.2.2.2.2.1) 3 (by decide) rfl (tw_969 B.2.2.2.2.1) dX8_meet_77 ?_
              refine lv_iload_n B.1 B.2.1 dX8_meet_80 rfl (lv_at hl 1 rfl) ?_
              refine lv_lconst (v := 0) B.1 B.2.1 dX8_meet_81 (by decide) ?_
              refine lv_lconst (v := 1) B.1 B.2.1 dX8_meet_82 (by decide) ?_
              refine lv_ldc2 (own := RX8) B.1 B.2.1 B.2.2.2.1 (tw_1245 B.2.2.2.2.1) dX8_meet_83 ?_
              refine c_S_L (own := RX8) (As := [.ref (zA Z (a0 + 2)), .int a1, .long 0, .long 1, .long 1000000]) (rest := []) B hH (cy_X8_firstZero B.2.2.2.2.1) (ct_X8_firstZero B.2.2.2.2.2.2.2 l (a0 + 2) a1 0 1 1000000 h48 _ _ (kf_8_3 (k0)) hw) ⟨⟨rfl, rfl⟩, Nat.le_of_ble_eq_true rfl, Nat.le_of_ble_eq_true rfl, Nat.zero_le _, Nat.zero_le _⟩ (tw_1250 B.2.2.2.2.1) rfl hl.1 rfl (Nat.le_of_ble_eq_true rfl) dX8_meet_86 ?_
              clear hw hH
              intro r52 h51 H locs hw hH
              refine lv_lstore (lv' := [(4, .long r52), (0, .ref (zA Z a0)), (1, .int a1), (2, .int a2), (3, .int a3)]) B.1 B.2.1 dX8_meet_89 hl (by decide) (by first | rfl | simp [va_re_cat, Value.category]) ?_
              clear hl
              intro ls hl
              refine lv_lload B.1 B.2.1 dX8_meet_91 (lv_at hl 0 rfl) ?_
              refine lv_ldc2 (own := RX8) B.1 B.2.1 B.2.2.2.1 (tw_1253 B.2.2.2.2.1) dX8_meet_93 ?_
              refine W.lcmp B.1 B.2.1 dX8_meet_96 ?_
              refine lv_if_ne (tgt := 104) B.1 B.2.1 dX8_meet_97 (by decide) (fun c53 => ?_) (fun c53 => ?_)
              · replace hw := hw.1 c53
                refine lv_aload_n B.1 B.2.1 dX8_meet_104 rfl (lv_at hl 1 rfl) ?_
                refine r_get B hH (own := RX8) (kd_n B (k0) (by decide) (by decide)) (ct_8 (k0)) rfl (ul_8 B.2.2.2.2.1) 3 (by decide) rfl (tw_969 B.2.2.2.2.1) dX8_meet_105 ?_
                refine lv_iload_n B.1 B.2.1 dX8_meet_108 rfl (lv_at hl 3 rfl) ?_
                refine lv_lload B.1 B.2.1 dX8_meet_109 (lv_at hl 0 rfl) ?_
                refine lv_aload_n B.1 B.2.1 dX8_meet_111 rfl (lv_at hl 1 rfl) ?_
                refine r_get B hH (own := RX8) (kd_n B (k0) (by decide) (by decide)) (ct_8 (k0)) rfl (ul_8 B.2.2.2.2.1) 3 (by decide) rfl (tw_969 B.2.2.2.2.1) dX8_meet_112 ?_
                refine lv_iload_n B.1 B.2.1 dX8_meet_115 rfl (lv_at hl 2 rfl) ?_
                refine c_S_I (own := RX8) (As := [.ref (zA Z (a0 + 2)), .int a1]) (rest := [.long r52, .int a2, .ref (zA Z (a0 + 2))]) B hH (cy_X8_period B.2.2.2.2.1) (ct_X8_period B.2.2.2.2.2.2.2 l (a0 + 2) a1 h51 _ _ (kf_8_3 (k0)) hw) ⟨⟨rfl, rfl⟩, Nat.le_of_ble_eq_true rfl, Nat.le_of_ble_eq_true rfl, Nat.zero_le _, Nat.zero_le _⟩ (tw_1182 B.2.2.2.2.1) rfl hl.1 rfl (Nat.le_of_ble_eq_true rfl) dX8_meet_116 ?_
                clear hw hH
                intro r55 h54 H locs hw hH
                refine lv_i2l B.1 B.2.1 dX8_meet_119 rfl ?_
                refine lv_ldc2 (own := RX8) B.1 B.2.1 B.2.2.2.1 (tw_1245 B.2.2.2.2.1) dX8_meet_120 ?_
                refine c_S_L (own := RX8) (As := [.ref (zA Z (a0 + 2)), .int a2, .long r52, .long (r55.toInt64), .long 1000000]) (rest := []) B hH (cy_X8_firstZero B.2.2.2.2.1) (ct_X8_firstZero B.2.2.2.2.2.2.2 l (a0 + 2) a2 r52 (r55.toInt64) 1000000 h54 _ _ (kf_8_3 (k0)) hw) ⟨⟨rfl, rfl⟩, Nat.le_of_ble_eq_true rfl, Nat.le_of_ble_eq_true rfl, Nat.zero_le _, Nat.zero_le _⟩ (tw_1250 B.2.2.2.2.1) rfl hl.1 rfl (Nat.le_of_ble_eq_true rfl) dX8_meet_123 ?_
                clear hw hH
                intro r57 h56 H locs hw hH
                refine lv_l2i B.1 B.2.1 dX8_meet_126 rfl ?_
                exact e_i B hr hH hw dX8_meet_127
              · replace hw := hw.2 c53
                refine lv_iconst (v := (-1)) B.1 B.2.1 dX8_meet_100 (by decide) ?_
                refine lv_goto (tgt := 127) B.1 B.2.1 dX8_meet_101 (by decide) ?_
                exact e_i B hr hH hw dX8_meet_127
            · replace hw := hw.2 c50
              refine lv_iconst (v := (-1)) B.1 B.2.1 dX8_meet_74 (by decide) ?_
              exact e_i B hr hH hw dX8_meet_75
        · replace hw := hw.2 c44
          refine lv_iconst (v := 0) B.1 B.2.1 dX8_meet_48 (by decide) ?_
          exact e_i B hr hH hw dX8_meet_49
    · replace hw := hw.2 c22
      refine lv_iconst (v := 1) B.1 B.2.1 dX8_meet_23 (by decide) ?_
      refine lv_goto (tgt := 42) B.1 B.2.1 dX8_meet_24 (by decide) ?_
      refine c_V_I (own := RX8) (As := [.int 1]) (rest := []) B hH (cy_X8_refused B.2.2.2.2.1) (ct_X8_refused B.2.2.2.2.2.2.2 l a0 1 h20 _ _ (k0) hw) ⟨⟨rfl, rfl⟩, Nat.le_of_ble_eq_true rfl, Nat.le_of_ble_eq_true rfl, Nat.zero_le _, Nat.zero_le _⟩ (rv_8 B hH (k0)) (tw_1013 B.2.2.2.2.1) rfl hl.1 rfl (Nat.le_of_ble_eq_true rfl) dX8_meet_42 ?_
      clear hw hH
      intro r59 h58 H locs hw hH
      refine lv_if_eq (tgt := 50) B.1 B.2.1 dX8_meet_45 (by decide) (fun c60 => ?_) (fun c60 => ?_)
      · replace hw := hw.1 c60
        refine lv_aload_n B.1 B.2.1 dX8_meet_50 rfl (lv_at hl 0 rfl) ?_
        refine r_get B hH (own := RX8) (kd_n B (k0) (by decide) (by decide)) (ct_8 (k0)) rfl (ul_8 B.2.2.2.2.1) 3 (by decide) rfl (tw_969 B.2.2.2.2.1) dX8_meet_51 ?_
        refine lv_iload_n B.1 B.2.1 dX8_meet_54 rfl (lv_at hl 1 rfl) ?_
        refine lv_iconst (v := 0) B.1 B.2.1 dX8_meet_55 (by decide) ?_
        refine c_S_I (own := RX8) (As := [.ref (zA Z (a0 + 2)), .int a1, .int 0]) (rest := []) B hH (cy_X8_of B.2.2.2.2.1) (ct_X8_of B.2.2.2.2.2.2.2 l (a0 + 2) a1 0 h58 _ _ (kf_8_3 (k0)) hw) ⟨⟨rfl, rfl⟩, Nat.le_of_ble_eq_true rfl, Nat.le_of_ble_eq_true rfl, Nat.zero_le _, Nat.zero_le _⟩ (tw_1098 B.2.2.2.2.1) rfl hl.1 rfl (Nat.le_of_ble_eq_true rfl) dX8_meet_56 ?_
        clear hw hH
        intro r62 h61 H locs hw hH
        refine lv_if_eq (tgt := 74) B.1 B.2.1 dX8_meet_59 (by decide) (fun c63 => ?_) (fun c63 => ?_)
        · replace hw := hw.1 c63
          refine lv_iconst (v := (-1)) B.1 B.2.1 dX8_meet_74 (by decide) ?_
          exact e_i B hr hH hw dX8_meet_75
        · replace hw := hw.2 c63
          refine lv_aload_n B.1 B.2.1 dX8_meet_62 rfl (lv_at hl 0 rfl) ?_
          refine r_get B hH (own := RX8) (kd_n B (k0) (by decide) (by decide)) (ct_8 (k0)) rfl (ul_8 B.2.2.2.2.1) 3 (by decide) rfl (tw_969 B.2.2.2.2.1) dX8_meet_63 ?_
          refine lv_iload_n B.1 B.2.1 dX8_meet_66 rfl (lv_at hl 2 rfl) ?_
          refine lv_iconst (v := 0) B.1 B.2.1 dX8_meet_67 (by decide) ?_
          refine c_S_I (own := RX8) (As := [.ref (zA Z (a0 + 2)), .int a2, .int 0]) (rest := []) B hH (cy_X8_of B.2.2.2.2.1) (ct_X8_of B.2.2.2.2.2.2.2 l (a0 + 2) a2 0 h61 _ _ (kf_8_3 (k0)) hw) ⟨⟨rfl, rfl⟩, Nat.le_of_ble_eq_true rfl, Nat.le_of_ble_eq_true rfl, Nat.zero_le _, Nat.zero_le _⟩ (tw_1098 B.2.2.2.2.1) rfl hl.1 rfl (Nat.le_of_ble_eq_true rfl) dX8_meet_68 ?_
          clear hw hH
          intro r65 h64 H locs hw hH
          refine lv_if_ne (tgt := 76) B.1 B.2.1 dX8_meet_71 (by decide) (fun c66 => ?_) (fun c66 => ?_)
          · replace hw := hw.1 c66
            refine lv_aload_n B.1 B.2.1 dX8_meet_76 rfl (lv_at hl 0 rfl) ?_
            refine r_get B hH (own := RX8) (kd_n B (k0) (by decide) (by decide)) (ct_8 (k0)) rfl (ul_8 B.2.2.2.2.1) 3 (by decide) rfl (tw_969 B.2.2.2.2.1) dX8_meet_77 ?_
            refine lv_iload_n B.1 B.2.1 dX8_meet_80 rfl (lv_at hl 1 rfl) ?_
            refine lv_lconst (v := 0) B.1 B.2.1 dX8_meet_81 (by decide) ?_
            refine lv_lconst (v := 1) B.1 B.2.1 dX8_meet_82 (by decide) ?_
            refine lv_ldc2 (own := RX8) B.1 B.2.1 B.2.2.2.1 (tw_1245 B.2.2.2.2.1) dX8_meet_83 ?_
            refine c_S_L (own := RX8) (As := [.ref (zA Z (a0 + 2)), .int a1, .long 0, .long 1, .long 1000000]) (rest := []) B hH (cy_X8_firstZero B.2.2.2.2.1) (ct_X8_firstZero B.2.2.2.2.2.2.2 l (a0 + 2) a1 0 1 1000000 h64 _ _ (kf_8_3 (k0)) hw) ⟨⟨rfl, rfl⟩, Nat.le_of_ble_eq_true rfl, Nat.le_of_ble_eq_true rfl, Nat.zero_le _, Nat.zero_le _⟩ (tw_1250 B.2.2.2.2.1) rfl hl.1 rfl (Nat.le_of_ble_eq_true rfl) dX8_meet_86 ?_
            clear hw hH
            intro r68 h67 H locs hw hH
            refine lv_lstore (lv' := [(4, .long r68), (0, .ref (zA Z a0)), (1, .int a1), (2, .int a2), (3, .int a3)]) B.1 B.2.1 dX8_meet_89 hl (by decide) (by first | rfl | simp [va_re_cat, Value.category]) ?_
            clear hl
            intro ls hl
            refine lv_lload B.1 B.2.1 dX8_meet_91 (lv_at hl 0 rfl) ?_
            refine lv_ldc2 (own := RX8) B.1 B.2.1 B.2.2.2.1 (tw_1253 B.2.2.2.2.1) dX8_meet_93 ?_
            refine W.lcmp B.1 B.2.1 dX8_meet_96 ?_
            refine lv_if_ne (tgt := 104) B.1 B.2.1 dX8_meet_97 (by decide) (fun c69 => ?_) (fun c69 => ?_)
            · replace hw := hw.1 c69
              refine lv_aload_n B.1 B.2.1 dX8_meet_104 rfl (lv_at hl 1 rfl) ?_
              refine r_get B hH (own := RX8) (kd_n B (k0) (by decide) (by decide)) (ct_8 (k0)) rfl (ul_8 B.2.2.2.2.1) 3 (by decide) rfl (tw_969 B.2.2.2.2.1) dX8_meet_105 ?_
              refine lv_iload_n B.1 B.2.1 dX8_meet_108 rfl (lv_at hl 3 rfl) ?_
              refine lv_lload B.1 B.2.1 dX8_meet_109 (lv_at hl 0 rfl) ?_
              refine lv_aload_n B.1 B.2.1 dX8_meet_111 rfl (lv_at hl 1 rfl) ?_
              refine r_get B hH (own := RX8) (kd_n B (k0) (by decide) (by decide)) (ct_8 (k0)) rfl (ul_8 B.2.2.2.2.1) 3 (by decide) rfl (tw_969 B.2.2.2.2.1) dX8_meet_112 ?_
              refine lv_iload_n B.1 B.2.1 dX8_meet_115 rfl (lv_at hl 2 rfl) ?_
              refine c_S_I (own := RX8) (As := [.ref (zA Z (a0 + 2)), .int a1]) (rest := [.long r68, .int a2, .ref (zA Z (a0 + 2))]) B hH (cy_X8_period B.2.2.2.2.1) (ct_X8_period B.2.2.2.2.2.2.2 l (a0 + 2) a1 h67 _ _ (kf_8_3 (k0)) hw) ⟨⟨rfl, rfl⟩, Nat.le_of_ble_eq_true rfl, Nat.le_of_ble_eq_true rfl, Nat.zero_le _, Nat.zero_le _⟩ (tw_1182 B.2.2.2.2.1) rfl hl.1 rfl (Nat.le_of_ble_eq_true rfl) dX8_meet_116 ?_
              clear hw hH
              intro r71 h70 H locs hw hH
              refine lv_i2l B.1 B.2.1 dX8_meet_119 rfl ?_
              refine lv_ldc2 (own := RX8) B.1 B.2.1 B.2.2.2.1 (tw_1245 B.2.2.2.2.1) dX8_meet_120 ?_
              refine c_S_L (own := RX8) (As := [.ref (zA Z (a0 + 2)), .int a2, .long r68, .long (r71.toInt64), .long 1000000]) (rest := []) B hH (cy_X8_firstZero B.2.2.2.2.1) (ct_X8_firstZero B.2.2.2.2.2.2.2 l (a0 + 2) a2 r68 (r71.toInt64) 1000000 h70 _ _ (kf_8_3 (k0)) hw) ⟨⟨rfl, rfl⟩, Nat.le_of_ble_eq_true rfl, Nat.le_of_ble_eq_true rfl, Nat.zero_le _, Nat.zero_le _⟩ (tw_1250 B.2.2.2.2.1) rfl hl.1 rfl (Nat.le_of_ble_eq_true rfl) dX8_meet_123 ?_
              clear hw hH
              intro r73 h72 H locs hw hH
              refine lv_l2i B.1 B.2.1 dX8_meet_126 rfl ?_
              exact e_i B hr hH hw dX8_meet_127
            · replace hw := hw.2 c69
              refine lv_iconst (v := (-1)) B.1 B.2.1 dX8_meet_100 (by decide) ?_
              refine lv_goto (tgt := 127) B.1 B.2.1 dX8_meet_101 (by decide) ?_
              exact e_i B hr hH hw dX8_meet_127
          · replace hw := hw.2 c66
            refine lv_iconst (v := (-1)) B.1 B.2.1 dX8_meet_74 (by decide) ?_
            exact e_i B hr hH hw dX8_meet_75
      · replace hw := hw.2 c60
        refine lv_iconst (v := 0) B.1 B.2.1 dX8_meet_48 (by decide) ?_
        exact e_i B hr hH hw dX8_meet_49
theorem cy_X8_meetAll {s : State} {args : Array Value} (hG : GG s) : CYV s args yX8_meetAll cX8_meetAll 7 (some .int) 0 := CYV.of hG (fun _ _ hG => tw_1257 hG) (tw_8 hG) (tw_1255 hG) (tw_1256 hG) (by decide +kernel)
set_option maxRecDepth 100000 in
set_option maxHeartbeats 4000000 in
theorem ct_X8_meetAll {Z : ZT} (hZ : ZO Z) (l : Launch) (a0 : Nat) (h : PH) (sz : Nat) (Q : Int32 → PH → Prop) (k0 : kd a0 = 8) (hw : wp_X8_meetAll a0 h Q) : MI Z l yX8_meetAll cX8_meetAll 7 (some .int) ({ frames := 4, cells := 0, slots := 0, locals := 96 } : Room) h sz [.ref (zA Z a0)] Q := by
  refine open_M hZ (by decide +kernel) (by exact Nat.le_of_ble_eq_true rfl) ?_
  intro p e s m below meth c B hr hsz ls hl hH
  subst hsz
  have hl : lv_has ls 7 [(0, .ref (zA Z a0))] := hl
  unfold wp_X8_meetAll at hw
  have L15 : ∀ (b0 : Nat), kd b0 = 8 → ∀ (n : Nat) (b1 : Int64) (b3 : Int64) (b5 : Int32) (b6 : Int32) (h : PH), ∀ (H : Heap) (locs : List Loc) (ls : Array Slot), wp_X8_meetAll_b15 b0 Q n b1 b3 b5 b6 h → HH Z s h H locs → lv_has ls 7 [(0, .ref (zA Z b0)), (1, .long b1), (3, .long b3), (5, .int b5), (6, .int b6)] → W p l e ({ frames := 4, cells := 0, slots := 0, locals := 96 } : Room) s m ([.ref (zA Z a0)]).toArray below meth c H locs 0 0 (MQ below (va_Qi Q (BZ Z) (fr Z s.heap.size)) ([.ref (zA Z a0)]).toArray s 0 0 (fr Z s.heap.size)) (F0 m 15 ls []) := by
    intro b0 kb0 n
    induction n with
    | zero => intro b1 b3 b5 b6 h H locs ls hw hH hl; exact absurd hw id
    | succ n ih =>
      intro b1 b3 b5 b6 h H locs ls hw hH hl
      unfold wp_X8_meetAll_b15 at hw
      refine lv_iload B.1 B.2.1 dX8_meetAll_15 (lv_at hl 4 rfl) ?_
      refine lv_aload_n B.1 B.2.1 dX8_meetAll_17 rfl (lv_at hl 0 rfl) ?_
      refine r_get B hH (own := RX8) (kd_n B (kb0) (by decide) (by decide)) (ct_8 (kb0)) rfl (ul_8 B.2.2.2.2.1) 3 (by decide) rfl (tw_969 B.2.2.2.2.1) dX8_meetAll_18 ?_
      refine lv_iconst (v := 1) B.1 B.2.1 dX8_meetAll_21 (by decide) ?_
      have q2 := hw.1
      replace hw := hw.2
      refine r_iald B hH (kf_8_3 (kb0)) q2 dX8_meetAll_22 ?_
      refine lv_icmp_ge (tgt := 85) B.1 B.2.1 dX8_meetAll_23 (by decide) (fun c3 => ?_) (fun c3 => ?_)
      · replace hw := hw.1 c3
        refine lv_iload B.1 B.2.1 dX8_meetAll_85 (lv_at hl 3 rfl) ?_
        refine lv_if_eq (tgt := 95) B.1 B.2.1 dX8_meetAll_87 (by decide) (fun c4 => ?_) (fun c4 => ?_)
        · replace hw := hw.1 c4
          refine lv_iconst (v := (-1)) B.1 B.2.1 dX8_meetAll_95 (by decide) ?_
          exact e_i B hr hH hw dX8_meetAll_96
        · replace hw := hw.2 c4
          refine lv_lload_n B.1 B.2.1 dX8_meetAll_90 rfl (lv_at hl 1 rfl) ?_
          refine lv_l2i B.1 B.2.1 dX8_meetAll_91 rfl ?_
          refine lv_goto (tgt := 96) B.1 B.2.1 dX8_meetAll_92 (by decide) ?_
          exact e_i B hr hH hw dX8_meetAll_96
      · replace hw := hw.2 c3
        refine lv_lload_n B.1 B.2.1 dX8_meetAll_26 rfl (lv_at hl 1 rfl) ?_
        refine lv_ldc2 (own := RX8) B.1 B.2.1 B.2.2.2.1 (tw_1253 B.2.2.2.2.1) dX8_meetAll_27 ?_
        refine W.lcmp B.1 B.2.1 dX8_meetAll_30 ?_
        refine lv_if_eq (tgt := 85) B.1 B.2.1 dX8_meetAll_31 (by decide) (fun c5 => ?_) (fun c5 => ?_)
        · replace hw := hw.1 c5
          refine lv_iload B.1 B.2.1 dX8_meetAll_85 (lv_at hl 3 rfl) ?_
          refine lv_if_eq (tgt := 95) B.1 B.2.1 dX8_meetAll_87 (by decide) (fun c6 => ?_) (fun c6 => ?_)
          · replace hw := hw.1 c6
            refine lv_iconst (v := (-1)) B.1 B.2.1 dX8_meetAll_95 (by decide) ?_
            exact e_i B hr hH hw dX8_meetAll_96
          · replace hw := hw.2 c6
            refine lv_lload_n B.1 B.2.1 dX8_meetAll_90 rfl (lv_at hl 1 rfl) ?_
            refine lv_l2i B.1 B.2.1 dX8_meetAll_91 rfl ?_
            refine lv_goto (tgt := 96) B.1 B.2.1 dX8_meetAll_92 (by decide) ?_
            exact e_i B hr hH hw dX8_meetAll_96
        · replace hw := hw.2 c5
          refine lv_aload_n B.1 B.2.1 dX8_meetAll_34 rfl (lv_at hl 0 rfl) ?_
          refine r_get B hH (own := RX8) (kd_n B (kb0) (by decide) (by decide)) (ct_8 (kb0)) rfl (ul_8 B.2.2.2.2.1) 3 (by decide) rfl (tw_969 B.2.2.2.2.1) dX8_meetAll_35 ?_
          refine lv_iload B.1 B.2.1 dX8_meetAll_38 (lv_at hl 4 rfl) ?_
          refine lv_iconst (v := 0) B.1 B.2.1 dX8_meetAll_40 (by decide) ?_
          refine c_S_I (own := RX8) (As := [.ref (zA Z (b0 + 2)), .int b6, .int 0]) (rest := []) B hH (cy_X8_of B.2.2.2.2.1) (ct_X8_of B.2.2.2.2.2.2.2 l (b0 + 2) b6 0 h _ _ (kf_8_3 (kb0)) hw) ⟨⟨rfl, rfl⟩, Nat.le_of_ble_eq_true rfl, Nat.le_of_ble_eq_true rfl, Nat.zero_le _, Nat.zero_le _⟩ (tw_1098 B.2.2.2.2.1) rfl hl.1 rfl (Nat.le_of_ble_eq_true rfl) dX8_meetAll_41 ?_
          clear hw hH
          intro r8 h7 H locs hw hH
          refine lv_if_le (tgt := 79) B.1 B.2.1 dX8_meetAll_44 (by decide) (fun c9 => ?_) (fun c9 => ?_)
          · replace hw := hw.1 c9
            obtain ⟨x10, ex10⟩ : ∃ y : Int32, y = b6 + 1 := ⟨_, rfl⟩
            replace hw := hw x10 ex10
            refine lv_iinc (v := x10) (lv' := [(6, .int x10), (0, .ref (zA Z b0)), (1, .long b1), (3, .long b3), (5, .int b5)]) B.1 B.2.1 dX8_meetAll_79 hl (k := 4) rfl (by rw [ex10]; rfl) (by decide) (by first | rfl | simp [va_re_cat, Value.category]) ?_
            clear hl
            intro ls hl
            refine lv_goto (tgt := 15) B.1 B.2.1 dX8_meetAll_82 (by decide) ?_
            exact ih b1 b3 b5 x10 h7  _ _ _ hw hH (lv_sub hl [1, 2, 3, 4, 0] rfl)
          · replace hw := hw.2 c9
            refine lv_iconst (v := 1) B.1 B.2.1 dX8_meetAll_47 (by decide) ?_
            refine lv_istore (lv' := [(5, .int 1), (0, .ref (zA Z b0)), (1, .long b1), (3, .long b3), (6, .int b6)]) B.1 B.2.1 dX8_meetAll_48 hl (by decide) (by first | rfl | simp [va_re_cat, Value.category]) ?_
            clear hl
            intro ls hl
            refine lv_aload_n B.1 B.2.1 dX8_meetAll_50 rfl (lv_at hl 1 rfl) ?_
            refine r_get B hH (own := RX8) (kd_n B (kb0) (by decide) (by decide)) (ct_8 (kb0)) rfl (ul_8 B.2.2.2.2.1) 3 (by decide) rfl (tw_969 B.2.2.2.2.1) dX8_meetAll_51 ?_
            refine lv_iload B.1 B.2.1 dX8_meetAll_54 (lv_at hl 4 rfl) ?_
            refine lv_lload_n B.1 B.2.1 dX8_meetAll_56 rfl (lv_at hl 2 rfl) ?_
            refine lv_lload_n B.1 B.2.1 dX8_meetAll_57 rfl (lv_at hl 3 rfl) ?_
            refine lv_ldc2 (own := RX8) B.1 B.2.1 B.2.2.2.1 (tw_1245 B.2.2.2.2.1) dX8_meetAll_58 ?_
            refine c_S_L (own := RX8) (As := [.ref (zA Z (b0 + 2)), .int b6, .long b1, .long b3, .long 1000000]) (rest := []) B hH (cy_X8_firstZero B.2.2.2.2.1) (ct_X8_firstZero B.2.2.2.2.2.2.2 l (b0 + 2) b6 b1 b3 1000000 h7 _ _ (kf_8_3 (kb0)) hw) ⟨⟨rfl, rfl⟩, Nat.le_of_ble_eq_true rfl, Nat.le_of_ble_eq_true rfl, Nat.zero_le _, Nat.zero_le _⟩ (tw_1250 B.2.2.2.2.1) rfl hl.1 rfl (Nat.le_of_ble_eq_true rfl) dX8_meetAll_61 ?_
            clear hw hH
            intro r12 h11 H locs hw hH
            refine lv_lstore_n (lv' := [(1, .long r12), (5, .int 1), (0, .ref (zA Z b0)), (3, .long b3), (6, .int b6)]) B.1 B.2.1 dX8_meetAll_64 rfl hl (by decide) (by first | rfl | simp [va_re_cat, Value.category]) ?_
            clear hl
            intro ls hl
            refine lv_lload_n B.1 B.2.1 dX8_meetAll_65 rfl (lv_at hl 3 rfl) ?_
            refine lv_aload_n B.1 B.2.1 dX8_meetAll_66 rfl (lv_at hl 2 rfl) ?_
            refine r_get B hH (own := RX8) (kd_n B (kb0) (by decide) (by decide)) (ct_8 (kb0)) rfl (ul_8 B.2.2.2.2.1) 3 (by decide) rfl (tw_969 B.2.2.2.2.1) dX8_meetAll_67 ?_
            refine lv_iload B.1 B.2.1 dX8_meetAll_70 (lv_at hl 4 rfl) ?_
            refine c_S_I (own := RX8) (As := [.ref (zA Z (b0 + 2)), .int b6]) (rest := [.long b3]) B hH (cy_X8_period B.2.2.2.2.1) (ct_X8_period B.2.2.2.2.2.2.2 l (b0 + 2) b6 h11 _ _ (kf_8_3 (kb0)) hw) ⟨⟨rfl, rfl⟩, Nat.le_of_ble_eq_true rfl, Nat.le_of_ble_eq_true rfl, Nat.zero_le _, Nat.zero_le _⟩ (tw_1182 B.2.2.2.2.1) rfl hl.1 rfl (Nat.le_of_ble_eq_true rfl) dX8_meetAll_72 ?_
            clear hw hH
            intro r14 h13 H locs hw hH
            refine c_S_L (own := RX8) (As := [.long b3, .int r14]) (rest := []) B hH (cy_X8_multiple B.2.2.2.2.1) (ct_X8_multiple B.2.2.2.2.2.2.2 l b3 r14 h13 _ _  hw) ⟨⟨rfl, rfl⟩, Nat.le_of_ble_eq_true rfl, Nat.le_of_ble_eq_true rfl, Nat.zero_le _, Nat.zero_le _⟩ (tw_1258 B.2.2.2.2.1) rfl hl.1 rfl (Nat.le_of_ble_eq_true rfl) dX8_meetAll_75 ?_
            clear hw hH
            intro r16 h15 H locs hw hH
            refine lv_lstore_n (lv' := [(3, .long r16), (1, .long r12), (5, .int 1), (0, .ref (zA Z b0)), (6, .int b6)]) B.1 B.2.1 dX8_meetAll_78 rfl hl (by decide) (by first | rfl | simp [va_re_cat, Value.category]) ?_
            clear hl
            intro ls hl
            obtain ⟨x17, ex17⟩ : ∃ y : Int32, y = b6 + 1 := ⟨_, rfl⟩
            replace hw := hw x17 ex17
            refine lv_iinc (v := x17) (lv' := [(6, .int x17), (3, .long r16), (1, .long r12), (5, .int 1), (0, .ref (zA Z b0))]) B.1 B.2.1 dX8_meetAll_79 hl (k := 4) rfl (by rw [ex17]; rfl) (by decide) (by first | rfl | simp [va_re_cat, Value.category]) ?_
            clear hl
            intro ls hl
            refine lv_goto (tgt := 15) B.1 B.2.1 dX8_meetAll_82 (by decide) ?_
            exact ih r12 r16 1 x17 h15  _ _ _ hw hH (lv_sub hl [4, 2, 1, 3, 0] rfl)
  refine lv_aload_n B.1 B.2.1 dX8_meetAll_0 rfl (lv_at hl 0 rfl) ?_
  refine lv_iconst (v := 0) B.1 B.2.1 dX8_meetAll_1 (by decide) ?_
  refine r_put B hH (own := RX8) (kd_n B (k0) (by decide) (by decide)) (ct_8 (k0)) rfl (ul_8 B.2.2.2.2.1) tyX8 tyX8_ok nmX8 0 (by decide) (ty := .int) rfl rfl rfl rfl (Nat.le_of_ble_eq_true rfl) (cs_8_0 (k0)) (tw_966 B.2.2.2.2.1) dX8_meetAll_2 ?_
  clear hH
  intro H locs hH
  obtain ⟨h1, eh1⟩ : ∃ z : PH, z = up2 h a0 0 0 := ⟨_, rfl⟩
  rw [← eh1] at hH
  replace hw := hw h1 eh1
  refine lv_lconst (v := 0) B.1 B.2.1 dX8_meetAll_5 (by decide) ?_
  refine lv_lstore_n (lv' := [(1, .long 0), (0, .ref (zA Z a0))]) B.1 B.2.1 dX8_meetAll_6 rfl hl (by decide) (by first | rfl | simp [va_re_cat, Value.category]) ?_
  clear hl
  intro ls hl
  refine lv_lconst (v := 1) B.1 B.2.1 dX8_meetAll_7 (by decide) ?_
  refine lv_lstore_n (lv' := [(3, .long 1), (1, .long 0), (0, .ref (zA Z a0))]) B.1 B.2.1 dX8_meetAll_8 rfl hl (by decide) (by first | rfl | simp [va_re_cat, Value.category]) ?_
  clear hl
  intro ls hl
  refine lv_iconst (v := 0) B.1 B.2.1 dX8_meetAll_9 (by decide) ?_
  refine lv_istore (lv' := [(5, .int 0), (3, .long 1), (1, .long 0), (0, .ref (zA Z a0))]) B.1 B.2.1 dX8_meetAll_10 hl (by decide) (by first | rfl | simp [va_re_cat, Value.category]) ?_
  clear hl
  intro ls hl
  refine lv_iconst (v := 0) B.1 B.2.1 dX8_meetAll_12 (by decide) ?_
  refine lv_istore (lv' := [(6, .int 0), (5, .int 0), (3, .long 1), (1, .long 0), (0, .ref (zA Z a0))]) B.1 B.2.1 dX8_meetAll_13 hl (by decide) (by first | rfl | simp [va_re_cat, Value.category]) ?_
  clear hl
  intro ls hl
  obtain ⟨n18, hw⟩ := hw
  exact L15 a0 (k0) n18 0 1 0 0 h1  _ _ _ hw hH (lv_sub hl [4, 3, 2, 1, 0] rfl)
theorem cy_X8_loudest {s : State} {args : Array Value} (hG : GG s) : CYV s args yX8_loudest cX8_loudest 7 (some .int) 2 := CYV.of hG (fun _ _ hG => tw_1264 hG) (tw_8 hG) (tw_1262 hG) (tw_1263 hG) (by decide +kernel)
set_option maxRecDepth 100000 in
set_option maxHeartbeats 4000000 in
theorem ct_X8_loudest {Z : ZT} (hZ : ZO Z) (l : Launch) (a0 : Nat) (a1 : Int32) (a2 : Int32) (h : PH) (sz : Nat) (Q : Int32 → PH → Prop) (k0 : kd a0 = 8) (hw : wp_X8_loudest a0 a1 a2 h Q) : MI Z l yX8_loudest cX8_loudest 7 (some .int) ({ frames := 4, cells := 0, slots := 0, locals := 90 } : Room) h sz [.ref (zA Z a0), .int a1, .int a2] Q := by
  refine open_M hZ (by decide +kernel) (by exact Nat.le_of_ble_eq_true rfl) ?_
  intro p e s m below meth c B hr hsz ls hl hH
  subst hsz
  have hl : lv_has ls 7 [(0, .ref (zA Z a0)), (1, .int a1), (2, .int a2)] := hl
  unfold wp_X8_loudest at hw
  have L51 : ∀ (b0 : Nat) (b1 : Int32) (b2 : Int32), kd b0 = 8 → ∀ (n : Nat) (b3 : Int32) (b4 : Int32) (b5 : Int32) (h : PH), ∀ (H : Heap) (locs : List Loc) (ls : Array Slot), wp_X8_loudest_b51 b0 b1 b2 Q n b3 b4 b5 h → HH Z s h H locs → lv_has ls 7 [(0, .ref (zA Z b0)), (1, .int b1), (2, .int b2), (3, .int b3), (4, .int b4), (5, .int b5)] → W p l e ({ frames := 4, cells := 0, slots := 0, locals := 90 } : Room) s m ([.ref (zA Z a0), .int a1, .int a2]).toArray below meth c H locs 0 0 (MQ below (va_Qi Q (BZ Z) (fr Z s.heap.size)) ([.ref (zA Z a0), .int a1, .int a2]).toArray s 0 0 (fr Z s.heap.size)) (F0 m 51 ls []) := by
    intro b0 b1 b2 kb0 n
    induction n with
    | zero => intro b3 b4 b5 h H locs ls hw hH hl; exact absurd hw id
    | succ n ih =>
      intro b3 b4 b5 h H locs ls hw hH hl
      unfold wp_X8_loudest_b51 at hw
      refine lv_iload B.1 B.2.1 dX8_loudest_51 (lv_at hl 5 rfl) ?_
      refine lv_iload_n B.1 B.2.1 dX8_loudest_53 rfl (lv_at hl 1 rfl) ?_
      refine lv_icmp_gt (tgt := 103) B.1 B.2.1 dX8_loudest_54 (by decide) (fun c9 => ?_) (fun c9 => ?_)
      · replace hw := hw.1 c9
        refine lv_iload_n B.1 B.2.1 dX8_loudest_103 rfl (lv_at hl 2 rfl) ?_
        refine lv_if_ne (tgt := 111) B.1 B.2.1 dX8_loudest_104 (by decide) (fun c10 => ?_) (fun c10 => ?_)
        · replace hw := hw.1 c10
          refine lv_iload B.1 B.2.1 dX8_loudest_111 (lv_at hl 4 rfl) ?_
          exact e_i B hr hH hw dX8_loudest_113
        · replace hw := hw.2 c10
          refine lv_iload_n B.1 B.2.1 dX8_loudest_107 rfl (lv_at hl 3 rfl) ?_
          refine lv_goto (tgt := 113) B.1 B.2.1 dX8_loudest_108 (by decide) ?_
          exact e_i B hr hH hw dX8_loudest_113
      · replace hw := hw.2 c9
        refine lv_aload_n B.1 B.2.1 dX8_loudest_57 rfl (lv_at hl 0 rfl) ?_
        refine r_get B hH (own := RX8) (kd_n B (kb0) (by decide) (by decide)) (ct_8 (kb0)) rfl (ul_8 B.2.2.2.2.1) 3 (by decide) rfl (tw_969 B.2.2.2.2.1) dX8_loudest_58 ?_
        refine lv_iload B.1 B.2.1 dX8_loudest_61 (lv_at hl 5 rfl) ?_
        refine lv_i2l B.1 B.2.1 dX8_loudest_63 rfl ?_
        refine c_S_I (own := RX8) (As := [.ref (zA Z (b0 + 2)), .long (b5.toInt64)]) (rest := []) B hH (cy_X8_soundLater B.2.2.2.2.1) (ct_X8_soundLater B.2.2.2.2.2.2.2 l (b0 + 2) (b5.toInt64) h _ _ (kf_8_3 (kb0)) hw) ⟨⟨rfl, rfl⟩, Nat.le_of_ble_eq_true rfl, Nat.le_of_ble_eq_true rfl, Nat.zero_le _, Nat.zero_le _⟩ (tw_1114 B.2.2.2.2.1) rfl hl.1 rfl (Nat.le_of_ble_eq_true rfl) dX8_loudest_64 ?_
        clear hw hH
        intro r12 h11 H locs hw hH
        refine lv_istore (lv' := [(6, .int r12), (0, .ref (zA Z b0)), (1, .int b1), (2, .int b2), (3, .int b3), (4, .int b4), (5, .int b5)]) B.1 B.2.1 dX8_loudest_67 hl (by decide) (by first | rfl | simp [va_re_cat, Value.category]) ?_
        clear hl
        intro ls hl
        refine lv_iload B.1 B.2.1 dX8_loudest_69 (lv_at hl 0 rfl) ?_
        refine lv_iload_n B.1 B.2.1 dX8_loudest_71 rfl (lv_at hl 4 rfl) ?_
        refine lv_icmp_le (tgt := 80) B.1 B.2.1 dX8_loudest_72 (by decide) (fun c13 => ?_) (fun c13 => ?_)
        · replace hw := hw.1 c13
          refine lv_iload B.1 B.2.1 dX8_loudest_80 (lv_at hl 5 rfl) ?_
          refine lv_istore (lv' := [(4, .int b4), (6, .int r12), (0, .ref (zA Z b0)), (1, .int b1), (2, .int b2), (3, .int b3), (5, .int b5)]) B.1 B.2.1 dX8_loudest_82 hl (by decide) (by first | rfl | simp [va_re_cat, Value.category]) ?_
          clear hl
          intro ls hl
          refine lv_iload B.1 B.2.1 dX8_loudest_84 (lv_at hl 1 rfl) ?_
          refine lv_iload_n B.1 B.2.1 dX8_loudest_86 rfl (lv_at hl 5 rfl) ?_
          refine lv_icmp_le (tgt := 95) B.1 B.2.1 dX8_loudest_87 (by decide) (fun c14 => ?_) (fun c14 => ?_)
          · replace hw := hw.1 c14
            refine lv_iload_n B.1 B.2.1 dX8_loudest_95 rfl (lv_at hl 5 rfl) ?_
            refine lv_istore_n (lv' := [(3, .int b3), (4, .int b4), (6, .int r12), (0, .ref (zA Z b0)), (1, .int b1), (2, .int b2), (5, .int b5)]) B.1 B.2.1 dX8_loudest_96 rfl hl (by decide) (by first | rfl | simp [va_re_cat, Value.category]) ?_
            clear hl
            intro ls hl
            obtain ⟨x15, ex15⟩ : ∃ y : Int32, y = b5 + 1 := ⟨_, rfl⟩
            replace hw := hw x15 ex15
            refine lv_iinc (v := x15) (lv' := [(5, .int x15), (3, .int b3), (4, .int b4), (6, .int r12), (0, .ref (zA Z b0)), (1, .int b1), (2, .int b2)]) B.1 B.2.1 dX8_loudest_97 hl (k := 6) rfl (by rw [ex15]; rfl) (by decide) (by first | rfl | simp [va_re_cat, Value.category]) ?_
            clear hl
            intro ls hl
            refine lv_goto (tgt := 51) B.1 B.2.1 dX8_loudest_100 (by decide) ?_
            exact ih b3 b4 x15 h11  _ _ _ hw hH (lv_sub hl [4, 5, 6, 1, 2, 0] rfl)
          · replace hw := hw.2 c14
            refine lv_iload B.1 B.2.1 dX8_loudest_90 (lv_at hl 1 rfl) ?_
            refine lv_goto (tgt := 96) B.1 B.2.1 dX8_loudest_92 (by decide) ?_
            refine lv_istore_n (lv' := [(3, .int r12), (4, .int b4), (6, .int r12), (0, .ref (zA Z b0)), (1, .int b1), (2, .int b2), (5, .int b5)]) B.1 B.2.1 dX8_loudest_96 rfl hl (by decide) (by first | rfl | simp [va_re_cat, Value.category]) ?_
            clear hl
            intro ls hl
            obtain ⟨x16, ex16⟩ : ∃ y : Int32, y = b5 + 1 := ⟨_, rfl⟩
            replace hw := hw x16 ex16
            refine lv_iinc (v := x16) (lv' := [(5, .int x16), (3, .int r12), (4, .int b4), (6, .int r12), (0, .ref (zA Z b0)), (1, .int b1), (2, .int b2)]) B.1 B.2.1 dX8_loudest_97 hl (k := 6) rfl (by rw [ex16]; rfl) (by decide) (by first | rfl | simp [va_re_cat, Value.category]) ?_
            clear hl
            intro ls hl
            refine lv_goto (tgt := 51) B.1 B.2.1 dX8_loudest_100 (by decide) ?_
            exact ih r12 b4 x16 h11  _ _ _ hw hH (lv_sub hl [4, 5, 6, 1, 2, 0] rfl)
        · replace hw := hw.2 c13
          refine lv_iload B.1 B.2.1 dX8_loudest_75 (lv_at hl 6 rfl) ?_
          refine lv_goto (tgt := 82) B.1 B.2.1 dX8_loudest_77 (by decide) ?_
          refine lv_istore (lv' := [(4, .int b5), (6, .int r12), (0, .ref (zA Z b0)), (1, .int b1), (2, .int b2), (3, .int b3), (5, .int b5)]) B.1 B.2.1 dX8_loudest_82 hl (by decide) (by first | rfl | simp [va_re_cat, Value.category]) ?_
          clear hl
          intro ls hl
          refine lv_iload B.1 B.2.1 dX8_loudest_84 (lv_at hl 1 rfl) ?_
          refine lv_iload_n B.1 B.2.1 dX8_loudest_86 rfl (lv_at hl 5 rfl) ?_
          refine lv_icmp_le (tgt := 95) B.1 B.2.1 dX8_loudest_87 (by decide) (fun c17 => ?_) (fun c17 => ?_)
          · replace hw := hw.1 c17
            refine lv_iload_n B.1 B.2.1 dX8_loudest_95 rfl (lv_at hl 5 rfl) ?_
            refine lv_istore_n (lv' := [(3, .int b3), (4, .int b5), (6, .int r12), (0, .ref (zA Z b0)), (1, .int b1), (2, .int b2), (5, .int b5)]) B.1 B.2.1 dX8_loudest_96 rfl hl (by decide) (by first | rfl | simp [va_re_cat, Value.category]) ?_
            clear hl
            intro ls hl
            obtain ⟨x18, ex18⟩ : ∃ y : Int32, y = b5 + 1 := ⟨_, rfl⟩
            replace hw := hw x18 ex18
            refine lv_iinc (v := x18) (lv' := [(5, .int x18), (3, .int b3), (4, .int b5), (6, .int r12), (0, .ref (zA Z b0)), (1, .int b1), (2, .int b2)]) B.1 B.2.1 dX8_loudest_97 hl (k := 6) rfl (by rw [ex18]; rfl) (by decide) (by first | rfl | simp [va_re_cat, Value.category]) ?_
            clear hl
            intro ls hl
            refine lv_goto (tgt := 51) B.1 B.2.1 dX8_loudest_100 (by decide) ?_
            exact ih b3 b5 x18 h11  _ _ _ hw hH (lv_sub hl [4, 5, 6, 1, 2, 0] rfl)
          · replace hw := hw.2 c17
            refine lv_iload B.1 B.2.1 dX8_loudest_90 (lv_at hl 1 rfl) ?_
            refine lv_goto (tgt := 96) B.1 B.2.1 dX8_loudest_92 (by decide) ?_
            refine lv_istore_n (lv' := [(3, .int r12), (4, .int b5), (6, .int r12), (0, .ref (zA Z b0)), (1, .int b1), (2, .int b2), (5, .int b5)]) B.1 B.2.1 dX8_loudest_96 rfl hl (by decide) (by first | rfl | simp [va_re_cat, Value.category]) ?_
            clear hl
            intro ls hl
            obtain ⟨x19, ex19⟩ : ∃ y : Int32, y = b5 + 1 := ⟨_, rfl⟩
            replace hw := hw x19 ex19
            refine lv_iinc (v := x19) (lv' := [(5, .int x19), (3, .int r12), (4, .int b5), (6, .int r12), (0, .ref (zA Z b0)), (1, .int b1), (2, .int b2)]) B.1 B.2.1 dX8_loudest_97 hl (k := 6) rfl (by rw [ex19]; rfl) (by decide) (by first | rfl | simp [va_re_cat, Value.category]) ?_
            clear hl
            intro ls hl
            refine lv_goto (tgt := 51) B.1 B.2.1 dX8_loudest_100 (by decide) ?_
            exact ih r12 b5 x19 h11  _ _ _ hw hH (lv_sub hl [4, 5, 6, 1, 2, 0] rfl)
  refine lv_aload_n B.1 B.2.1 dX8_loudest_0 rfl (lv_at hl 0 rfl) ?_
  refine lv_iload_n B.1 B.2.1 dX8_loudest_1 rfl (lv_at hl 1 rfl) ?_
  refine lv_i2l B.1 B.2.1 dX8_loudest_2 rfl ?_
  refine lv_lconst (v := 1) B.1 B.2.1 dX8_loudest_3 (by decide) ?_
  refine lv_ldc2 (own := RX8) B.1 B.2.1 B.2.2.2.1 (tw_1265 B.2.2.2.2.1) dX8_loudest_4 ?_
  refine c_S_I (own := RX8) (As := [.long (a1.toInt64), .long 1, .long 2000]) (rest := [.ref (zA Z a0)]) B hH (cy_X8_in B.2.2.2.2.1) (ct_X8_in B.2.2.2.2.2.2.2 l (a1.toInt64) 1 2000 h _ _  hw) ⟨⟨rfl, rfl⟩, Nat.le_of_ble_eq_true rfl, Nat.le_of_ble_eq_true rfl, Nat.zero_le _, Nat.zero_le _⟩ (tw_1010 B.2.2.2.2.1) rfl hl.1 rfl (Nat.le_of_ble_eq_true rfl) dX8_loudest_7 ?_
  clear hw hH
  intro r2 h1 H locs hw hH
  refine lv_if_eq (tgt := 27) B.1 B.2.1 dX8_loudest_10 (by decide) (fun c3 => ?_) (fun c3 => ?_)
  · replace hw := hw.1 c3
    refine lv_iconst (v := 1) B.1 B.2.1 dX8_loudest_27 (by decide) ?_
    refine c_V_I (own := RX8) (As := [.int 1]) (rest := []) B hH (cy_X8_refused B.2.2.2.2.1) (ct_X8_refused B.2.2.2.2.2.2.2 l a0 1 h1 _ _ (k0) hw) ⟨⟨rfl, rfl⟩, Nat.le_of_ble_eq_true rfl, Nat.le_of_ble_eq_true rfl, Nat.zero_le _, Nat.zero_le _⟩ (rv_8 B hH (k0)) (tw_1013 B.2.2.2.2.1) rfl hl.1 rfl (Nat.le_of_ble_eq_true rfl) dX8_loudest_28 ?_
    clear hw hH
    intro r5 h4 H locs hw hH
    refine lv_if_eq (tgt := 36) B.1 B.2.1 dX8_loudest_31 (by decide) (fun c6 => ?_) (fun c6 => ?_)
    · replace hw := hw.1 c6
      refine lv_aload_n B.1 B.2.1 dX8_loudest_36 rfl (lv_at hl 0 rfl) ?_
      refine r_get B hH (own := RX8) (kd_n B (k0) (by decide) (by decide)) (ct_8 (k0)) rfl (ul_8 B.2.2.2.2.1) 3 (by decide) rfl (tw_969 B.2.2.2.2.1) dX8_loudest_37 ?_
      refine lv_lconst (v := 0) B.1 B.2.1 dX8_loudest_40 (by decide) ?_
      refine c_S_I (own := RX8) (As := [.ref (zA Z (a0 + 2)), .long 0]) (rest := []) B hH (cy_X8_soundLater B.2.2.2.2.1) (ct_X8_soundLater B.2.2.2.2.2.2.2 l (a0 + 2) 0 h4 _ _ (kf_8_3 (k0)) hw) ⟨⟨rfl, rfl⟩, Nat.le_of_ble_eq_true rfl, Nat.le_of_ble_eq_true rfl, Nat.zero_le _, Nat.zero_le _⟩ (tw_1114 B.2.2.2.2.1) rfl hl.1 rfl (Nat.le_of_ble_eq_true rfl) dX8_loudest_41 ?_
      clear hw hH
      intro r8 h7 H locs hw hH
      refine lv_istore_n (lv' := [(3, .int r8), (0, .ref (zA Z a0)), (1, .int a1), (2, .int a2)]) B.1 B.2.1 dX8_loudest_44 rfl hl (by decide) (by first | rfl | simp [va_re_cat, Value.category]) ?_
      clear hl
      intro ls hl
      refine lv_iconst (v := 0) B.1 B.2.1 dX8_loudest_45 (by decide) ?_
      refine lv_istore (lv' := [(4, .int 0), (3, .int r8), (0, .ref (zA Z a0)), (1, .int a1), (2, .int a2)]) B.1 B.2.1 dX8_loudest_46 hl (by decide) (by first | rfl | simp [va_re_cat, Value.category]) ?_
      clear hl
      intro ls hl
      refine lv_iconst (v := 1) B.1 B.2.1 dX8_loudest_48 (by decide) ?_
      refine lv_istore (lv' := [(5, .int 1), (4, .int 0), (3, .int r8), (0, .ref (zA Z a0)), (1, .int a1), (2, .int a2)]) B.1 B.2.1 dX8_loudest_49 hl (by decide) (by first | rfl | simp [va_re_cat, Value.category]) ?_
      clear hl
      intro ls hl
      obtain ⟨n20, hw⟩ := hw
      exact L51 a0 a1 a2 (k0) n20 r8 0 1 h7  _ _ _ hw hH (lv_sub hl [3, 4, 5, 2, 1, 0] rfl)
    · replace hw := hw.2 c6
      refine lv_iconst (v := 0) B.1 B.2.1 dX8_loudest_34 (by decide) ?_
      exact e_i B hr hH hw dX8_loudest_35
  · replace hw := hw.2 c3
    refine lv_iload_n B.1 B.2.1 dX8_loudest_13 rfl (lv_at hl 2 rfl) ?_
    refine lv_i2l B.1 B.2.1 dX8_loudest_14 rfl ?_
    refine lv_lconst (v := 0) B.1 B.2.1 dX8_loudest_15 (by decide) ?_
    refine lv_lconst (v := 1) B.1 B.2.1 dX8_loudest_16 (by decide) ?_
    refine c_S_I (own := RX8) (As := [.long (a2.toInt64), .long 0, .long 1]) (rest := [.ref (zA Z a0)]) B hH (cy_X8_in B.2.2.2.2.1) (ct_X8_in B.2.2.2.2.2.2.2 l (a2.toInt64) 0 1 h1 _ _  hw) ⟨⟨rfl, rfl⟩, Nat.le_of_ble_eq_true rfl, Nat.le_of_ble_eq_true rfl, Nat.zero_le _, Nat.zero_le _⟩ (tw_1010 B.2.2.2.2.1) rfl hl.1 rfl (Nat.le_of_ble_eq_true rfl) dX8_loudest_17 ?_
    clear hw hH
    intro r22 h21 H locs hw hH
    refine lv_if_eq (tgt := 27) B.1 B.2.1 dX8_loudest_20 (by decide) (fun c23 => ?_) (fun c23 => ?_)
    · replace hw := hw.1 c23
      refine lv_iconst (v := 1) B.1 B.2.1 dX8_loudest_27 (by decide) ?_
      refine c_V_I (own := RX8) (As := [.int 1]) (rest := []) B hH (cy_X8_refused B.2.2.2.2.1) (ct_X8_refused B.2.2.2.2.2.2.2 l a0 1 h21 _ _ (k0) hw) ⟨⟨rfl, rfl⟩, Nat.le_of_ble_eq_true rfl, Nat.le_of_ble_eq_true rfl, Nat.zero_le _, Nat.zero_le _⟩ (rv_8 B hH (k0)) (tw_1013 B.2.2.2.2.1) rfl hl.1 rfl (Nat.le_of_ble_eq_true rfl) dX8_loudest_28 ?_
      clear hw hH
      intro r25 h24 H locs hw hH
      refine lv_if_eq (tgt := 36) B.1 B.2.1 dX8_loudest_31 (by decide) (fun c26 => ?_) (fun c26 => ?_)
      · replace hw := hw.1 c26
        refine lv_aload_n B.1 B.2.1 dX8_loudest_36 rfl (lv_at hl 0 rfl) ?_
        refine r_get B hH (own := RX8) (kd_n B (k0) (by decide) (by decide)) (ct_8 (k0)) rfl (ul_8 B.2.2.2.2.1) 3 (by decide) rfl (tw_969 B.2.2.2.2.1) dX8_loudest_37 ?_
        refine lv_lconst (v := 0) B.1 B.2.1 dX8_loudest_40 (by decide) ?_
        refine c_S_I (own := RX8) (As := [.ref (zA Z (a0 + 2)), .long 0]) (rest := []) B hH (cy_X8_soundLater B.2.2.2.2.1) (ct_X8_soundLater B.2.2.2.2.2.2.2 l (a0 + 2) 0 h24 _ _ (kf_8_3 (k0)) hw) ⟨⟨rfl, rfl⟩, Nat.le_of_ble_eq_true rfl, Nat.le_of_ble_eq_true rfl, Nat.zero_le _, Nat.zero_le _⟩ (tw_1114 B.2.2.2.2.1) rfl hl.1 rfl (Nat.le_of_ble_eq_true rfl) dX8_loudest_41 ?_
        clear hw hH
        intro r28 h27 H locs hw hH
        refine lv_istore_n (lv' := [(3, .int r28), (0, .ref (zA Z a0)), (1, .int a1), (2, .int a2)]) B.1 B.2.1 dX8_loudest_44 rfl hl (by decide) (by first | rfl | simp [va_re_cat, Value.category]) ?_
        clear hl
        intro ls hl
        refine lv_iconst (v := 0) B.1 B.2.1 dX8_loudest_45 (by decide) ?_
        refine lv_istore (lv' := [(4, .int 0), (3, .int r28), (0, .ref (zA Z a0)), (1, .int a1), (2, .int a2)]) B.1 B.2.1 dX8_loudest_46 hl (by decide) (by first | rfl | simp [va_re_cat, Value.category]) ?_
        clear hl
        intro ls hl
        refine lv_iconst (v := 1) B.1 B.2.1 dX8_loudest_48 (by decide) ?_
        refine lv_istore (lv' := [(5, .int 1), (4, .int 0), (3, .int r28), (0, .ref (zA Z a0)), (1, .int a1), (2, .int a2)]) B.1 B.2.1 dX8_loudest_49 hl (by decide) (by first | rfl | simp [va_re_cat, Value.category]) ?_
        clear hl
        intro ls hl
        obtain ⟨n29, hw⟩ := hw
        exact L51 a0 a1 a2 (k0) n29 r28 0 1 h27  _ _ _ hw hH (lv_sub hl [3, 4, 5, 2, 1, 0] rfl)
      · replace hw := hw.2 c26
        refine lv_iconst (v := 0) B.1 B.2.1 dX8_loudest_34 (by decide) ?_
        exact e_i B hr hH hw dX8_loudest_35
    · replace hw := hw.2 c23
      refine lv_iconst (v := 0) B.1 B.2.1 dX8_loudest_23 (by decide) ?_
      refine lv_goto (tgt := 28) B.1 B.2.1 dX8_loudest_24 (by decide) ?_
      refine c_V_I (own := RX8) (As := [.int 0]) (rest := []) B hH (cy_X8_refused B.2.2.2.2.1) (ct_X8_refused B.2.2.2.2.2.2.2 l a0 0 h21 _ _ (k0) hw) ⟨⟨rfl, rfl⟩, Nat.le_of_ble_eq_true rfl, Nat.le_of_ble_eq_true rfl, Nat.zero_le _, Nat.zero_le _⟩ (rv_8 B hH (k0)) (tw_1013 B.2.2.2.2.1) rfl hl.1 rfl (Nat.le_of_ble_eq_true rfl) dX8_loudest_28 ?_
      clear hw hH
      intro r31 h30 H locs hw hH
      refine lv_if_eq (tgt := 36) B.1 B.2.1 dX8_loudest_31 (by decide) (fun c32 => ?_) (fun c32 => ?_)
      · replace hw := hw.1 c32
        refine lv_aload_n B.1 B.2.1 dX8_loudest_36 rfl (lv_at hl 0 rfl) ?_
        refine r_get B hH (own := RX8) (kd_n B (k0) (by decide) (by decide)) (ct_8 (k0)) rfl (ul_8 B.2.2.2.2.1) 3 (by decide) rfl (tw_969 B.2.2.2.2.1) dX8_loudest_37 ?_
        refine lv_lconst (v := 0) B.1 B.2.1 dX8_loudest_40 (by decide) ?_
        refine c_S_I (own := RX8) (As := [.ref (zA Z (a0 + 2)), .long 0]) (rest := []) B hH (cy_X8_soundLater B.2.2.2.2.1) (ct_X8_soundLater B.2.2.2.2.2.2.2 l (a0 + 2) 0 h30 _ _ (kf_8_3 (k0)) hw) ⟨⟨rfl, rfl⟩, Nat.le_of_ble_eq_true rfl, Nat.le_of_ble_eq_true rfl, Nat.zero_le _, Nat.zero_le _⟩ (tw_1114 B.2.2.2.2.1) rfl hl.1 rfl (Nat.le_of_ble_eq_true rfl) dX8_loudest_41 ?_
        clear hw hH
        intro r34 h33 H locs hw hH
        refine lv_istore_n (lv' := [(3, .int r34), (0, .ref (zA Z a0)), (1, .int a1), (2, .int a2)]) B.1 B.2.1 dX8_loudest_44 rfl hl (by decide) (by first | rfl | simp [va_re_cat, Value.category]) ?_
        clear hl
        intro ls hl
        refine lv_iconst (v := 0) B.1 B.2.1 dX8_loudest_45 (by decide) ?_
        refine lv_istore (lv' := [(4, .int 0), (3, .int r34), (0, .ref (zA Z a0)), (1, .int a1), (2, .int a2)]) B.1 B.2.1 dX8_loudest_46 hl (by decide) (by first | rfl | simp [va_re_cat, Value.category]) ?_
        clear hl
        intro ls hl
        refine lv_iconst (v := 1) B.1 B.2.1 dX8_loudest_48 (by decide) ?_
        refine lv_istore (lv' := [(5, .int 1), (4, .int 0), (3, .int r34), (0, .ref (zA Z a0)), (1, .int a1), (2, .int a2)]) B.1 B.2.1 dX8_loudest_49 hl (by decide) (by first | rfl | simp [va_re_cat, Value.category]) ?_
        clear hl
        intro ls hl
        obtain ⟨n35, hw⟩ := hw
        exact L51 a0 a1 a2 (k0) n35 r34 0 1 h33  _ _ _ hw hH (lv_sub hl [3, 4, 5, 2, 1, 0] rfl)
      · replace hw := hw.2 c32
        refine lv_iconst (v := 0) B.1 B.2.1 dX8_loudest_34 (by decide) ?_
        exact e_i B hr hH hw dX8_loudest_35
