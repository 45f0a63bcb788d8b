theorem cy_X7_simulate {s : State} {args : Array Value} (hG : GG s) : CYV s args yX7_simulate cX7_simulate 7 (some .int) 2 := CYV.of hG (fun _ _ hG => tw_929 hG) (tw_1 hG) (tw_927 hG) (tw_928 hG) (by decide +kernel)
set_option maxRecDepth 100000 in
set_option maxHeartbeats 4000000 in
theorem ct_X7_simulate {Z : ZT} (hZ : ZO Z) (l : Launch) (hl9 : l.stackTraces = false) (a0 : Nat) (a1 : Int64) (a3 : Int32) (h : PH) (sz : Nat) (Q : Int32 → PH → Prop) (X : String → PH → Prop) (k0 : kd a0 = 1) (hw : wp_X7_simulate a0 a1 a3 h Q X) : XI Z l yX7_simulate cX7_simulate 7 (some .int) ({ frames := 7, cells := 1, slots := 6, locals := 164 } : Room) h sz [.ref (zA Z a0), .long a1, .int a3] Q X := by
  refine open_X hZ hl9 (by decide +kernel) (by exact Nat.le_of_ble_eq_true rfl) ?_
  intro p e s m below meth c B hr hsz ls hl hH hB hT
  subst hsz
  have hl : lv_has ls 7 [(0, .ref (zA Z a0)), (1, .long a1), (3, .int a3)] := hl
  unfold wp_X7_simulate at hw
  have L38 : ∀ (b0 : Nat) (b3 : Int32), kd b0 = 1 → ∀ (n : Nat) (b4 : Int64) (b6 : Int32) (h : PH), ∀ (H : Heap) (locs : List Loc) (ls : Array Slot), wp_X7_simulate_b38 b0 b3 Q X n b4 b6 h → HH Z s h H locs → lv_has ls 7 [(0, .ref (zA Z b0)), (3, .int b3), (4, .long b4), (6, .int b6)] → W p l e ({ frames := 7, cells := 1, slots := 6, locals := 164 } : Room) s m ([.ref (zA Z a0), .long a1, .int a3]).toArray below meth c H locs 0 0 (vx_MQ below (va_Qi Q (BZ Z) (fr Z s.heap.size)) (XCZ Z X s.heap.size) ([.ref (zA Z a0), .long a1, .int a3]).toArray s 1 6 (fr Z s.heap.size)) (F0 m 38 ls []) := by
    intro b0 b3 kb0 n
    induction n with
    | zero => intro b4 b6 h H locs ls hw hH hl; exact absurd hw id
    | succ n ih =>
      intro b4 b6 h H locs ls hw hH hl
      unfold wp_X7_simulate_b38 at hw
      refine lv_iload B.1 B.2.1 dX7_simulate_38 (lv_at hl 3 rfl) ?_
      refine lv_iload_n B.1 B.2.1 dX7_simulate_40 rfl (lv_at hl 1 rfl) ?_
      refine lv_icmp_ge (tgt := 72) B.1 B.2.1 dX7_simulate_41 (by decide) (fun c5 => ?_) (fun c5 => ?_)
      · replace hw := hw.1 c5
        refine lv_sipush (v := 1000) B.1 B.2.1 dX7_simulate_72 (by decide) ?_
        refine lv_aload_n B.1 B.2.1 dX7_simulate_75 rfl (lv_at hl 0 rfl) ?_
        refine r_get B hH (own := RX7) (kd_n B (kb0) (by decide) (by decide)) (ct_1 (kb0)) rfl (ul_1 B.2.2.2.2.1) 1 (by decide) rfl (tw_183 B.2.2.2.2.1) dX7_simulate_76 ?_
        refine c_VN_I (own := RX7) (As := []) (rest := [.int 1000]) B hH (cy_X5_loopCells B.2.2.2.2.1) (ct_X5_loopCells B.2.2.2.2.2.2.2 l (b0 + 22) h _ _ (kf_1_1 (kb0)) hw) ⟨⟨rfl, rfl⟩, Nat.le_of_ble_eq_true rfl, Nat.le_of_ble_eq_true rfl, Nat.le_of_ble_eq_true rfl, Nat.le_of_ble_eq_true rfl⟩ (rv_2 B hH (kf_1_1 (kb0))) (tw_616 B.2.2.2.2.1) rfl hl.1 rfl (Nat.le_of_ble_eq_true rfl) dX7_simulate_79 ?_
        clear hw hH
        intro r7 h6 H locs hw hH
        refine lv_imul B.1 B.2.1 dX7_simulate_82 ?_
        refine lv_aload_n B.1 B.2.1 dX7_simulate_83 rfl (lv_at hl 0 rfl) ?_
        refine r_get B hH (own := RX7) (kd_n B (kb0) (by decide) (by decide)) (ct_1 (kb0)) rfl (ul_1 B.2.2.2.2.1) 1 (by decide) rfl (tw_183 B.2.2.2.2.1) dX7_simulate_84 ?_
        refine lv_iconst (v := 0) B.1 B.2.1 dX7_simulate_87 (by decide) ?_
        refine c_VN_I (own := RX7) (As := [.int 0]) (rest := [.int (1000 * r7)]) B hH (cy_X5_soundBehind B.2.2.2.2.1) (ct_X5_soundBehind B.2.2.2.2.2.2.2 l (b0 + 22) 0 h6 _ _ (kf_1_1 (kb0)) hw) ⟨⟨rfl, rfl⟩, Nat.le_of_ble_eq_true rfl, Nat.le_of_ble_eq_true rfl, Nat.le_of_ble_eq_true rfl, Nat.le_of_ble_eq_true rfl⟩ (rv_2 B hH (kf_1_1 (kb0))) (tw_607 B.2.2.2.2.1) rfl hl.1 rfl (Nat.le_of_ble_eq_true rfl) dX7_simulate_88 ?_
        clear hw hH
        intro r9 h8 H locs hw hH
        refine lv_iadd B.1 B.2.1 dX7_simulate_91 ?_
        exact e_xi B hr hH hw dX7_simulate_92 (Nat.le_of_ble_eq_true rfl) (Nat.le_of_ble_eq_true rfl)
      · replace hw := hw.2 c5
        refine lv_lload B.1 B.2.1 dX7_simulate_44 (lv_at hl 2 rfl) ?_
        refine lv_ldc2 (own := RX7) B.1 B.2.1 B.2.2.2.1 (tw_931 B.2.2.2.2.1) dX7_simulate_46 ?_
        refine lv_lmul B.1 B.2.1 dX7_simulate_49 ?_
        refine lv_ldc2 (own := RX7) B.1 B.2.1 B.2.2.2.1 (tw_932 B.2.2.2.2.1) dX7_simulate_50 ?_
        refine lv_ladd B.1 B.2.1 dX7_simulate_53 ?_
        refine lv_topl (fun x10 ex10 => ?_)
        replace hw := hw x10 ex10
        refine lv_lstore (lv' := [(4, .long x10), (0, .ref (zA Z b0)), (3, .int b3), (6, .int b6)]) B.1 B.2.1 dX7_simulate_54 hl (by decide) (by first | rfl | simp [va_re_cat, Value.category]) ?_
        clear hl
        intro ls hl
        refine lv_aload_n B.1 B.2.1 dX7_simulate_56 rfl (lv_at hl 1 rfl) ?_
        refine lv_lload B.1 B.2.1 dX7_simulate_57 (lv_at hl 0 rfl) ?_
        refine lv_bipush (v := 33) B.1 B.2.1 dX7_simulate_59 (by decide) ?_
        refine lv_lushr (v := jlushr x10 33) B.1 B.2.1 dX7_simulate_61 rfl ?_
        refine lv_l2i B.1 B.2.1 dX7_simulate_62 rfl ?_
        refine c_V_V (own := RX7) (As := [.int ((jlushr x10 33).toInt32)]) (rest := []) B hH (cy_X7_takeTurn B.2.2.2.2.1) (ct_X7_takeTurn B.2.2.2.2.2.2.2 l b0 ((jlushr x10 33).toInt32) h _ _ (kb0) hw) ⟨⟨rfl, rfl⟩, Nat.le_of_ble_eq_true rfl, Nat.le_of_ble_eq_true rfl, Nat.le_of_ble_eq_true rfl, Nat.le_of_ble_eq_true rfl⟩ (rv_1 B hH (kb0)) (tw_933 B.2.2.2.2.1) rfl hl.1 rfl (Nat.le_of_ble_eq_true rfl) dX7_simulate_63 ?_
        clear hw hH
        intro h11 H locs hw hH
        obtain ⟨x12, ex12⟩ : ∃ y : Int32, y = b6 + 1 := ⟨_, rfl⟩
        replace hw := hw x12 ex12
        refine lv_iinc (v := x12) (lv' := [(6, .int x12), (4, .long x10), (0, .ref (zA Z b0)), (3, .int b3)]) B.1 B.2.1 dX7_simulate_66 hl (k := 3) rfl (by rw [ex12]; rfl) (by decide) (by first | rfl | simp [va_re_cat, Value.category]) ?_
        clear hl
        intro ls hl
        refine lv_goto (tgt := 38) B.1 B.2.1 dX7_simulate_69 (by decide) ?_
        exact ih x10 x12 h11  _ _ _ hw hH (lv_sub hl [2, 3, 1, 0] rfl)
  refine lv_iload_n B.1 B.2.1 dX7_simulate_0 rfl (lv_at hl 2 rfl) ?_
  refine lv_iconst (v := 1) B.1 B.2.1 dX7_simulate_1 (by decide) ?_
  refine lv_bipush (v := 60) B.1 B.2.1 dX7_simulate_2 (by decide) ?_
  refine c_S_I (own := RX7) (As := [.int a3, .int 1, .int 60]) (rest := []) B hH (cy_X7_outside B.2.2.2.2.1) (ct_X7_outside B.2.2.2.2.2.2.2 l a3 1 60 h _ _  hw) ⟨⟨rfl, rfl⟩, Nat.le_of_ble_eq_true rfl, Nat.le_of_ble_eq_true rfl, Nat.le_of_ble_eq_true rfl, Nat.le_of_ble_eq_true rfl⟩ (tw_361 B.2.2.2.2.1) rfl hl.1 rfl (Nat.le_of_ble_eq_true rfl) dX7_simulate_4 ?_
  clear hw hH
  intro r2 h1 H locs hw hH
  refine lv_if_eq (tgt := 21) B.1 B.2.1 dX7_simulate_7 (by decide) (fun c3 => ?_) (fun c3 => ?_)
  · replace hw := hw.1 c3
    refine lv_aload_n B.1 B.2.1 dX7_simulate_21 rfl (lv_at hl 0 rfl) ?_
    refine r_get B hH (own := RX7) (kd_n B (k0) (by decide) (by decide)) (ct_1 (k0)) rfl (ul_1 B.2.2.2.2.1) 1 (by decide) rfl (tw_183 B.2.2.2.2.1) dX7_simulate_22 ?_
    refine lv_aload_n B.1 B.2.1 dX7_simulate_25 rfl (lv_at hl 0 rfl) ?_
    refine r_get B hH (own := RX7) (kd_n B (k0) (by decide) (by decide)) (ct_1 (k0)) rfl (ul_1 B.2.2.2.2.1) 0 (by decide) rfl (tw_182 B.2.2.2.2.1) dX7_simulate_26 ?_
    refine c_VN_V (own := RX7) (As := [.ref (zA Z (a0 + 1))]) (rest := []) B hH (cy_X5_copyFrom B.2.2.2.2.1) (ct_X5_copyFrom B.2.2.2.2.2.2.2 l (a0 + 22) (a0 + 1) h1 _ _ (kf_1_1 (k0)) (kf_1_0 (k0)) hw) ⟨⟨rfl, rfl⟩, Nat.le_of_ble_eq_true rfl, Nat.le_of_ble_eq_true rfl, Nat.le_of_ble_eq_true rfl, Nat.le_of_ble_eq_true rfl⟩ (rv_2 B hH (kf_1_1 (k0))) (tw_905 B.2.2.2.2.1) rfl hl.1 rfl (Nat.le_of_ble_eq_true rfl) dX7_simulate_29 ?_
    clear hw hH
    intro h4 H locs hw hH
    refine lv_lload_n B.1 B.2.1 dX7_simulate_32 rfl (lv_at hl 1 rfl) ?_
    refine lv_lstore (lv' := [(4, .long a1), (0, .ref (zA Z a0)), (1, .long a1), (3, .int a3)]) B.1 B.2.1 dX7_simulate_33 hl (by decide) (by first | rfl | simp [va_re_cat, Value.category]) ?_
    clear hl
    intro ls hl
    refine lv_iconst (v := 0) B.1 B.2.1 dX7_simulate_35 (by decide) ?_
    refine lv_istore (lv' := [(6, .int 0), (4, .long a1), (0, .ref (zA Z a0)), (1, .long a1), (3, .int a3)]) B.1 B.2.1 dX7_simulate_36 hl (by decide) (by first | rfl | simp [va_re_cat, Value.category]) ?_
    clear hl
    intro ls hl
    obtain ⟨n13, hw⟩ := hw
    exact L38 a0 a3 (k0) n13 a1 0 h4  _ _ _ hw hH (lv_sub hl [2, 4, 1, 0] rfl)
  · replace hw := hw.2 c3
    exact r_thIAEW B hH hB hT (is := 285) (text := "m is out of range") (tw_362 B.2.2.2.2.1) (tw_12 B.2.2.2.2.1) (by decide +kernel) hl.1 dX7_simulate_10 dX7_simulate_13 dX7_simulate_14 dX7_simulate_17 dX7_simulate_20 (Nat.le_of_ble_eq_true rfl) (Nat.le_of_ble_eq_true rfl) (Nat.le_of_ble_eq_true rfl) (Nat.le_of_ble_eq_true rfl) hw (Nat.le_of_ble_eq_true rfl) (Nat.le_of_ble_eq_true rfl)
theorem cy_X7_save {s : State} {args : Array Value} (hG : GG s) : CYV s args yX7_save cX7_save 3 (some .int) 1 := CYV.of hG (fun _ _ hG => tw_943 hG) (tw_1 hG) (tw_941 hG) (tw_942 hG) (by decide +kernel)
set_option maxRecDepth 100000 in
set_option maxHeartbeats 4000000 in
theorem ct_X7_save {Z : ZT} (hZ : ZO Z) (l : Launch) (hl9 : l.stackTraces = false) (a0 : Nat) (a1 : Int32) (h : PH) (sz : Nat) (Q : Int32 → PH → Prop) (X : String → PH → Prop) (k0 : kd a0 = 1) (hw : wp_X7_save a0 a1 h Q X) : XI Z l yX7_save cX7_save 3 (some .int) ({ frames := 6, cells := 1, slots := 6, locals := 94 } : Room) h sz [.ref (zA Z a0), .int a1] Q X := by
  refine open_X hZ hl9 (by decide +kernel) (by exact Nat.le_of_ble_eq_true rfl) ?_
  intro p e s m below meth c B hr hsz ls hl hH hB hT
  subst hsz
  have hl : lv_has ls 3 [(0, .ref (zA Z a0)), (1, .int a1)] := hl
  unfold wp_X7_save at hw
  refine lv_aload_n B.1 B.2.1 dX7_save_0 rfl (lv_at hl 0 rfl) ?_
  refine lv_iload_n B.1 B.2.1 dX7_save_1 rfl (lv_at hl 1 rfl) ?_
  refine c_V_O (own := RX7) (As := [.int a1]) (rest := []) B hH (cy_X7_slotAt B.2.2.2.2.1) (ct_X7_slotAt B.2.2.2.2.2.2.2 l a0 a1 h _ _ (k0) hw) ⟨⟨rfl, rfl⟩, Nat.le_of_ble_eq_true rfl, Nat.le_of_ble_eq_true rfl, Nat.le_of_ble_eq_true rfl, Nat.le_of_ble_eq_true rfl⟩ (rv_1 B hH (k0)) (tw_944 B.2.2.2.2.1) rfl hl.1 rfl (Nat.le_of_ble_eq_true rfl) dX7_save_2 ?_
  clear hw hH
  intro r2 h1 H locs hw hH
  have kr2 := hw.2
  replace hw := hw.1
  refine x_astore_n (lv' := [(2, va_re (zA Z) r2), (0, .ref (zA Z a0)), (1, .int a1)]) B dX7_save_5 rfl hl (by decide) (by first | rfl | simp [va_re_cat]) ?_
  clear hl
  intro ls hl
  refine x_aload_n B dX7_save_6 rfl (lv_at hl 0 rfl) ?_
  refine x_ifnonnull (tgt := 21) B dX7_save_7 (by decide) (fun j3 c4 => ?_) (fun c4 => ?_)
  · replace hw := hw.2 j3 c4
    have kj3 := kr2 j3 c4
    subst c4
    refine lv_aload_n B.1 B.2.1 dX7_save_21 rfl (lv_at hl 0 rfl) ?_
    refine r_getN B hH (own := RX7) (kd_n B (kj3) (by decide) (by decide)) (ct_5 (kj3)) rfl (ul_5 B.2.2.2.2.1) 0 (by decide) rfl (tw_152 B.2.2.2.2.1) dX7_save_22 ?_
    refine lv_aload_n B.1 B.2.1 dX7_save_25 rfl (lv_at hl 1 rfl) ?_
    refine r_get B hH (own := RX7) (kd_n B (k0) (by decide) (by decide)) (ct_1 (k0)) rfl (ul_1 B.2.2.2.2.1) 0 (by decide) rfl (tw_182 B.2.2.2.2.1) dX7_save_26 ?_
    refine c_VN_V (own := RX7) (As := [.ref (zA Z (a0 + 1))]) (rest := []) B hH (cy_X5_copyFrom B.2.2.2.2.1) (ct_X5_copyFrom B.2.2.2.2.2.2.2 l (j3 + 1) (a0 + 1) h1 _ _ (kf_5_0 (kj3)) (kf_1_0 (k0)) hw) ⟨⟨rfl, rfl⟩, Nat.le_of_ble_eq_true rfl, Nat.le_of_ble_eq_true rfl, Nat.le_of_ble_eq_true rfl, Nat.le_of_ble_eq_true rfl⟩ (rv_2 B hH (kf_5_0 (kj3))) (tw_905 B.2.2.2.2.1) rfl hl.1 rfl (Nat.le_of_ble_eq_true rfl) dX7_save_29 ?_
    clear hw hH
    intro h5 H locs hw hH
    refine lv_aload_n B.1 B.2.1 dX7_save_32 rfl (lv_at hl 0 rfl) ?_
    refine lv_iconst (v := 1) B.1 B.2.1 dX7_save_33 (by decide) ?_
    refine r_putN B hH (own := RX7) (kd_n B (kj3) (by decide) (by decide)) (ct_5 (kj3)) rfl (ul_5 B.2.2.2.2.1) tyX4 tyX4_ok nmX4 1 (by decide) (ty := .boolean) rfl (nz_b (by decide)) (fz_b (by decide)) rfl (Nat.le_of_ble_eq_true rfl) (cs_5_1 (kj3)) (tw_153 B.2.2.2.2.1) dX7_save_34 ?_
    clear hH
    intro H locs hH
    obtain ⟨h6, eh6⟩ : ∃ z : PH, z = up2 h5 j3 1 1 := ⟨_, rfl⟩
    rw [← eh6] at hH
    replace hw := hw h6 eh6
    refine lv_aload_n B.1 B.2.1 dX7_save_37 rfl (lv_at hl 1 rfl) ?_
    refine r_get B hH (own := RX7) (kd_n B (k0) (by decide) (by decide)) (ct_1 (k0)) rfl (ul_1 B.2.2.2.2.1) 0 (by decide) rfl (tw_182 B.2.2.2.2.1) dX7_save_38 ?_
    refine r_getN B hH (own := RX7) (kd_n B (kf_1_0 (k0)) (by decide) (by decide)) (ct_2 (kf_1_0 (k0))) rfl (ul_2 B.2.2.2.2.1) 4 (by decide) rfl (tw_107 B.2.2.2.2.1) dX7_save_41 ?_
    exact e_xi B hr hH hw dX7_save_44 (Nat.le_of_ble_eq_true rfl) (Nat.le_of_ble_eq_true rfl)
  · replace hw := hw.1 c4
    subst c4
    exact r_thIOBW B hH hB hT (is := 298) (text := "no such save slot") (tw_629 B.2.2.2.2.1) (tw_19 B.2.2.2.2.1) (by decide +kernel) hl.1 dX7_save_10 dX7_save_13 dX7_save_14 dX7_save_17 dX7_save_20 (Nat.le_of_ble_eq_true rfl) (Nat.le_of_ble_eq_true rfl) (Nat.le_of_ble_eq_true rfl) (Nat.le_of_ble_eq_true rfl) hw (Nat.le_of_ble_eq_true rfl) (Nat.le_of_ble_eq_true rfl)
theorem cy_X7_restore {s : State} {args : Array Value} (hG : GG s) : CYV s args yX7_restore cX7_restore 3 (some .int) 1 := CYV.of hG (fun _ _ hG => tw_955 hG) (tw_1 hG) (tw_953 hG) (tw_954 hG) (by decide +kernel)
set_option maxRecDepth 100000 in
set_option maxHeartbeats 4000000 in
theorem ct_X7_restore {Z : ZT} (hZ : ZO Z) (l : Launch) (hl9 : l.stackTraces = false) (a0 : Nat) (a1 : Int32) (h : PH) (sz : Nat) (Q : Int32 → PH → Prop) (X : String → PH → Prop) (k0 : kd a0 = 1) (hw : wp_X7_restore a0 a1 h Q X) : XI Z l yX7_restore cX7_restore 3 (some .int) ({ frames := 6, cells := 1, slots := 6, locals := 94 } : Room) h sz [.ref (zA Z a0), .int a1] Q X := by
  refine open_X hZ hl9 (by decide +kernel) (by exact Nat.le_of_ble_eq_true rfl) ?_
  intro p e s m below meth c B hr hsz ls hl hH hB hT
  subst hsz
  have hl : lv_has ls 3 [(0, .ref (zA Z a0)), (1, .int a1)] := hl
  unfold wp_X7_restore at hw
  refine lv_aload_n B.1 B.2.1 dX7_restore_0 rfl (lv_at hl 0 rfl) ?_
  refine lv_iload_n B.1 B.2.1 dX7_restore_1 rfl (lv_at hl 1 rfl) ?_
  refine c_V_O (own := RX7) (As := [.int a1]) (rest := []) B hH (cy_X7_slotAt B.2.2.2.2.1) (ct_X7_slotAt B.2.2.2.2.2.2.2 l a0 a1 h _ _ (k0) hw) ⟨⟨rfl, rfl⟩, Nat.le_of_ble_eq_true rfl, Nat.le_of_ble_eq_true rfl, Nat.le_of_ble_eq_true rfl, Nat.le_of_ble_eq_true rfl⟩ (rv_1 B hH (k0)) (tw_944 B.2.2.2.2.1) rfl hl.1 rfl (Nat.le_of_ble_eq_true rfl) dX7_restore_2 ?_
  clear hw hH
  intro r2 h1 H locs hw hH
  have kr2 := hw.2
  replace hw := hw.1
  refine x_astore_n (lv' := [(2, va_re (zA Z) r2), (0, .ref (zA Z a0)), (1, .int a1)]) B dX7_restore_5 rfl hl (by decide) (by first | rfl | simp [va_re_cat]) ?_
  clear hl
  intro ls hl
  refine x_aload_n B dX7_restore_6 rfl (lv_at hl 0 rfl) ?_
  refine x_ifnonnull (tgt := 21) B dX7_restore_7 (by decide) (fun j3 c4 => ?_) (fun c4 => ?_)
  · replace hw := hw.2 j3 c4
    have kj3 := kr2 j3 c4
    subst c4
    refine lv_aload_n B.1 B.2.1 dX7_restore_21 rfl (lv_at hl 0 rfl) ?_
    refine r_getN B hH (own := RX7) (kd_n B (kj3) (by decide) (by decide)) (ct_5 (kj3)) rfl (ul_5 B.2.2.2.2.1) 1 (by decide) rfl (tw_153 B.2.2.2.2.1) dX7_restore_22 ?_
    refine lv_if_ne (tgt := 39) B.1 B.2.1 dX7_restore_25 (by decide) (fun c5 => ?_) (fun c5 => ?_)
    · replace hw := hw.1 c5
      refine lv_aload_n B.1 B.2.1 dX7_restore_39 rfl (lv_at hl 1 rfl) ?_
      refine r_get B hH (own := RX7) (kd_n B (k0) (by decide) (by decide)) (ct_1 (k0)) rfl (ul_1 B.2.2.2.2.1) 0 (by decide) rfl (tw_182 B.2.2.2.2.1) dX7_restore_40 ?_
      refine lv_aload_n B.1 B.2.1 dX7_restore_43 rfl (lv_at hl 0 rfl) ?_
      refine r_getN B hH (own := RX7) (kd_n B (kj3) (by decide) (by decide)) (ct_5 (kj3)) rfl (ul_5 B.2.2.2.2.1) 0 (by decide) rfl (tw_152 B.2.2.2.2.1) dX7_restore_44 ?_
      refine c_VN_V (own := RX7) (As := [.ref (zA Z (j3 + 1))]) (rest := []) B hH (cy_X5_copyFrom B.2.2.2.2.1) (ct_X5_copyFrom B.2.2.2.2.2.2.2 l (a0 + 1) (j3 + 1) h1 _ _ (kf_1_0 (k0)) (kf_5_0 (kj3)) hw) ⟨⟨rfl, rfl⟩, Nat.le_of_ble_eq_true rfl, Nat.le_of_ble_eq_true rfl, Nat.le_of_ble_eq_true rfl, Nat.le_of_ble_eq_true rfl⟩ (rv_2 B hH (kf_1_0 (k0))) (tw_905 B.2.2.2.2.1) rfl hl.1 rfl (Nat.le_of_ble_eq_true rfl) dX7_restore_47 ?_
      clear hw hH
      intro h6 H locs hw hH
      refine lv_aload_n B.1 B.2.1 dX7_restore_50 rfl (lv_at hl 1 rfl) ?_
      refine r_get B hH (own := RX7) (kd_n B (k0) (by decide) (by decide)) (ct_1 (k0)) rfl (ul_1 B.2.2.2.2.1) 2 (by decide) rfl (tw_184 B.2.2.2.2.1) dX7_restore_51 ?_
      refine c_VN_V (own := RX7) (As := []) (rest := []) B hH (cy_X2_forget B.2.2.2.2.1) (ct_X2_forget B.2.2.2.2.2.2.2 l (a0 + 43) h6 _ _ (kf_1_2 (k0)) hw) ⟨⟨rfl, rfl⟩, Nat.le_of_ble_eq_true rfl, Nat.le_of_ble_eq_true rfl, Nat.le_of_ble_eq_true rfl, Nat.le_of_ble_eq_true rfl⟩ (rv_6 B hH (kf_1_2 (k0))) (tw_465 B.2.2.2.2.1) rfl hl.1 rfl (Nat.le_of_ble_eq_true rfl) dX7_restore_54 ?_
      clear hw hH
      intro h7 H locs hw hH
      refine lv_aload_n B.1 B.2.1 dX7_restore_57 rfl (lv_at hl 1 rfl) ?_
      refine r_get B hH (own := RX7) (kd_n B (k0) (by decide) (by decide)) (ct_1 (k0)) rfl (ul_1 B.2.2.2.2.1) 0 (by decide) rfl (tw_182 B.2.2.2.2.1) dX7_restore_58 ?_
      refine r_getN B hH (own := RX7) (kd_n B (kf_1_0 (k0)) (by decide) (by decide)) (ct_2 (kf_1_0 (k0))) rfl (ul_2 B.2.2.2.2.1) 4 (by decide) rfl (tw_107 B.2.2.2.2.1) dX7_restore_61 ?_
      exact e_xi B hr hH hw dX7_restore_64 (Nat.le_of_ble_eq_true rfl) (Nat.le_of_ble_eq_true rfl)
    · replace hw := hw.2 c5
      exact r_thISEW B hH hB hT (is := 303) (text := "nothing is saved there") (tw_433 B.2.2.2.2.1) (tw_13 B.2.2.2.2.1) (by decide +kernel) hl.1 dX7_restore_28 dX7_restore_31 dX7_restore_32 dX7_restore_35 dX7_restore_38 (Nat.le_of_ble_eq_true rfl) (Nat.le_of_ble_eq_true rfl) (Nat.le_of_ble_eq_true rfl) (Nat.le_of_ble_eq_true rfl) hw (Nat.le_of_ble_eq_true rfl) (Nat.le_of_ble_eq_true rfl)
  · replace hw := hw.1 c4
    subst c4
    exact r_thIOBW B hH hB hT (is := 298) (text := "no such save slot") (tw_629 B.2.2.2.2.1) (tw_19 B.2.2.2.2.1) (by decide +kernel) hl.1 dX7_restore_10 dX7_restore_13 dX7_restore_14 dX7_restore_17 dX7_restore_20 (Nat.le_of_ble_eq_true rfl) (Nat.le_of_ble_eq_true rfl) (Nat.le_of_ble_eq_true rfl) (Nat.le_of_ble_eq_true rfl) hw (Nat.le_of_ble_eq_true rfl) (Nat.le_of_ble_eq_true rfl)
theorem cy_L_append {s : State} {args : Array Value} (hG : GG s) : CYW s args yL_append cL_append 4 (some .int) [(0, 9, 12, 13), (0, 9, 15, 15)]  3 := CYW.of hG (fun _ _ hG => tw_354 hG) (tw_0 hG) (tw_353 hG) (by decide +kernel)
set_option maxRecDepth 100000 in
set_option maxHeartbeats 4000000 in
theorem ct_L_append {Z : ZT} (hZ : ZO Z) (l : Launch) (hl9 : l.stackTraces = false) (hN : zN Z = 352) (a0 : Nat) (a1 : Int32) (a2 : Nat) (h : PH) (sz : Nat) (Q : Int32 → PH → Prop) (k0 : kd a0 = 1) (k2 : kd a2 = 12) (hw : wp_L_append a0 a1 a2 h Q) : MW Z l yL_append cL_append 4 (some .int) [(0, 9, 12, 13), (0, 9, 15, 15)] ({ frames := 7, cells := 1, slots := 6, locals := 103 } : Room) h sz [.ref (zA Z a0), .int a1, .ref (zA Z a2)] Q := by
  refine open_W hZ hl9 (by decide +kernel) (by exact Nat.le_of_ble_eq_true rfl) ?_
  intro p e s m below meth c B hr hsz ls hl hH hB hT
  subst hsz
  have hl : lv_has ls 4 [(0, .ref (zA Z a0)), (1, .int a1), (2, .ref (zA Z a2))] := hl
  unfold wp_L_append at hw
  refine lv_aload_n B.1 B.2.1 dL_append_0 rfl (lv_at hl 2 rfl) ?_
  refine lv_iconst (v := 0) B.1 B.2.1 dL_append_1 (by decide) ?_
  refine lv_aload_n B.1 B.2.1 dL_append_2 rfl (lv_at hl 0 rfl) ?_
  refine lv_iload_n B.1 B.2.1 dL_append_3 rfl (lv_at hl 1 rfl) ?_
  refine x_V_I (own := RL) (As := [.int a1]) (rest := [.int 0, .ref (zA Z a2)]) B hH hB (cy_X7_append B.2.2.2.2.1) (ct_X7_append B.2.2.2.2.2.2.2 l hB.2.2.2 a0 a1 h _ _ _ (k0) hw) ⟨⟨rfl, rfl⟩, Nat.le_of_ble_eq_true rfl, Nat.le_of_ble_eq_true rfl, Nat.le_of_ble_eq_true rfl, Nat.le_of_ble_eq_true rfl⟩ (rv_1 B hH (k0)) (tw_357 B.2.2.2.2.1) rfl hl.1 rfl (Nat.le_of_ble_eq_true rfl) dL_append_4 (fun E h q ce H locs hw hH hce hcv hcl => ?_) ?_
  · by_cases c3 : E = "java/lang/IllegalArgumentException"
    · replace hw := hw.1 c3
      subst c3
      refine vx_catch (own := RL) (name := "java/lang/IllegalArgumentException") B.2.2.2.1 [] ⟨0, 9, 12, 13⟩ [⟨0, 9, 15, 15⟩] hT (fun z hz => nomatch hz) (by decide) (by decide) (tw_355 B.2.2.2.2.1) (tw_364 B.2.2.2.2.1) hce hcv hcl ?_
      refine lv_astore_n (lv' := [(3, .ref q), (0, .ref (zA Z a0)), (1, .int a1), (2, .ref (zA Z a2))]) B.1 B.2.1 dL_append_12 rfl hl (by decide) (by first | rfl | simp [va_re_cat, Value.category]) ?_
      clear hl
      intro ls hl
      refine lv_iconst (v := 1) B.1 B.2.1 dL_append_13 (by decide) ?_
      exact e_wi B hr hH hw dL_append_14 (Nat.le_of_ble_eq_true rfl) (Nat.le_of_ble_eq_true rfl)
    · by_cases c4 : E = "java/lang/IllegalStateException"
      · replace hw := hw.2.1 c4
        subst c4
        refine vx_catch (own := RL) (name := "java/lang/IllegalStateException") B.2.2.2.1 [⟨0, 9, 12, 13⟩] ⟨0, 9, 15, 15⟩ [] hT (fun z hz => by rw [List.mem_singleton.mp hz]; exact Or.inr ⟨by decide, "java/lang/IllegalArgumentException", tw_355 B.2.2.2.2.1, hB.2.2.1.1⟩) (by decide) (by decide) (tw_356 B.2.2.2.2.1) (tw_435 B.2.2.2.2.1) hce hcv hcl ?_
        refine lv_astore_n (lv' := [(3, .ref q), (0, .ref (zA Z a0)), (1, .int a1), (2, .ref (zA Z a2))]) B.1 B.2.1 dL_append_15 rfl hl (by decide) (by first | rfl | simp [va_re_cat, Value.category]) ?_
        clear hl
        intro ls hl
        refine lv_iconst (v := 2) B.1 B.2.1 dL_append_16 (by decide) ?_
        exact e_wi B hr hH hw dL_append_17 (Nat.le_of_ble_eq_true rfl) (Nat.le_of_ble_eq_true rfl)
      · exact (hw.2.2 c3 c4).elim
  clear hw hH
  intro r2 h1 H locs hw hH
  refine lv_i2l B.1 B.2.1 dL_append_7 rfl ?_
  have q5 := hw.1
  replace hw := hw.2
  refine r_last B hN hH (k2) (x := r2) q5 dL_append_8 ?_
  clear hH
  intro H locs hH
  obtain ⟨h6, eh6⟩ : ∃ z : PH, z = up2 h1 a2 (0 : Int32).toNatClampNeg r2 := ⟨_, rfl⟩
  rw [← eh6] at hH
  replace hw := hw h6 eh6
  refine lv_goto (tgt := 18) B.1 B.2.1 dL_append_9 (by decide) ?_
  refine lv_iconst (v := 0) B.1 B.2.1 dL_append_18 (by decide) ?_
  exact e_wi B hr hH hw dL_append_19 (Nat.le_of_ble_eq_true rfl) (Nat.le_of_ble_eq_true rfl)
theorem cy_L_load {s : State} {args : Array Value} (hG : GG s) : CYW s args yL_load cL_load 3 (some .int) [(0, 8, 11, 15)]  2 := CYW.of hG (fun _ _ hG => tw_455 hG) (tw_0 hG) (tw_454 hG) (by decide +kernel)
set_option maxRecDepth 100000 in
set_option maxHeartbeats 4000000 in
theorem ct_L_load {Z : ZT} (hZ : ZO Z) (l : Launch) (hl9 : l.stackTraces = false) (hN : zN Z = 352) (a0 : Nat) (a1 : Nat) (h : PH) (sz : Nat) (Q : Int32 → PH → Prop) (k0 : kd a0 = 1) (k1 : kd a1 = 12) (hw : wp_L_load a0 a1 h Q) : MW Z l yL_load cL_load 3 (some .int) [(0, 8, 11, 15)] ({ frames := 7, cells := 1, slots := 6, locals := 164 } : Room) h sz [.ref (zA Z a0), .ref (zA Z a1)] Q := by
  refine open_W hZ hl9 (by decide +kernel) (by exact Nat.le_of_ble_eq_true rfl) ?_
  intro p e s m below meth c B hr hsz ls hl hH hB hT
  subst hsz
  have hl : lv_has ls 3 [(0, .ref (zA Z a0)), (1, .ref (zA Z a1))] := hl
  unfold wp_L_load at hw
  refine lv_aload_n B.1 B.2.1 dL_load_0 rfl (lv_at hl 1 rfl) ?_
  refine lv_iconst (v := 0) B.1 B.2.1 dL_load_1 (by decide) ?_
  refine lv_aload_n B.1 B.2.1 dL_load_2 rfl (lv_at hl 0 rfl) ?_
  refine x_V_I (own := RL) (As := []) (rest := [.int 0, .ref (zA Z a1)]) B hH hB (cy_X7_load B.2.2.2.2.1) (ct_X7_load B.2.2.2.2.2.2.2 l hB.2.2.2 a0 h _ _ _ (k0) hw) ⟨⟨rfl, rfl⟩, Nat.le_of_ble_eq_true rfl, Nat.le_of_ble_eq_true rfl, Nat.le_of_ble_eq_true rfl, Nat.le_of_ble_eq_true rfl⟩ (rv_1 B hH (k0)) (tw_456 B.2.2.2.2.1) rfl hl.1 rfl (Nat.le_of_ble_eq_true rfl) dL_load_3 (fun E h q ce H locs hw hH hce hcv hcl => ?_) ?_
  · by_cases c3 : E = "java/lang/IllegalStateException"
    · replace hw := hw.1 c3
      subst c3
      refine vx_catch (own := RL) (name := "java/lang/IllegalStateException") B.2.2.2.1 [] ⟨0, 8, 11, 15⟩ [] hT (fun z hz => nomatch hz) (by decide) (by decide) (tw_356 B.2.2.2.2.1) (tw_435 B.2.2.2.2.1) hce hcv hcl ?_
      refine lv_astore_n (lv' := [(2, .ref q), (0, .ref (zA Z a0)), (1, .ref (zA Z a1))]) B.1 B.2.1 dL_load_11 rfl hl (by decide) (by first | rfl | simp [va_re_cat, Value.category]) ?_
      clear hl
      intro ls hl
      refine lv_iconst (v := 1) B.1 B.2.1 dL_load_12 (by decide) ?_
      exact e_wi B hr hH hw dL_load_13 (Nat.le_of_ble_eq_true rfl) (Nat.le_of_ble_eq_true rfl)
    · exact (hw.2 c3).elim
  clear hw hH
  intro r2 h1 H locs hw hH
  refine lv_i2l B.1 B.2.1 dL_load_6 rfl ?_
  have q4 := hw.1
  replace hw := hw.2
  refine r_last B hN hH (k1) (x := r2) q4 dL_load_7 ?_
  clear hH
  intro H locs hH
  obtain ⟨h5, eh5⟩ : ∃ z : PH, z = up2 h1 a1 (0 : Int32).toNatClampNeg r2 := ⟨_, rfl⟩
  rw [← eh5] at hH
  replace hw := hw h5 eh5
  refine lv_goto (tgt := 14) B.1 B.2.1 dL_load_8 (by decide) ?_
  refine lv_iconst (v := 0) B.1 B.2.1 dL_load_14 (by decide) ?_
  exact e_wi B hr hH hw dL_load_15 (Nat.le_of_ble_eq_true rfl) (Nat.le_of_ble_eq_true rfl)
theorem cy_L_about {s : State} {args : Array Value} (hG : GG s) : CYW s args yL_about cL_about 4 (some .int) [(0, 9, 12, 13)]  3 := CYW.of hG (fun _ _ hG => tw_601 hG) (tw_0 hG) (tw_600 hG) (by decide +kernel)
set_option maxRecDepth 100000 in
set_option maxHeartbeats 4000000 in
theorem ct_L_about {Z : ZT} (hZ : ZO Z) (l : Launch) (hl9 : l.stackTraces = false) (hN : zN Z = 352) (a0 : Nat) (a1 : Int32) (a2 : Nat) (h : PH) (sz : Nat) (Q : Int32 → PH → Prop) (k0 : kd a0 = 1) (k2 : kd a2 = 12) (hw : wp_L_about a0 a1 a2 h Q) : MW Z l yL_about cL_about 4 (some .int) [(0, 9, 12, 13)] ({ frames := 7, cells := 1, slots := 6, locals := 103 } : Room) h sz [.ref (zA Z a0), .int a1, .ref (zA Z a2)] Q := by
  refine open_W hZ hl9 (by decide +kernel) (by exact Nat.le_of_ble_eq_true rfl) ?_
  intro p e s m below meth c B hr hsz ls hl hH hB hT
  subst hsz
  have hl : lv_has ls 4 [(0, .ref (zA Z a0)), (1, .int a1), (2, .ref (zA Z a2))] := hl
  unfold wp_L_about at hw
  refine lv_aload_n B.1 B.2.1 dL_about_0 rfl (lv_at hl 2 rfl) ?_
  refine lv_iconst (v := 0) B.1 B.2.1 dL_about_1 (by decide) ?_
  refine lv_aload_n B.1 B.2.1 dL_about_2 rfl (lv_at hl 0 rfl) ?_
  refine lv_iload_n B.1 B.2.1 dL_about_3 rfl (lv_at hl 1 rfl) ?_
  refine x_V_I (own := RL) (As := [.int a1]) (rest := [.int 0, .ref (zA Z a2)]) B hH hB (cy_X7_about B.2.2.2.2.1) (ct_X7_about B.2.2.2.2.2.2.2 l hB.2.2.2 a0 a1 h _ _ _ (k0) hw) ⟨⟨rfl, rfl⟩, Nat.le_of_ble_eq_true rfl, Nat.le_of_ble_eq_true rfl, Nat.le_of_ble_eq_true rfl, Nat.le_of_ble_eq_true rfl⟩ (rv_1 B hH (k0)) (tw_602 B.2.2.2.2.1) rfl hl.1 rfl (Nat.le_of_ble_eq_true rfl) dL_about_4 (fun E h q ce H locs hw hH hce hcv hcl => ?_) ?_
  · by_cases c3 : E = "java/lang/IllegalArgumentException"
    · replace hw := hw.1 c3
      subst c3
      refine vx_catch (own := RL) (name := "java/lang/IllegalArgumentException") B.2.2.2.1 [] ⟨0, 9, 12, 13⟩ [] hT (fun z hz => nomatch hz) (by decide) (by decide) (tw_355 B.2.2.2.2.1) (tw_364 B.2.2.2.2.1) hce hcv hcl ?_
      refine lv_astore_n (lv' := [(3, .ref q), (0, .ref (zA Z a0)), (1, .int a1), (2, .ref (zA Z a2))]) B.1 B.2.1 dL_about_12 rfl hl (by decide) (by first | rfl | simp [va_re_cat, Value.category]) ?_
      clear hl
      intro ls hl
      refine lv_iconst (v := 1) B.1 B.2.1 dL_about_13 (by decide) ?_
      exact e_wi B hr hH hw dL_about_14 (Nat.le_of_ble_eq_true rfl) (Nat.le_of_ble_eq_true rfl)
    · exact (hw.2 c3).elim
  clear hw hH
  intro r2 h1 H locs hw hH
  refine lv_i2l B.1 B.2.1 dL_about_7 rfl ?_
  have q4 := hw.1
  replace hw := hw.2
  refine r_last B hN hH (k2) (x := r2) q4 dL_about_8 ?_
  clear hH
  intro H locs hH
  obtain ⟨h5, eh5⟩ : ∃ z : PH, z = up2 h1 a2 (0 : Int32).toNatClampNeg r2 := ⟨_, rfl⟩
  rw [← eh5] at hH
  replace hw := hw h5 eh5
  refine lv_goto (tgt := 15) B.1 B.2.1 dL_about_9 (by decide) ?_
  refine lv_iconst (v := 0) B.1 B.2.1 dL_about_15 (by decide) ?_
  exact e_wi B hr hH hw dL_about_16 (Nat.le_of_ble_eq_true rfl) (Nat.le_of_ble_eq_true rfl)
theorem cy_L_reelOf {s : State} {args : Array Value} (hG : GG s) : CYW s args yL_reelOf cL_reelOf 5 (some .int) [(0, 10, 13, 28), (0, 10, 17, 13)]  4 := CYW.of hG (fun _ _ hG => tw_622 hG) (tw_0 hG) (tw_621 hG) (by decide +kernel)
set_option maxRecDepth 100000 in
set_option maxHeartbeats 4000000 in
theorem ct_L_reelOf {Z : ZT} (hZ : ZO Z) (l : Launch) (hl9 : l.stackTraces = false) (hN : zN Z = 352) (a0 : Nat) (a1 : Int32) (a2 : Int32) (a3 : Nat) (h : PH) (sz : Nat) (Q : Int32 → PH → Prop) (k0 : kd a0 = 1) (k3 : kd a3 = 12) (hw : wp_L_reelOf a0 a1 a2 a3 h Q) : MW Z l yL_reelOf cL_reelOf 5 (some .int) [(0, 10, 13, 28), (0, 10, 17, 13)] ({ frames := 7, cells := 1, slots := 6, locals := 110 } : Room) h sz [.ref (zA Z a0), .int a1, .int a2, .ref (zA Z a3)] Q := by
  refine open_W hZ hl9 (by decide +kernel) (by exact Nat.le_of_ble_eq_true rfl) ?_
  intro p e s m below meth c B hr hsz ls hl hH hB hT
  subst hsz
  have hl : lv_has ls 5 [(0, .ref (zA Z a0)), (1, .int a1), (2, .int a2), (3, .ref (zA Z a3))] := hl
  unfold wp_L_reelOf at hw
  refine lv_aload_n B.1 B.2.1 dL_reelOf_0 rfl (lv_at hl 3 rfl) ?_
  refine lv_iconst (v := 0) B.1 B.2.1 dL_reelOf_1 (by decide) ?_
  refine lv_aload_n B.1 B.2.1 dL_reelOf_2 rfl (lv_at hl 0 rfl) ?_
  refine lv_iload_n B.1 B.2.1 dL_reelOf_3 rfl (lv_at hl 1 rfl) ?_
  refine lv_iload_n B.1 B.2.1 dL_reelOf_4 rfl (lv_at hl 2 rfl) ?_
  refine x_V_I (own := RL) (As := [.int a1, .int a2]) (rest := [.int 0, .ref (zA Z a3)]) B hH hB (cy_X7_reelOf B.2.2.2.2.1) (ct_X7_reelOf B.2.2.2.2.2.2.2 l hB.2.2.2 a0 a1 a2 h _ _ _ (k0) hw) ⟨⟨rfl, rfl⟩, Nat.le_of_ble_eq_true rfl, Nat.le_of_ble_eq_true rfl, Nat.le_of_ble_eq_true rfl, Nat.le_of_ble_eq_true rfl⟩ (rv_1 B hH (k0)) (tw_624 B.2.2.2.2.1) rfl hl.1 rfl (Nat.le_of_ble_eq_true rfl) dL_reelOf_5 (fun E h q ce H locs hw hH hce hcv hcl => ?_) ?_
  · by_cases c3 : E = "java/lang/IndexOutOfBoundsException"
    · replace hw := hw.1 c3
      subst c3
      refine vx_catch (own := RL) (name := "java/lang/IndexOutOfBoundsException") B.2.2.2.1 [] ⟨0, 10, 13, 28⟩ [⟨0, 10, 17, 13⟩] hT (fun z hz => nomatch hz) (by decide) (by decide) (tw_623 B.2.2.2.2.1) (tw_631 B.2.2.2.2.1) hce hcv hcl ?_
      refine lv_astore (lv' := [(4, .ref q), (0, .ref (zA Z a0)), (1, .int a1), (2, .int a2), (3, .ref (zA Z a3))]) B.1 B.2.1 dL_reelOf_13 hl (by decide) (by first | rfl | simp [va_re_cat, Value.category]) ?_
      clear hl
      intro ls hl
      refine lv_iconst (v := 1) B.1 B.2.1 dL_reelOf_15 (by decide) ?_
      exact e_wi B hr hH hw dL_reelOf_16 (Nat.le_of_ble_eq_true rfl) (Nat.le_of_ble_eq_true rfl)
    · by_cases c4 : E = "java/lang/IllegalArgumentException"
      · replace hw := hw.2.1 c4
        subst c4
        refine vx_catch (own := RL) (name := "java/lang/IllegalArgumentException") B.2.2.2.1 [⟨0, 10, 13, 28⟩] ⟨0, 10, 17, 13⟩ [] hT (fun z hz => by rw [List.mem_singleton.mp hz]; exact Or.inr ⟨by decide, "java/lang/IndexOutOfBoundsException", tw_623 B.2.2.2.2.1, hB.2.2.1.2.1⟩) (by decide) (by decide) (tw_355 B.2.2.2.2.1) (tw_364 B.2.2.2.2.1) hce hcv hcl ?_
        refine lv_astore (lv' := [(4, .ref q), (0, .ref (zA Z a0)), (1, .int a1), (2, .int a2), (3, .ref (zA Z a3))]) B.1 B.2.1 dL_reelOf_17 hl (by decide) (by first | rfl | simp [va_re_cat, Value.category]) ?_
        clear hl
        intro ls hl
        refine lv_iconst (v := 2) B.1 B.2.1 dL_reelOf_19 (by decide) ?_
        exact e_wi B hr hH hw dL_reelOf_20 (Nat.le_of_ble_eq_true rfl) (Nat.le_of_ble_eq_true rfl)
      · exact (hw.2.2 c3 c4).elim
  clear hw hH
  intro r2 h1 H locs hw hH
  refine lv_i2l B.1 B.2.1 dL_reelOf_8 rfl ?_
  have q5 := hw.1
  replace hw := hw.2
  refine r_last B hN hH (k3) (x := r2) q5 dL_reelOf_9 ?_
  clear hH
  intro H locs hH
  obtain ⟨h6, eh6⟩ : ∃ z : PH, z = up2 h1 a3 (0 : Int32).toNatClampNeg r2 := ⟨_, rfl⟩
  rw [← eh6] at hH
  replace hw := hw h6 eh6
  refine lv_goto (tgt := 21) B.1 B.2.1 dL_reelOf_10 (by decide) ?_
  refine lv_iconst (v := 0) B.1 B.2.1 dL_reelOf_21 (by decide) ?_
  exact e_wi B hr hH hw dL_reelOf_22 (Nat.le_of_ble_eq_true rfl) (Nat.le_of_ble_eq_true rfl)
theorem cy_L_sound {s : State} {args : Array Value} (hG : GG s) : CYW s args yL_sound cL_sound 5 (some .int) [(0, 10, 13, 28)]  4 := CYW.of hG (fun _ _ hG => tw_672 hG) (tw_0 hG) (tw_671 hG) (by decide +kernel)
set_option maxRecDepth 100000 in
set_option maxHeartbeats 4000000 in
theorem ct_L_sound {Z : ZT} (hZ : ZO Z) (l : Launch) (hl9 : l.stackTraces = false) (hN : zN Z = 352) (a0 : Nat) (a1 : Int32) (a2 : Int32) (a3 : Nat) (h : PH) (sz : Nat) (Q : Int32 → PH → Prop) (k0 : kd a0 = 1) (k3 : kd a3 = 12) (hw : wp_L_sound a0 a1 a2 a3 h Q) : MW Z l yL_sound cL_sound 5 (some .int) [(0, 10, 13, 28)] ({ frames := 7, cells := 1, slots := 6, locals := 105 } : Room) h sz [.ref (zA Z a0), .int a1, .int a2, .ref (zA Z a3)] Q := by
  refine open_W hZ hl9 (by decide +kernel) (by exact Nat.le_of_ble_eq_true rfl) ?_
  intro p e s m below meth c B hr hsz ls hl hH hB hT
  subst hsz
  have hl : lv_has ls 5 [(0, .ref (zA Z a0)), (1, .int a1), (2, .int a2), (3, .ref (zA Z a3))] := hl
  unfold wp_L_sound at hw
  refine lv_aload_n B.1 B.2.1 dL_sound_0 rfl (lv_at hl 3 rfl) ?_
  refine lv_iconst (v := 0) B.1 B.2.1 dL_sound_1 (by decide) ?_
  refine lv_aload_n B.1 B.2.1 dL_sound_2 rfl (lv_at hl 0 rfl) ?_
  refine lv_iload_n B.1 B.2.1 dL_sound_3 rfl (lv_at hl 1 rfl) ?_
  refine lv_iload_n B.1 B.2.1 dL_sound_4 rfl (lv_at hl 2 rfl) ?_
  refine x_V_I (own := RL) (As := [.int a1, .int a2]) (rest := [.int 0, .ref (zA Z a3)]) B hH hB (cy_X7_sound B.2.2.2.2.1) (ct_X7_sound B.2.2.2.2.2.2.2 l hB.2.2.2 a0 a1 a2 h _ _ _ (k0) hw) ⟨⟨rfl, rfl⟩, Nat.le_of_ble_eq_true rfl, Nat.le_of_ble_eq_true rfl, Nat.le_of_ble_eq_true rfl, Nat.le_of_ble_eq_true rfl⟩ (rv_1 B hH (k0)) (tw_673 B.2.2.2.2.1) rfl hl.1 rfl (Nat.le_of_ble_eq_true rfl) dL_sound_5 (fun E h q ce H locs hw hH hce hcv hcl => ?_) ?_
  · by_cases c3 : E = "java/lang/IndexOutOfBoundsException"
    · replace hw := hw.1 c3
      subst c3
      refine vx_catch (own := RL) (name := "java/lang/IndexOutOfBoundsException") B.2.2.2.1 [] ⟨0, 10, 13, 28⟩ [] hT (fun z hz => nomatch hz) (by decide) (by decide) (tw_623 B.2.2.2.2.1) (tw_631 B.2.2.2.2.1) hce hcv hcl ?_
      refine lv_astore (lv' := [(4, .ref q), (0, .ref (zA Z a0)), (1, .int a1), (2, .int a2), (3, .ref (zA Z a3))]) B.1 B.2.1 dL_sound_13 hl (by decide) (by first | rfl | simp [va_re_cat, Value.category]) ?_
      clear hl
      intro ls hl
      refine lv_iconst (v := 1) B.1 B.2.1 dL_sound_15 (by decide) ?_
      exact e_wi B hr hH hw dL_sound_16 (Nat.le_of_ble_eq_true rfl) (Nat.le_of_ble_eq_true rfl)
    · exact (hw.2 c3).elim
  clear hw hH
  intro r2 h1 H locs hw hH
  refine lv_i2l B.1 B.2.1 dL_sound_8 rfl ?_
  have q4 := hw.1
  replace hw := hw.2
  refine r_last B hN hH (k3) (x := r2) q4 dL_sound_9 ?_
  clear hH
  intro H locs hH
  obtain ⟨h5, eh5⟩ : ∃ z : PH, z = up2 h1 a3 (0 : Int32).toNatClampNeg r2 := ⟨_, rfl⟩
  rw [← eh5] at hH
  replace hw := hw h5 eh5
  refine lv_goto (tgt := 17) B.1 B.2.1 dL_sound_10 (by decide) ?_
  refine lv_iconst (v := 0) B.1 B.2.1 dL_sound_17 (by decide) ?_
  exact e_wi B hr hH hw dL_sound_18 (Nat.le_of_ble_eq_true rfl) (Nat.le_of_ble_eq_true rfl)
theorem cy_L_silence {s : State} {args : Array Value} (hG : GG s) : CYW s args yL_silence cL_silence 6 (some .int) [(0, 12, 15, 28), (0, 12, 19, 13)]  5 := CYW.of hG (fun _ _ hG => tw_682 hG) (tw_0 hG) (tw_681 hG) (by decide +kernel)
set_option maxRecDepth 100000 in
set_option maxHeartbeats 4000000 in
theorem ct_L_silence {Z : ZT} (hZ : ZO Z) (l : Launch) (hl9 : l.stackTraces = false) (hN : zN Z = 352) (a0 : Nat) (a1 : Int32) (a2 : Int32) (a3 : Int32) (a4 : Nat) (h : PH) (sz : Nat) (Q : Int32 → PH → Prop) (k0 : kd a0 = 1) (k4 : kd a4 = 12) (hw : wp_L_silence a0 a1 a2 a3 a4 h Q) : MW Z l yL_silence cL_silence 6 (some .int) [(0, 12, 15, 28), (0, 12, 19, 13)] ({ frames := 7, cells := 1, slots := 6, locals := 113 } : Room) h sz [.ref (zA Z a0), .int a1, .int a2, .int a3, .ref (zA Z a4)] Q := by
  refine open_W hZ hl9 (by decide +kernel) (by exact Nat.le_of_ble_eq_true rfl) ?_
  intro p e s m below meth c B hr hsz ls hl hH hB hT
  subst hsz
  have hl : lv_has ls 6 [(0, .ref (zA Z a0)), (1, .int a1), (2, .int a2), (3, .int a3), (4, .ref (zA Z a4))] := hl
  unfold wp_L_silence at hw
  refine lv_aload B.1 B.2.1 dL_silence_0 (lv_at hl 4 rfl) ?_
  refine lv_iconst (v := 0) B.1 B.2.1 dL_silence_2 (by decide) ?_
  refine lv_aload_n B.1 B.2.1 dL_silence_3 rfl (lv_at hl 0 rfl) ?_
  refine lv_iload_n B.1 B.2.1 dL_silence_4 rfl (lv_at hl 1 rfl) ?_
  refine lv_iload_n B.1 B.2.1 dL_silence_5 rfl (lv_at hl 2 rfl) ?_
  refine lv_iload_n B.1 B.2.1 dL_silence_6 rfl (lv_at hl 3 rfl) ?_
  refine x_V_I (own := RL) (As := [.int a1, .int a2, .int a3]) (rest := [.int 0, .ref (zA Z a4)]) B hH hB (cy_X7_silence B.2.2.2.2.1) (ct_X7_silence B.2.2.2.2.2.2.2 l hB.2.2.2 a0 a1 a2 a3 h _ _ _ (k0) hw) ⟨⟨rfl, rfl⟩, Nat.le_of_ble_eq_true rfl, Nat.le_of_ble_eq_true rfl, Nat.le_of_ble_eq_true rfl, Nat.le_of_ble_eq_true rfl⟩ (rv_1 B hH (k0)) (tw_683 B.2.2.2.2.1) rfl hl.1 rfl (Nat.le_of_ble_eq_true rfl) dL_silence_7 (fun E h q ce H locs hw hH hce hcv hcl => ?_) ?_
  · by_cases c3 : E = "java/lang/IndexOutOfBoundsException"
    · replace hw := hw.1 c3
      subst c3
      refine vx_catch (own := RL) (name := "java/lang/IndexOutOfBoundsException") B.2.2.2.1 [] ⟨0, 12, 15, 28⟩ [⟨0, 12, 19, 13⟩] hT (fun z hz => nomatch hz) (by decide) (by decide) (tw_623 B.2.2.2.2.1) (tw_631 B.2.2.2.2.1) hce hcv hcl ?_
      refine lv_astore (lv' := [(5, .ref q), (0, .ref (zA Z a0)), (1, .int a1), (2, .int a2), (3, .int a3), (4, .ref (zA Z a4))]) B.1 B.2.1 dL_silence_15 hl (by decide) (by first | rfl | simp [va_re_cat, Value.category]) ?_
      clear hl
      intro ls hl
      refine lv_iconst (v := 1) B.1 B.2.1 dL_silence_17 (by decide) ?_
      exact e_wi B hr hH hw dL_silence_18 (Nat.le_of_ble_eq_true rfl) (Nat.le_of_ble_eq_true rfl)
    · by_cases c4 : E = "java/lang/IllegalArgumentException"
      · replace hw := hw.2.1 c4
        subst c4
        refine vx_catch (own := RL) (name := "java/lang/IllegalArgumentException") B.2.2.2.1 [⟨0, 12, 15, 28⟩] ⟨0, 12, 19, 13⟩ [] hT (fun z hz => by rw [List.mem_singleton.mp hz]; exact Or.inr ⟨by decide, "java/lang/IndexOutOfBoundsException", tw_623 B.2.2.2.2.1, hB.2.2.1.2.1⟩) (by decide) (by decide) (tw_355 B.2.2.2.2.1) (tw_364 B.2.2.2.2.1) hce hcv hcl ?_
        refine lv_astore (lv' := [(5, .ref q), (0, .ref (zA Z a0)), (1, .int a1), (2, .int a2), (3, .int a3), (4, .ref (zA Z a4))]) B.1 B.2.1 dL_silence_19 hl (by decide) (by first | rfl | simp [va_re_cat, Value.category]) ?_
        clear hl
        intro ls hl
        refine lv_iconst (v := 2) B.1 B.2.1 dL_silence_21 (by decide) ?_
        exact e_wi B hr hH hw dL_silence_22 (Nat.le_of_ble_eq_true rfl) (Nat.le_of_ble_eq_true rfl)
      · exact (hw.2.2 c3 c4).elim
  clear hw hH
  intro r2 h1 H locs hw hH
  refine lv_i2l B.1 B.2.1 dL_silence_10 rfl ?_
  have q5 := hw.1
  replace hw := hw.2
  refine r_last B hN hH (k4) (x := r2) q5 dL_silence_11 ?_
  clear hH
  intro H locs hH
  obtain ⟨h6, eh6⟩ : ∃ z : PH, z = up2 h1 a4 (0 : Int32).toNatClampNeg r2 := ⟨_, rfl⟩
  rw [← eh6] at hH
  replace hw := hw h6 eh6
  refine lv_goto (tgt := 23) B.1 B.2.1 dL_silence_12 (by decide) ?_
  refine lv_iconst (v := 0) B.1 B.2.1 dL_silence_23 (by decide) ?_
  exact e_wi B hr hH hw dL_silence_24 (Nat.le_of_ble_eq_true rfl) (Nat.le_of_ble_eq_true rfl)
theorem cy_L_piece {s : State} {args : Array Value} (hG : GG s) : CYW s args yL_piece cL_piece 6 (some .int) [(0, 12, 15, 28), (0, 12, 19, 13)]  5 := CYW.of hG (fun _ _ hG => tw_700 hG) (tw_0 hG) (tw_699 hG) (by decide +kernel)
set_option maxRecDepth 100000 in
set_option maxHeartbeats 4000000 in
theorem ct_L_piece {Z : ZT} (hZ : ZO Z) (l : Launch) (hl9 : l.stackTraces = false) (hN : zN Z = 352) (a0 : Nat) (a1 : Int32) (a2 : Int32) (a3 : Int32) (a4 : Nat) (h : PH) (sz : Nat) (Q : Int32 → PH → Prop) (k0 : kd a0 = 1) (k4 : kd a4 = 12) (hw : wp_L_piece a0 a1 a2 a3 a4 h Q) : MW Z l yL_piece cL_piece 6 (some .int) [(0, 12, 15, 28), (0, 12, 19, 13)] ({ frames := 7, cells := 1, slots := 6, locals := 113 } : Room) h sz [.ref (zA Z a0), .int a1, .int a2, .int a3, .ref (zA Z a4)] Q := by
  refine open_W hZ hl9 (by decide +kernel) (by exact Nat.le_of_ble_eq_true rfl) ?_
  intro p e s m below meth c B hr hsz ls hl hH hB hT
  subst hsz
  have hl : lv_has ls 6 [(0, .ref (zA Z a0)), (1, .int a1), (2, .int a2), (3, .int a3), (4, .ref (zA Z a4))] := hl
  unfold wp_L_piece at hw
  refine lv_aload B.1 B.2.1 dL_piece_0 (lv_at hl 4 rfl) ?_
  refine lv_iconst (v := 0) B.1 B.2.1 dL_piece_2 (by decide) ?_
  refine lv_aload_n B.1 B.2.1 dL_piece_3 rfl (lv_at hl 0 rfl) ?_
  refine lv_iload_n B.1 B.2.1 dL_piece_4 rfl (lv_at hl 1 rfl) ?_
  refine lv_iload_n B.1 B.2.1 dL_piece_5 rfl (lv_at hl 2 rfl) ?_
  refine lv_iload_n B.1 B.2.1 dL_piece_6 rfl (lv_at hl 3 rfl) ?_
  refine x_V_I (own := RL) (As := [.int a1, .int a2, .int a3]) (rest := [.int 0, .ref (zA Z a4)]) B hH hB (cy_X7_piece B.2.2.2.2.1) (ct_X7_piece B.2.2.2.2.2.2.2 l hB.2.2.2 a0 a1 a2 a3 h _ _ _ (k0) hw) ⟨⟨rfl, rfl⟩, Nat.le_of_ble_eq_true rfl, Nat.le_of_ble_eq_true rfl, Nat.le_of_ble_eq_true rfl, Nat.le_of_ble_eq_true rfl⟩ (rv_1 B hH (k0)) (tw_701 B.2.2.2.2.1) rfl hl.1 rfl (Nat.le_of_ble_eq_true rfl) dL_piece_7 (fun E h q ce H locs hw hH hce hcv hcl => ?_) ?_
  · by_cases c3 : E = "java/lang/IndexOutOfBoundsException"
    · replace hw := hw.1 c3
      subst c3
      refine vx_catch (own := RL) (name := "java/lang/IndexOutOfBoundsException") B.2.2.2.1 [] ⟨0, 12, 15, 28⟩ [⟨0, 12, 19, 13⟩] hT (fun z hz => nomatch hz) (by decide) (by decide) (tw_623 B.2.2.2.2.1) (tw_631 B.2.2.2.2.1) hce hcv hcl ?_
      refine lv_astore (lv' := [(5, .ref q), (0, .ref (zA Z a0)), (1, .int a1), (2, .int a2), (3, .int a3), (4, .ref (zA Z a4))]) B.1 B.2.1 dL_piece_15 hl (by decide) (by first | rfl | simp [va_re_cat, Value.category]) ?_
      clear hl
      intro ls hl
      refine lv_iconst (v := 1) B.1 B.2.1 dL_piece_17 (by decide) ?_
      exact e_wi B hr hH hw dL_piece_18 (Nat.le_of_ble_eq_true rfl) (Nat.le_of_ble_eq_true rfl)
    · by_cases c4 : E = "java/lang/IllegalArgumentException"
      · replace hw := hw.2.1 c4
        subst c4
        refine vx_catch (own := RL) (name := "java/lang/IllegalArgumentException") B.2.2.2.1 [⟨0, 12, 15, 28⟩] ⟨0, 12, 19, 13⟩ [] hT (fun z hz => by rw [List.mem_singleton.mp hz]; exact Or.inr ⟨by decide, "java/lang/IndexOutOfBoundsException", tw_623 B.2.2.2.2.1, hB.2.2.1.2.1⟩) (by decide) (by decide) (tw_355 B.2.2.2.2.1) (tw_364 B.2.2.2.2.1) hce hcv hcl ?_
        refine lv_astore (lv' := [(5, .ref q), (0, .ref (zA Z a0)), (1, .int a1), (2, .int a2), (3, .int a3), (4, .ref (zA Z a4))]) B.1 B.2.1 dL_piece_19 hl (by decide) (by first | rfl | simp [va_re_cat, Value.category]) ?_
        clear hl
        intro ls hl
        refine lv_iconst (v := 2) B.1 B.2.1 dL_piece_21 (by decide) ?_
        exact e_wi B hr hH hw dL_piece_22 (Nat.le_of_ble_eq_true rfl) (Nat.le_of_ble_eq_true rfl)
      · exact (hw.2.2 c3 c4).elim
  clear hw hH
  intro r2 h1 H locs hw hH
  refine lv_i2l B.1 B.2.1 dL_piece_10 rfl ?_
  have q5 := hw.1
  replace hw := hw.2
  refine r_last B hN hH (k4) (x := r2) q5 dL_piece_11 ?_
  clear hH
  intro H locs hH
  obtain ⟨h6, eh6⟩ : ∃ z : PH, z = up2 h1 a4 (0 : Int32).toNatClampNeg r2 := ⟨_, rfl⟩
  rw [← eh6] at hH
  replace hw := hw h6 eh6
  refine lv_goto (tgt := 23) B.1 B.2.1 dL_piece_12 (by decide) ?_
  refine lv_iconst (v := 0) B.1 B.2.1 dL_piece_23 (by decide) ?_
  exact e_wi B hr hH hw dL_piece_24 (Nat.le_of_ble_eq_true rfl) (Nat.le_of_ble_eq_true rfl)
theorem cy_L_loopOf {s : State} {args : Array Value} (hG : GG s) : CYW s args yL_loopOf cL_loopOf 5 (some .int) [(0, 10, 13, 28), (0, 10, 17, 13)]  4 := CYW.of hG (fun _ _ hG => tw_712 hG) (tw_0 hG) (tw_711 hG) (by decide +kernel)
set_option maxRecDepth 100000 in
set_option maxHeartbeats 4000000 in
theorem ct_L_loopOf {Z : ZT} (hZ : ZO Z) (l : Launch) (hl9 : l.stackTraces = false) (hN : zN Z = 352) (a0 : Nat) (a1 : Int32) (a2 : Int32) (a3 : Nat) (h : PH) (sz : Nat) (Q : Int32 → PH → Prop) (k0 : kd a0 = 1) (k3 : kd a3 = 12) (hw : wp_L_loopOf a0 a1 a2 a3 h Q) : MW Z l yL_loopOf cL_loopOf 5 (some .int) [(0, 10, 13, 28), (0, 10, 17, 13)] ({ frames := 7, cells := 1, slots := 6, locals := 105 } : Room) h sz [.ref (zA Z a0), .int a1, .int a2, .ref (zA Z a3)] Q := by
  refine open_W hZ hl9 (by decide +kernel) (by exact Nat.le_of_ble_eq_true rfl) ?_
  intro p e s m below meth c B hr hsz ls hl hH hB hT
  subst hsz
  have hl : lv_has ls 5 [(0, .ref (zA Z a0)), (1, .int a1), (2, .int a2), (3, .ref (zA Z a3))] := hl
  unfold wp_L_loopOf at hw
  refine lv_aload_n B.1 B.2.1 dL_loopOf_0 rfl (lv_at hl 3 rfl) ?_
  refine lv_iconst (v := 0) B.1 B.2.1 dL_loopOf_1 (by decide) ?_
  refine lv_aload_n B.1 B.2.1 dL_loopOf_2 rfl (lv_at hl 0 rfl) ?_
  refine lv_iload_n B.1 B.2.1 dL_loopOf_3 rfl (lv_at hl 1 rfl) ?_
  refine lv_iload_n B.1 B.2.1 dL_loopOf_4 rfl (lv_at hl 2 rfl) ?_
  refine x_V_I (own := RL) (As := [.int a1, .int a2]) (rest := [.int 0, .ref (zA Z a3)]) B hH hB (cy_X7_loopOf B.2.2.2.2.1) (ct_X7_loopOf B.2.2.2.2.2.2.2 l hB.2.2.2 a0 a1 a2 h _ _ _ (k0) hw) ⟨⟨rfl, rfl⟩, Nat.le_of_ble_eq_true rfl, Nat.le_of_ble_eq_true rfl, Nat.le_of_ble_eq_true rfl, Nat.le_of_ble_eq_true rfl⟩ (rv_1 B hH (k0)) (tw_713 B.2.2.2.2.1) rfl hl.1 rfl (Nat.le_of_ble_eq_true rfl) dL_loopOf_5 (fun E h q ce H locs hw hH hce hcv hcl => ?_) ?_
  · by_cases c3 : E = "java/lang/IndexOutOfBoundsException"
    · replace hw := hw.1 c3
      subst c3
      refine vx_catch (own := RL) (name := "java/lang/IndexOutOfBoundsException") B.2.2.2.1 [] ⟨0, 10, 13, 28⟩ [⟨0, 10, 17, 13⟩] hT (fun z hz => nomatch hz) (by decide) (by decide) (tw_623 B.2.2.2.2.1) (tw_631 B.2.2.2.2.1) hce hcv hcl ?_
      refine lv_astore (lv' := [(4, .ref q), (0, .ref (zA Z a0)), (1, .int a1), (2, .int a2), (3, .ref (zA Z a3))]) B.1 B.2.1 dL_loopOf_13 hl (by decide) (by first | rfl | simp [va_re_cat, Value.category]) ?_
      clear hl
      intro ls hl
      refine lv_iconst (v := 1) B.1 B.2.1 dL_loopOf_15 (by decide) ?_
      exact e_wi B hr hH hw dL_loopOf_16 (Nat.le_of_ble_eq_true rfl) (Nat.le_of_ble_eq_true rfl)
    · by_cases c4 : E = "java/lang/IllegalArgumentException"
      · replace hw := hw.2.1 c4
        subst c4
        refine vx_catch (own := RL) (name := "java/lang/IllegalArgumentException") B.2.2.2.1 [⟨0, 10, 13, 28⟩] ⟨0, 10, 17, 13⟩ [] hT (fun z hz => by rw [List.mem_singleton.mp hz]; exact Or.inr ⟨by decide, "java/lang/IndexOutOfBoundsException", tw_623 B.2.2.2.2.1, hB.2.2.1.2.1⟩) (by decide) (by decide) (tw_355 B.2.2.2.2.1) (tw_364 B.2.2.2.2.1) hce hcv hcl ?_
        refine lv_astore (lv' := [(4, .ref q), (0, .ref (zA Z a0)), (1, .int a1), (2, .int a2), (3, .ref (zA Z a3))]) B.1 B.2.1 dL_loopOf_17 hl (by decide) (by first | rfl | simp [va_re_cat, Value.category]) ?_
        clear hl
        intro ls hl
        refine lv_iconst (v := 2) B.1 B.2.1 dL_loopOf_19 (by decide) ?_
        exact e_wi B hr hH hw dL_loopOf_20 (Nat.le_of_ble_eq_true rfl) (Nat.le_of_ble_eq_true rfl)
      · exact (hw.2.2 c3 c4).elim
  clear hw hH
  intro r2 h1 H locs hw hH
  refine lv_i2l B.1 B.2.1 dL_loopOf_8 rfl ?_
  have q5 := hw.1
  replace hw := hw.2
  refine r_last B hN hH (k3) (x := r2) q5 dL_loopOf_9 ?_
  clear hH
  intro H locs hH
  obtain ⟨h6, eh6⟩ : ∃ z : PH, z = up2 h1 a3 (0 : Int32).toNatClampNeg r2 := ⟨_, rfl⟩
  rw [← eh6] at hH
  replace hw := hw h6 eh6
  refine lv_goto (tgt := 21) B.1 B.2.1 dL_loopOf_10 (by decide) ?_
  refine lv_iconst (v := 0) B.1 B.2.1 dL_loopOf_21 (by decide) ?_
  exact e_wi B hr hH hw dL_loopOf_22 (Nat.le_of_ble_eq_true rfl) (Nat.le_of_ble_eq_true rfl)
theorem cy_L_cell {s : State} {args : Array Value} (hG : GG s) : CYW s args yL_cell cL_cell 5 (some .int) [(0, 10, 13, 28)]  4 := CYW.of hG (fun _ _ hG => tw_723 hG) (tw_0 hG) (tw_722 hG) (by decide +kernel)
set_option maxRecDepth 100000 in
set_option maxHeartbeats 4000000 in
theorem ct_L_cell {Z : ZT} (hZ : ZO Z) (l : Launch) (hl9 : l.stackTraces = false) (hN : zN Z = 352) (a0 : Nat) (a1 : Int32) (a2 : Int32) (a3 : Nat) (h : PH) (sz : Nat) (Q : Int32 → PH → Prop) (k0 : kd a0 = 1) (k3 : kd a3 = 12) (hw : wp_L_cell a0 a1 a2 a3 h Q) : MW Z l yL_cell cL_cell 5 (some .int) [(0, 10, 13, 28)] ({ frames := 7, cells := 1, slots := 6, locals := 105 } : Room) h sz [.ref (zA Z a0), .int a1, .int a2, .ref (zA Z a3)] Q := by
  refine open_W hZ hl9 (by decide +kernel) (by exact Nat.le_of_ble_eq_true rfl) ?_
  intro p e s m below meth c B hr hsz ls hl hH hB hT
  subst hsz
  have hl : lv_has ls 5 [(0, .ref (zA Z a0)), (1, .int a1), (2, .int a2), (3, .ref (zA Z a3))] := hl
  unfold wp_L_cell at hw
  refine lv_aload_n B.1 B.2.1 dL_cell_0 rfl (lv_at hl 3 rfl) ?_
  refine lv_iconst (v := 0) B.1 B.2.1 dL_cell_1 (by decide) ?_
  refine lv_aload_n B.1 B.2.1 dL_cell_2 rfl (lv_at hl 0 rfl) ?_
  refine lv_iload_n B.1 B.2.1 dL_cell_3 rfl (lv_at hl 1 rfl) ?_
  refine lv_iload_n B.1 B.2.1 dL_cell_4 rfl (lv_at hl 2 rfl) ?_
  refine x_V_I (own := RL) (As := [.int a1, .int a2]) (rest := [.int 0, .ref (zA Z a3)]) B hH hB (cy_X7_cell B.2.2.2.2.1) (ct_X7_cell B.2.2.2.2.2.2.2 l hB.2.2.2 a0 a1 a2 h _ _ _ (k0) hw) ⟨⟨rfl, rfl⟩, Nat.le_of_ble_eq_true rfl, Nat.le_of_ble_eq_true rfl, Nat.le_of_ble_eq_true rfl, Nat.le_of_ble_eq_true rfl⟩ (rv_1 B hH (k0)) (tw_724 B.2.2.2.2.1) rfl hl.1 rfl (Nat.le_of_ble_eq_true rfl) dL_cell_5 (fun E h q ce H locs hw hH hce hcv hcl => ?_) ?_
  · by_cases c3 : E = "java/lang/IndexOutOfBoundsException"
    · replace hw := hw.1 c3
      subst c3
      refine vx_catch (own := RL) (name := "java/lang/IndexOutOfBoundsException") B.2.2.2.1 [] ⟨0, 10, 13, 28⟩ [] hT (fun z hz => nomatch hz) (by decide) (by decide) (tw_623 B.2.2.2.2.1) (tw_631 B.2.2.2.2.1) hce hcv hcl ?_
      refine lv_astore (lv' := [(4, .ref q), (0, .ref (zA Z a0)), (1, .int a1), (2, .int a2), (3, .ref (zA Z a3))]) B.1 B.2.1 dL_cell_13 hl (by decide) (by first | rfl | simp [va_re_cat, Value.category]) ?_
      clear hl
      intro ls hl
      refine lv_iconst (v := 1) B.1 B.2.1 dL_cell_15 (by decide) ?_
      exact e_wi B hr hH hw dL_cell_16 (Nat.le_of_ble_eq_true rfl) (Nat.le_of_ble_eq_true rfl)
    · exact (hw.2 c3).elim
  clear hw hH
  intro r2 h1 H locs hw hH
  refine lv_i2l B.1 B.2.1 dL_cell_8 rfl ?_
  have q4 := hw.1
  replace hw := hw.2
  refine r_last B hN hH (k3) (x := r2) q4 dL_cell_9 ?_
  clear hH
  intro H locs hH
  obtain ⟨h5, eh5⟩ : ∃ z : PH, z = up2 h1 a3 (0 : Int32).toNatClampNeg r2 := ⟨_, rfl⟩
  rw [← eh5] at hH
  replace hw := hw h5 eh5
  refine lv_goto (tgt := 17) B.1 B.2.1 dL_cell_10 (by decide) ?_
  refine lv_iconst (v := 0) B.1 B.2.1 dL_cell_17 (by decide) ?_
  exact e_wi B hr hH hw dL_cell_18 (Nat.le_of_ble_eq_true rfl) (Nat.le_of_ble_eq_true rfl)
theorem cy_L_reel {s : State} {args : Array Value} (hG : GG s) : CYW s args yL_reel cL_reel 4 (some .int) [(0, 9, 12, 13), (0, 9, 15, 15)]  3 := CYW.of hG (fun _ _ hG => tw_731 hG) (tw_0 hG) (tw_730 hG) (by decide +kernel)
set_option maxRecDepth 100000 in
set_option maxHeartbeats 4000000 in
theorem ct_L_reel {Z : ZT} (hZ : ZO Z) (l : Launch) (hl9 : l.stackTraces = false) (hN : zN Z = 352) (a0 : Nat) (a1 : Int32) (a2 : Nat) (h : PH) (sz : Nat) (Q : Int32 → PH → Prop) (k0 : kd a0 = 1) (k2 : kd a2 = 12) (hw : wp_L_reel a0 a1 a2 h Q) : MW Z l yL_reel cL_reel 4 (some .int) [(0, 9, 12, 13), (0, 9, 15, 15)] ({ frames := 9, cells := 1, slots := 6, locals := 163 } : Room) h sz [.ref (zA Z a0), .int a1, .ref (zA Z a2)] Q := by
  refine open_W hZ hl9 (by decide +kernel) (by exact Nat.le_of_ble_eq_true rfl) ?_
  intro p e s m below meth c B hr hsz ls hl hH hB hT
  subst hsz
  have hl : lv_has ls 4 [(0, .ref (zA Z a0)), (1, .int a1), (2, .ref (zA Z a2))] := hl
  unfold wp_L_reel at hw
  refine lv_aload_n B.1 B.2.1 dL_reel_0 rfl (lv_at hl 2 rfl) ?_
  refine lv_iconst (v := 0) B.1 B.2.1 dL_reel_1 (by decide) ?_
  refine lv_aload_n B.1 B.2.1 dL_reel_2 rfl (lv_at hl 0 rfl) ?_
  refine lv_iload_n B.1 B.2.1 dL_reel_3 rfl (lv_at hl 1 rfl) ?_
  refine x_V_I (own := RL) (As := [.int a1]) (rest := [.int 0, .ref (zA Z a2)]) B hH hB (cy_X7_reel B.2.2.2.2.1) (ct_X7_reel B.2.2.2.2.2.2.2 l hB.2.2.2 a0 a1 h _ _ _ (k0) hw) ⟨⟨rfl, rfl⟩, Nat.le_of_ble_eq_true rfl, Nat.le_of_ble_eq_true rfl, Nat.le_of_ble_eq_true rfl, Nat.le_of_ble_eq_true rfl⟩ (rv_1 B hH (k0)) (tw_732 B.2.2.2.2.1) rfl hl.1 rfl (Nat.le_of_ble_eq_true rfl) dL_reel_4 (fun E h q ce H locs hw hH hce hcv hcl => ?_) ?_
  · by_cases c3 : E = "java/lang/IllegalArgumentException"
    · replace hw := hw.1 c3
      subst c3
      refine vx_catch (own := RL) (name := "java/lang/IllegalArgumentException") B.2.2.2.1 [] ⟨0, 9, 12, 13⟩ [⟨0, 9, 15, 15⟩] hT (fun z hz => nomatch hz) (by decide) (by decide) (tw_355 B.2.2.2.2.1) (tw_364 B.2.2.2.2.1) hce hcv hcl ?_
      refine lv_astore_n (lv' := [(3, .ref q), (0, .ref (zA Z a0)), (1, .int a1), (2, .ref (zA Z a2))]) B.1 B.2.1 dL_reel_12 rfl hl (by decide) (by first | rfl | simp [va_re_cat, Value.category]) ?_
      clear hl
      intro ls hl
      refine lv_iconst (v := 1) B.1 B.2.1 dL_reel_13 (by decide) ?_
      exact e_wi B hr hH hw dL_reel_14 (Nat.le_of_ble_eq_true rfl) (Nat.le_of_ble_eq_true rfl)
    · by_cases c4 : E = "java/lang/IllegalStateException"
      · replace hw := hw.2.1 c4
        subst c4
        refine vx_catch (own := RL) (name := "java/lang/IllegalStateException") B.2.2.2.1 [⟨0, 9, 12, 13⟩] ⟨0, 9, 15, 15⟩ [] hT (fun z hz => by rw [List.mem_singleton.mp hz]; exact Or.inr ⟨by decide, "java/lang/IllegalArgumentException", tw_355 B.2.2.2.2.1, hB.2.2.1.1⟩) (by decide) (by decide) (tw_356 B.2.2.2.2.1) (tw_435 B.2.2.2.2.1) hce hcv hcl ?_
        refine lv_astore_n (lv' := [(3, .ref q), (0, .ref (zA Z a0)), (1, .int a1), (2, .ref (zA Z a2))]) B.1 B.2.1 dL_reel_15 rfl hl (by decide) (by first | rfl | simp [va_re_cat, Value.category]) ?_
        clear hl
        intro ls hl
        refine lv_iconst (v := 2) B.1 B.2.1 dL_reel_16 (by decide) ?_
        exact e_wi B hr hH hw dL_reel_17 (Nat.le_of_ble_eq_true rfl) (Nat.le_of_ble_eq_true rfl)
      · exact (hw.2.2 c3 c4).elim
  clear hw hH
  intro r2 h1 H locs hw hH
  refine lv_i2l B.1 B.2.1 dL_reel_7 rfl ?_
  have q5 := hw.1
  replace hw := hw.2
  refine r_last B hN hH (k2) (x := r2) q5 dL_reel_8 ?_
  clear hH
  intro H locs hH
  obtain ⟨h6, eh6⟩ : ∃ z : PH, z = up2 h1 a2 (0 : Int32).toNatClampNeg r2 := ⟨_, rfl⟩
  rw [← eh6] at hH
  replace hw := hw h6 eh6
  refine lv_goto (tgt := 18) B.1 B.2.1 dL_reel_9 (by decide) ?_
  refine lv_iconst (v := 0) B.1 B.2.1 dL_reel_18 (by decide) ?_
  exact e_wi B hr hH hw dL_reel_19 (Nat.le_of_ble_eq_true rfl) (Nat.le_of_ble_eq_true rfl)
theorem cy_L_paint {s : State} {args : Array Value} (hG : GG s) : CYW s args yL_paint cL_paint 7 (some .int) [(0, 14, 17, 28), (0, 14, 21, 13)]  6 := CYW.of hG (fun _ _ hG => tw_781 hG) (tw_0 hG) (tw_780 hG) (by decide +kernel)
set_option maxRecDepth 100000 in
set_option maxHeartbeats 4000000 in
theorem ct_L_paint {Z : ZT} (hZ : ZO Z) (l : Launch) (hl9 : l.stackTraces = false) (hN : zN Z = 352) (a0 : Nat) (a1 : Int32) (a2 : Int32) (a3 : Int32) (a4 : Int32) (a5 : Nat) (h : PH) (sz : Nat) (Q : Int32 → PH → Prop) (k0 : kd a0 = 1) (k5 : kd a5 = 12) (hw : wp_L_paint a0 a1 a2 a3 a4 a5 h Q) : MW Z l yL_paint cL_paint 7 (some .int) [(0, 14, 17, 28), (0, 14, 21, 13)] ({ frames := 9, cells := 1, slots := 6, locals := 166 } : Room) h sz [.ref (zA Z a0), .int a1, .int a2, .int a3, .int a4, .ref (zA Z a5)] Q := by
  refine open_W hZ hl9 (by decide +kernel) (by exact Nat.le_of_ble_eq_true rfl) ?_
  intro p e s m below meth c B hr hsz ls hl hH hB hT
  subst hsz
  have hl : lv_has ls 7 [(0, .ref (zA Z a0)), (1, .int a1), (2, .int a2), (3, .int a3), (4, .int a4), (5, .ref (zA Z a5))] := hl
  unfold wp_L_paint at hw
  refine lv_aload B.1 B.2.1 dL_paint_0 (lv_at hl 5 rfl) ?_
  refine lv_iconst (v := 0) B.1 B.2.1 dL_paint_2 (by decide) ?_
  refine lv_aload_n B.1 B.2.1 dL_paint_3 rfl (lv_at hl 0 rfl) ?_
  refine lv_iload_n B.1 B.2.1 dL_paint_4 rfl (lv_at hl 1 rfl) ?_
  refine lv_iload_n B.1 B.2.1 dL_paint_5 rfl (lv_at hl 2 rfl) ?_
  refine lv_iload_n B.1 B.2.1 dL_paint_6 rfl (lv_at hl 3 rfl) ?_
  refine lv_iload B.1 B.2.1 dL_paint_7 (lv_at hl 4 rfl) ?_
  refine x_V_I (own := RL) (As := [.int a1, .int a2, .int a3, .int a4]) (rest := [.int 0, .ref (zA Z a5)]) B hH hB (cy_X7_paint B.2.2.2.2.1) (ct_X7_paint B.2.2.2.2.2.2.2 l hB.2.2.2 a0 a1 a2 a3 a4 h _ _ _ (k0) hw) ⟨⟨rfl, rfl⟩, Nat.le_of_ble_eq_true rfl, Nat.le_of_ble_eq_true rfl, Nat.le_of_ble_eq_true rfl, Nat.le_of_ble_eq_true rfl⟩ (rv_1 B hH (k0)) (tw_782 B.2.2.2.2.1) rfl hl.1 rfl (Nat.le_of_ble_eq_true rfl) dL_paint_9 (fun E h q ce H locs hw hH hce hcv hcl => ?_) ?_
  · by_cases c3 : E = "java/lang/IndexOutOfBoundsException"
    · replace hw := hw.1 c3
      subst c3
      refine vx_catch (own := RL) (name := "java/lang/IndexOutOfBoundsException") B.2.2.2.1 [] ⟨0, 14, 17, 28⟩ [⟨0, 14, 21, 13⟩] hT (fun z hz => nomatch hz) (by decide) (by decide) (tw_623 B.2.2.2.2.1) (tw_631 B.2.2.2.2.1) hce hcv hcl ?_
      refine lv_astore (lv' := [(6, .ref q), (0, .ref (zA Z a0)), (1, .int a1), (2, .int a2), (3, .int a3), (4, .int a4), (5, .ref (zA Z a5))]) B.1 B.2.1 dL_paint_17 hl (by decide) (by first | rfl | simp [va_re_cat, Value.category]) ?_
      clear hl
      intro ls hl
      refine lv_iconst (v := 1) B.1 B.2.1 dL_paint_19 (by decide) ?_
      exact e_wi B hr hH hw dL_paint_20 (Nat.le_of_ble_eq_true rfl) (Nat.le_of_ble_eq_true rfl)
    · by_cases c4 : E = "java/lang/IllegalArgumentException"
      · replace hw := hw.2.1 c4
        subst c4
        refine vx_catch (own := RL) (name := "java/lang/IllegalArgumentException") B.2.2.2.1 [⟨0, 14, 17, 28⟩] ⟨0, 14, 21, 13⟩ [] hT (fun z hz => by rw [List.mem_singleton.mp hz]; exact Or.inr ⟨by decide, "java/lang/IndexOutOfBoundsException", tw_623 B.2.2.2.2.1, hB.2.2.1.2.1⟩) (by decide) (by decide) (tw_355 B.2.2.2.2.1) (tw_364 B.2.2.2.2.1) hce hcv hcl ?_
        refine lv_astore (lv' := [(6, .ref q), (0, .ref (zA Z a0)), (1, .int a1), (2, .int a2), (3, .int a3), (4, .int a4), (5, .ref (zA Z a5))]) B.1 B.2.1 dL_paint_21 hl (by decide) (by first | rfl | simp [va_re_cat, Value.category]) ?_
        clear hl
        intro ls hl
        refine lv_iconst (v := 2) B.1 B.2.1 dL_paint_23 (by decide) ?_
        exact e_wi B hr hH hw dL_paint_24 (Nat.le_of_ble_eq_true rfl) (Nat.le_of_ble_eq_true rfl)
      · exact (hw.2.2 c3 c4).elim
  clear hw hH
  intro r2 h1 H locs hw hH
  refine lv_i2l B.1 B.2.1 dL_paint_12 rfl ?_
  have q5 := hw.1
  replace hw := hw.2
  refine r_last B hN hH (k5) (x := r2) q5 dL_paint_13 ?_
  clear hH
  intro H locs hH
  obtain ⟨h6, eh6⟩ : ∃ z : PH, z = up2 h1 a5 (0 : Int32).toNatClampNeg r2 := ⟨_, rfl⟩
  rw [← eh6] at hH
  replace hw := hw h6 eh6
  refine lv_goto (tgt := 25) B.1 B.2.1 dL_paint_14 (by decide) ?_
  refine lv_iconst (v := 0) B.1 B.2.1 dL_paint_25 (by decide) ?_
  exact e_wi B hr hH hw dL_paint_26 (Nat.le_of_ble_eq_true rfl) (Nat.le_of_ble_eq_true rfl)
theorem cy_L_loop {s : State} {args : Array Value} (hG : GG s) : CYW s args yL_loop cL_loop 3 (some .int) [(0, 8, 11, 15)]  2 := CYW.of hG (fun _ _ hG => tw_788 hG) (tw_0 hG) (tw_787 hG) (by decide +kernel)
set_option maxRecDepth 100000 in
set_option maxHeartbeats 4000000 in
theorem ct_L_loop {Z : ZT} (hZ : ZO Z) (l : Launch) (hl9 : l.stackTraces = false) (hN : zN Z = 352) (a0 : Nat) (a1 : Nat) (h : PH) (sz : Nat) (Q : Int32 → PH → Prop) (k0 : kd a0 = 1) (k1 : kd a1 = 12) (hw : wp_L_loop a0 a1 h Q) : MW Z l yL_loop cL_loop 3 (some .int) [(0, 8, 11, 15)] ({ frames := 9, cells := 1, slots := 6, locals := 162 } : Room) h sz [.ref (zA Z a0), .ref (zA Z a1)] Q := by
  refine open_W hZ hl9 (by decide +kernel) (by exact Nat.le_of_ble_eq_true rfl) ?_
  intro p e s m below meth c B hr hsz ls hl hH hB hT
  subst hsz
  have hl : lv_has ls 3 [(0, .ref (zA Z a0)), (1, .ref (zA Z a1))] := hl
  unfold wp_L_loop at hw
  refine lv_aload_n B.1 B.2.1 dL_loop_0 rfl (lv_at hl 1 rfl) ?_
  refine lv_iconst (v := 0) B.1 B.2.1 dL_loop_1 (by decide) ?_
  refine lv_aload_n B.1 B.2.1 dL_loop_2 rfl (lv_at hl 0 rfl) ?_
  refine x_V_I (own := RL) (As := []) (rest := [.int 0, .ref (zA Z a1)]) B hH hB (cy_X7_loop B.2.2.2.2.1) (ct_X7_loop B.2.2.2.2.2.2.2 l hB.2.2.2 a0 h _ _ _ (k0) hw) ⟨⟨rfl, rfl⟩, Nat.le_of_ble_eq_true rfl, Nat.le_of_ble_eq_true rfl, Nat.le_of_ble_eq_true rfl, Nat.le_of_ble_eq_true rfl⟩ (rv_1 B hH (k0)) (tw_789 B.2.2.2.2.1) rfl hl.1 rfl (Nat.le_of_ble_eq_true rfl) dL_loop_3 (fun E h q ce H locs hw hH hce hcv hcl => ?_) ?_
  · by_cases c3 : E = "java/lang/IllegalStateException"
    · replace hw := hw.1 c3
      subst c3
      refine vx_catch (own := RL) (name := "java/lang/IllegalStateException") B.2.2.2.1 [] ⟨0, 8, 11, 15⟩ [] hT (fun z hz => nomatch hz) (by decide) (by decide) (tw_356 B.2.2.2.2.1) (tw_435 B.2.2.2.2.1) hce hcv hcl ?_
      refine lv_astore_n (lv' := [(2, .ref q), (0, .ref (zA Z a0)), (1, .ref (zA Z a1))]) B.1 B.2.1 dL_loop_11 rfl hl (by decide) (by first | rfl | simp [va_re_cat, Value.category]) ?_
      clear hl
      intro ls hl
      refine lv_iconst (v := 1) B.1 B.2.1 dL_loop_12 (by decide) ?_
      exact e_wi B hr hH hw dL_loop_13 (Nat.le_of_ble_eq_true rfl) (Nat.le_of_ble_eq_true rfl)
    · exact (hw.2 c3).elim
  clear hw hH
  intro r2 h1 H locs hw hH
  refine lv_i2l B.1 B.2.1 dL_loop_6 rfl ?_
  have q4 := hw.1
  replace hw := hw.2
  refine r_last B hN hH (k1) (x := r2) q4 dL_loop_7 ?_
  clear hH
  intro H locs hH
  obtain ⟨h5, eh5⟩ : ∃ z : PH, z = up2 h1 a1 (0 : Int32).toNatClampNeg r2 := ⟨_, rfl⟩
  rw [← eh5] at hH
  replace hw := hw h5 eh5
  refine lv_goto (tgt := 14) B.1 B.2.1 dL_loop_8 (by decide) ?_
  refine lv_iconst (v := 0) B.1 B.2.1 dL_loop_14 (by decide) ?_
  exact e_wi B hr hH hw dL_loop_15 (Nat.le_of_ble_eq_true rfl) (Nat.le_of_ble_eq_true rfl)
theorem cy_L_splice {s : State} {args : Array Value} (hG : GG s) : CYW s args yL_splice cL_splice 7 (some .int) [(0, 14, 17, 28)]  6 := CYW.of hG (fun _ _ hG => tw_795 hG) (tw_0 hG) (tw_794 hG) (by decide +kernel)
set_option maxRecDepth 100000 in
set_option maxHeartbeats 4000000 in
theorem ct_L_splice {Z : ZT} (hZ : ZO Z) (l : Launch) (hl9 : l.stackTraces = false) (hN : zN Z = 352) (a0 : Nat) (a1 : Int32) (a2 : Int32) (a3 : Int32) (a4 : Int32) (a5 : Nat) (h : PH) (sz : Nat) (Q : Int32 → PH → Prop) (k0 : kd a0 = 1) (k5 : kd a5 = 12) (hw : wp_L_splice a0 a1 a2 a3 a4 a5 h Q) : MW Z l yL_splice cL_splice 7 (some .int) [(0, 14, 17, 28)] ({ frames := 9, cells := 1, slots := 6, locals := 166 } : Room) h sz [.ref (zA Z a0), .int a1, .int a2, .int a3, .int a4, .ref (zA Z a5)] Q := by
  refine open_W hZ hl9 (by decide +kernel) (by exact Nat.le_of_ble_eq_true rfl) ?_
  intro p e s m below meth c B hr hsz ls hl hH hB hT
  subst hsz
  have hl : lv_has ls 7 [(0, .ref (zA Z a0)), (1, .int a1), (2, .int a2), (3, .int a3), (4, .int a4), (5, .ref (zA Z a5))] := hl
  unfold wp_L_splice at hw
  refine lv_aload B.1 B.2.1 dL_splice_0 (lv_at hl 5 rfl) ?_
  refine lv_iconst (v := 0) B.1 B.2.1 dL_splice_2 (by decide) ?_
  refine lv_aload_n B.1 B.2.1 dL_splice_3 rfl (lv_at hl 0 rfl) ?_
  refine lv_iload_n B.1 B.2.1 dL_splice_4 rfl (lv_at hl 1 rfl) ?_
  refine lv_iload_n B.1 B.2.1 dL_splice_5 rfl (lv_at hl 2 rfl) ?_
  refine lv_iload_n B.1 B.2.1 dL_splice_6 rfl (lv_at hl 3 rfl) ?_
  refine lv_iload B.1 B.2.1 dL_splice_7 (lv_at hl 4 rfl) ?_
  refine x_V_I (own := RL) (As := [.int a1, .int a2, .int a3, .int a4]) (rest := [.int 0, .ref (zA Z a5)]) B hH hB (cy_X7_splice B.2.2.2.2.1) (ct_X7_splice B.2.2.2.2.2.2.2 l hB.2.2.2 a0 a1 a2 a3 a4 h _ _ _ (k0) hw) ⟨⟨rfl, rfl⟩, Nat.le_of_ble_eq_true rfl, Nat.le_of_ble_eq_true rfl, Nat.le_of_ble_eq_true rfl, Nat.le_of_ble_eq_true rfl⟩ (rv_1 B hH (k0)) (tw_796 B.2.2.2.2.1) rfl hl.1 rfl (Nat.le_of_ble_eq_true rfl) dL_splice_9 (fun E h q ce H locs hw hH hce hcv hcl => ?_) ?_
  · by_cases c3 : E = "java/lang/IndexOutOfBoundsException"
    · replace hw := hw.1 c3
      subst c3
      refine vx_catch (own := RL) (name := "java/lang/IndexOutOfBoundsException") B.2.2.2.1 [] ⟨0, 14, 17, 28⟩ [] hT (fun z hz => nomatch hz) (by decide) (by decide) (tw_623 B.2.2.2.2.1) (tw_631 B.2.2.2.2.1) hce hcv hcl ?_
      refine lv_astore (lv' := [(6, .ref q), (0, .ref (zA Z a0)), (1, .int a1), (2, .int a2), (3, .int a3), (4, .int a4), (5, .ref (zA Z a5))]) B.1 B.2.1 dL_splice_17 hl (by decide) (by first | rfl | simp [va_re_cat, Value.category]) ?_
      clear hl
      intro ls hl
      refine lv_iconst (v := 1) B.1 B.2.1 dL_splice_19 (by decide) ?_
      exact e_wi B hr hH hw dL_splice_20 (Nat.le_of_ble_eq_true rfl) (Nat.le_of_ble_eq_true rfl)
    · exact (hw.2 c3).elim
  clear hw hH
  intro r2 h1 H locs hw hH
  refine lv_i2l B.1 B.2.1 dL_splice_12 rfl ?_
  have q4 := hw.1
  replace hw := hw.2
  refine r_last B hN hH (k5) (x := r2) q4 dL_splice_13 ?_
  clear hH
  intro H locs hH
  obtain ⟨h5, eh5⟩ : ∃ z : PH, z = up2 h1 a5 (0 : Int32).toNatClampNeg r2 := ⟨_, rfl⟩
  rw [← eh5] at hH
  replace hw := hw h5 eh5
  refine lv_goto (tgt := 21) B.1 B.2.1 dL_splice_14 (by decide) ?_
  refine lv_iconst (v := 0) B.1 B.2.1 dL_splice_21 (by decide) ?_
  exact e_wi B hr hH hw dL_splice_22 (Nat.le_of_ble_eq_true rfl) (Nat.le_of_ble_eq_true rfl)
theorem cy_L_unsplice {s : State} {args : Array Value} (hG : GG s) : CYW s args yL_unsplice cL_unsplice 4 (some .int) [(0, 9, 12, 28), (0, 9, 15, 15)]  3 := CYW.of hG (fun _ _ hG => tw_802 hG) (tw_0 hG) (tw_801 hG) (by decide +kernel)
set_option maxRecDepth 100000 in
set_option maxHeartbeats 4000000 in
theorem ct_L_unsplice {Z : ZT} (hZ : ZO Z) (l : Launch) (hl9 : l.stackTraces = false) (hN : zN Z = 352) (a0 : Nat) (a1 : Int32) (a2 : Nat) (h : PH) (sz : Nat) (Q : Int32 → PH → Prop) (k0 : kd a0 = 1) (k2 : kd a2 = 12) (hw : wp_L_unsplice a0 a1 a2 h Q) : MW Z l yL_unsplice cL_unsplice 4 (some .int) [(0, 9, 12, 28), (0, 9, 15, 15)] ({ frames := 9, cells := 1, slots := 6, locals := 163 } : Room) h sz [.ref (zA Z a0), .int a1, .ref (zA Z a2)] Q := by
  refine open_W hZ hl9 (by decide +kernel) (by exact Nat.le_of_ble_eq_true rfl) ?_
  intro p e s m below meth c B hr hsz ls hl hH hB hT
  subst hsz
  have hl : lv_has ls 4 [(0, .ref (zA Z a0)), (1, .int a1), (2, .ref (zA Z a2))] := hl
  unfold wp_L_unsplice at hw
  refine lv_aload_n B.1 B.2.1 dL_unsplice_0 rfl (lv_at hl 2 rfl) ?_
  refine lv_iconst (v := 0) B.1 B.2.1 dL_unsplice_1 (by decide) ?_
  refine lv_aload_n B.1 B.2.1 dL_unsplice_2 rfl (lv_at hl 0 rfl) ?_
  refine lv_iload_n B.1 B.2.1 dL_unsplice_3 rfl (lv_at hl 1 rfl) ?_
  refine x_V_I (own := RL) (As := [.int a1]) (rest := [.int 0, .ref (zA Z a2)]) B hH hB (cy_X7_unsplice B.2.2.2.2.1) (ct_X7_unsplice B.2.2.2.2.2.2.2 l hB.2.2.2 a0 a1 h _ _ _ (k0) hw) ⟨⟨rfl, rfl⟩, Nat.le_of_ble_eq_true rfl, Nat.le_of_ble_eq_true rfl, Nat.le_of_ble_eq_true rfl, Nat.le_of_ble_eq_true rfl⟩ (rv_1 B hH (k0)) (tw_803 B.2.2.2.2.1) rfl hl.1 rfl (Nat.le_of_ble_eq_true rfl) dL_unsplice_4 (fun E h q ce H locs hw hH hce hcv hcl => ?_) ?_
  · by_cases c3 : E = "java/lang/IndexOutOfBoundsException"
    · replace hw := hw.1 c3
      subst c3
      refine vx_catch (own := RL) (name := "java/lang/IndexOutOfBoundsException") B.2.2.2.1 [] ⟨0, 9, 12, 28⟩ [⟨0, 9, 15, 15⟩] hT (fun z hz => nomatch hz) (by decide) (by decide) (tw_623 B.2.2.2.2.1) (tw_631 B.2.2.2.2.1) hce hcv hcl ?_
      refine lv_astore_n (lv' := [(3, .ref q), (0, .ref (zA Z a0)), (1, .int a1), (2, .ref (zA Z a2))]) B.1 B.2.1 dL_unsplice_12 rfl hl (by decide) (by first | rfl | simp [va_re_cat, Value.category]) ?_
      clear hl
      intro ls hl
      refine lv_iconst (v := 1) B.1 B.2.1 dL_unsplice_13 (by decide) ?_
      exact e_wi B hr hH hw dL_unsplice_14 (Nat.le_of_ble_eq_true rfl) (Nat.le_of_ble_eq_true rfl)
    · by_cases c4 : E = "java/lang/IllegalStateException"
      · replace hw := hw.2.1 c4
        subst c4
        refine vx_catch (own := RL) (name := "java/lang/IllegalStateException") B.2.2.2.1 [⟨0, 9, 12, 28⟩] ⟨0, 9, 15, 15⟩ [] hT (fun z hz => by rw [List.mem_singleton.mp hz]; exact Or.inr ⟨by decide, "java/lang/IndexOutOfBoundsException", tw_623 B.2.2.2.2.1, hB.2.2.1.2.2⟩) (by decide) (by decide) (tw_356 B.2.2.2.2.1) (tw_435 B.2.2.2.2.1) hce hcv hcl ?_
        refine lv_astore_n (lv' := [(3, .ref q), (0, .ref (zA Z a0)), (1, .int a1), (2, .ref (zA Z a2))]) B.1 B.2.1 dL_unsplice_15 rfl hl (by decide) (by first | rfl | simp [va_re_cat, Value.category]) ?_
        clear hl
        intro ls hl
        refine lv_iconst (v := 2) B.1 B.2.1 dL_unsplice_16 (by decide) ?_
        exact e_wi B hr hH hw dL_unsplice_17 (Nat.le_of_ble_eq_true rfl) (Nat.le_of_ble_eq_true rfl)
      · exact (hw.2.2 c3 c4).elim
  clear hw hH
  intro r2 h1 H locs hw hH
  refine lv_i2l B.1 B.2.1 dL_unsplice_7 rfl ?_
  have q5 := hw.1
  replace hw := hw.2
  refine r_last B hN hH (k2) (x := r2) q5 dL_unsplice_8 ?_
  clear hH
  intro H locs hH
  obtain ⟨h6, eh6⟩ : ∃ z : PH, z = up2 h1 a2 (0 : Int32).toNatClampNeg r2 := ⟨_, rfl⟩
  rw [← eh6] at hH
  replace hw := hw h6 eh6
  refine lv_goto (tgt := 18) B.1 B.2.1 dL_unsplice_9 (by decide) ?_
  refine lv_iconst (v := 0) B.1 B.2.1 dL_unsplice_18 (by decide) ?_
  exact e_wi B hr hH hw dL_unsplice_19 (Nat.le_of_ble_eq_true rfl) (Nat.le_of_ble_eq_true rfl)
theorem cy_L_speed {s : State} {args : Array Value} (hG : GG s) : CYW s args yL_speed cL_speed 6 (some .int) [(0, 12, 15, 28), (0, 12, 19, 13)]  5 := CYW.of hG (fun _ _ hG => tw_809 hG) (tw_0 hG) (tw_808 hG) (by decide +kernel)
set_option maxRecDepth 100000 in
set_option maxHeartbeats 4000000 in
theorem ct_L_speed {Z : ZT} (hZ : ZO Z) (l : Launch) (hl9 : l.stackTraces = false) (hN : zN Z = 352) (a0 : Nat) (a1 : Int32) (a2 : Int32) (a3 : Int32) (a4 : Nat) (h : PH) (sz : Nat) (Q : Int32 → PH → Prop) (k0 : kd a0 = 1) (k4 : kd a4 = 12) (hw : wp_L_speed a0 a1 a2 a3 a4 h Q) : MW Z l yL_speed cL_speed 6 (some .int) [(0, 12, 15, 28), (0, 12, 19, 13)] ({ frames := 9, cells := 1, slots := 6, locals := 165 } : Room) h sz [.ref (zA Z a0), .int a1, .int a2, .int a3, .ref (zA Z a4)] Q := by
  refine open_W hZ hl9 (by decide +kernel) (by exact Nat.le_of_ble_eq_true rfl) ?_
  intro p e s m below meth c B hr hsz ls hl hH hB hT
  subst hsz
  have hl : lv_has ls 6 [(0, .ref (zA Z a0)), (1, .int a1), (2, .int a2), (3, .int a3), (4, .ref (zA Z a4))] := hl
  unfold wp_L_speed at hw
  refine lv_aload B.1 B.2.1 dL_speed_0 (lv_at hl 4 rfl) ?_
  refine lv_iconst (v := 0) B.1 B.2.1 dL_speed_2 (by decide) ?_
  refine lv_aload_n B.1 B.2.1 dL_speed_3 rfl (lv_at hl 0 rfl) ?_
  refine lv_iload_n B.1 B.2.1 dL_speed_4 rfl (lv_at hl 1 rfl) ?_
  refine lv_iload_n B.1 B.2.1 dL_speed_5 rfl (lv_at hl 2 rfl) ?_
  refine lv_iload_n B.1 B.2.1 dL_speed_6 rfl (lv_at hl 3 rfl) ?_
  refine x_V_I (own := RL) (As := [.int a1, .int a2, .int a3]) (rest := [.int 0, .ref (zA Z a4)]) B hH hB (cy_X7_speed B.2.2.2.2.1) (ct_X7_speed B.2.2.2.2.2.2.2 l hB.2.2.2 a0 a1 a2 a3 h _ _ _ (k0) hw) ⟨⟨rfl, rfl⟩, Nat.le_of_ble_eq_true rfl, Nat.le_of_ble_eq_true rfl, Nat.le_of_ble_eq_true rfl, Nat.le_of_ble_eq_true rfl⟩ (rv_1 B hH (k0)) (tw_810 B.2.2.2.2.1) rfl hl.1 rfl (Nat.le_of_ble_eq_true rfl) dL_speed_7 (fun E h q ce H locs hw hH hce hcv hcl => ?_) ?_
  · by_cases c3 : E = "java/lang/IndexOutOfBoundsException"
    · replace hw := hw.1 c3
      subst c3
      refine vx_catch (own := RL) (name := "java/lang/IndexOutOfBoundsException") B.2.2.2.1 [] ⟨0, 12, 15, 28⟩ [⟨0, 12, 19, 13⟩] hT (fun z hz => nomatch hz) (by decide) (by decide) (tw_623 B.2.2.2.2.1) (tw_631 B.2.2.2.2.1) hce hcv hcl ?_
      refine lv_astore (lv' := [(5, .ref q), (0, .ref (zA Z a0)), (1, .int a1), (2, .int a2), (3, .int a3), (4, .ref (zA Z a4))]) B.1 B.2.1 dL_speed_15 hl (by decide) (by first | rfl | simp [va_re_cat, Value.category]) ?_
      clear hl
      intro ls hl
      refine lv_iconst (v := 1) B.1 B.2.1 dL_speed_17 (by decide) ?_
      exact e_wi B hr hH hw dL_speed_18 (Nat.le_of_ble_eq_true rfl) (Nat.le_of_ble_eq_true rfl)
    · by_cases c4 : E = "java/lang/IllegalArgumentException"
      · replace hw := hw.2.1 c4
        subst c4
        refine vx_catch (own := RL) (name := "java/lang/IllegalArgumentException") B.2.2.2.1 [⟨0, 12, 15, 28⟩] ⟨0, 12, 19, 13⟩ [] hT (fun z hz => by rw [List.mem_singleton.mp hz]; exact Or.inr ⟨by decide, "java/lang/IndexOutOfBoundsException", tw_623 B.2.2.2.2.1, hB.2.2.1.2.1⟩) (by decide) (by decide) (tw_355 B.2.2.2.2.1) (tw_364 B.2.2.2.2.1) hce hcv hcl ?_
        refine lv_astore (lv' := [(5, .ref q), (0, .ref (zA Z a0)), (1, .int a1), (2, .int a2), (3, .int a3), (4, .ref (zA Z a4))]) B.1 B.2.1 dL_speed_19 hl (by decide) (by first | rfl | simp [va_re_cat, Value.category]) ?_
        clear hl
        intro ls hl
        refine lv_iconst (v := 2) B.1 B.2.1 dL_speed_21 (by decide) ?_
        exact e_wi B hr hH hw dL_speed_22 (Nat.le_of_ble_eq_true rfl) (Nat.le_of_ble_eq_true rfl)
      · exact (hw.2.2 c3 c4).elim
  clear hw hH
  intro r2 h1 H locs hw hH
  refine lv_i2l B.1 B.2.1 dL_speed_10 rfl ?_
  have q5 := hw.1
  replace hw := hw.2
  refine r_last B hN hH (k4) (x := r2) q5 dL_speed_11 ?_
  clear hH
  intro H locs hH
  obtain ⟨h6, eh6⟩ : ∃ z : PH, z = up2 h1 a4 (0 : Int32).toNatClampNeg r2 := ⟨_, rfl⟩
  rw [← eh6] at hH
  replace hw := hw h6 eh6
  refine lv_goto (tgt := 23) B.1 B.2.1 dL_speed_12 (by decide) ?_
  refine lv_iconst (v := 0) B.1 B.2.1 dL_speed_23 (by decide) ?_
  exact e_wi B hr hH hw dL_speed_24 (Nat.le_of_ble_eq_true rfl) (Nat.le_of_ble_eq_true rfl)
theorem cy_L_mute {s : State} {args : Array Value} (hG : GG s) : CYW s args yL_mute cL_mute 5 (some .int) [(0, 10, 13, 28)]  4 := CYW.of hG (fun _ _ hG => tw_816 hG) (tw_0 hG) (tw_815 hG) (by decide +kernel)
set_option maxRecDepth 100000 in
set_option maxHeartbeats 4000000 in
theorem ct_L_mute {Z : ZT} (hZ : ZO Z) (l : Launch) (hl9 : l.stackTraces = false) (hN : zN Z = 352) (a0 : Nat) (a1 : Int32) (a2 : Int32) (a3 : Nat) (h : PH) (sz : Nat) (Q : Int32 → PH → Prop) (k0 : kd a0 = 1) (k3 : kd a3 = 12) (hw : wp_L_mute a0 a1 a2 a3 h Q) : MW Z l yL_mute cL_mute 5 (some .int) [(0, 10, 13, 28)] ({ frames := 9, cells := 1, slots := 6, locals := 164 } : Room) h sz [.ref (zA Z a0), .int a1, .int a2, .ref (zA Z a3)] Q := by
  refine open_W hZ hl9 (by decide +kernel) (by exact Nat.le_of_ble_eq_true rfl) ?_
  intro p e s m below meth c B hr hsz ls hl hH hB hT
  subst hsz
  have hl : lv_has ls 5 [(0, .ref (zA Z a0)), (1, .int a1), (2, .int a2), (3, .ref (zA Z a3))] := hl
  unfold wp_L_mute at hw
  refine lv_aload_n B.1 B.2.1 dL_mute_0 rfl (lv_at hl 3 rfl) ?_
  refine lv_iconst (v := 0) B.1 B.2.1 dL_mute_1 (by decide) ?_
  refine lv_aload_n B.1 B.2.1 dL_mute_2 rfl (lv_at hl 0 rfl) ?_
  refine lv_iload_n B.1 B.2.1 dL_mute_3 rfl (lv_at hl 1 rfl) ?_
  refine lv_iload_n B.1 B.2.1 dL_mute_4 rfl (lv_at hl 2 rfl) ?_
  refine x_V_I (own := RL) (As := [.int a1, .int a2]) (rest := [.int 0, .ref (zA Z a3)]) B hH hB (cy_X7_mute B.2.2.2.2.1) (ct_X7_mute B.2.2.2.2.2.2.2 l hB.2.2.2 a0 a1 a2 h _ _ _ (k0) hw) ⟨⟨rfl, rfl⟩, Nat.le_of_ble_eq_true rfl, Nat.le_of_ble_eq_true rfl, Nat.le_of_ble_eq_true rfl, Nat.le_of_ble_eq_true rfl⟩ (rv_1 B hH (k0)) (tw_817 B.2.2.2.2.1) rfl hl.1 rfl (Nat.le_of_ble_eq_true rfl) dL_mute_5 (fun E h q ce H locs hw hH hce hcv hcl => ?_) ?_
  · by_cases c3 : E = "java/lang/IndexOutOfBoundsException"
    · replace hw := hw.1 c3
      subst c3
      refine vx_catch (own := RL) (name := "java/lang/IndexOutOfBoundsException") B.2.2.2.1 [] ⟨0, 10, 13, 28⟩ [] hT (fun z hz => nomatch hz) (by decide) (by decide) (tw_623 B.2.2.2.2.1) (tw_631 B.2.2.2.2.1) hce hcv hcl ?_
      refine lv_astore (lv' := [(4, .ref q), (0, .ref (zA Z a0)), (1, .int a1), (2, .int a2), (3, .ref (zA Z a3))]) B.1 B.2.1 dL_mute_13 hl (by decide) (by first | rfl | simp [va_re_cat, Value.category]) ?_
      clear hl
      intro ls hl
      refine lv_iconst (v := 1) B.1 B.2.1 dL_mute_15 (by decide) ?_
      exact e_wi B hr hH hw dL_mute_16 (Nat.le_of_ble_eq_true rfl) (Nat.le_of_ble_eq_true rfl)
    · exact (hw.2 c3).elim
  clear hw hH
  intro r2 h1 H locs hw hH
  refine lv_i2l B.1 B.2.1 dL_mute_8 rfl ?_
  have q4 := hw.1
  replace hw := hw.2
  refine r_last B hN hH (k3) (x := r2) q4 dL_mute_9 ?_
  clear hH
  intro H locs hH
  obtain ⟨h5, eh5⟩ : ∃ z : PH, z = up2 h1 a3 (0 : Int32).toNatClampNeg r2 := ⟨_, rfl⟩
  rw [← eh5] at hH
  replace hw := hw h5 eh5
  refine lv_goto (tgt := 17) B.1 B.2.1 dL_mute_10 (by decide) ?_
  refine lv_iconst (v := 0) B.1 B.2.1 dL_mute_17 (by decide) ?_
  exact e_wi B hr hH hw dL_mute_18 (Nat.le_of_ble_eq_true rfl) (Nat.le_of_ble_eq_true rfl)
theorem cy_L_ticks {s : State} {args : Array Value} (hG : GG s) : CYW s args yL_ticks cL_ticks 4 (some .int) [(0, 9, 12, 13)]  3 := CYW.of hG (fun _ _ hG => tw_823 hG) (tw_0 hG) (tw_822 hG) (by decide +kernel)
set_option maxRecDepth 100000 in
set_option maxHeartbeats 4000000 in
theorem ct_L_ticks {Z : ZT} (hZ : ZO Z) (l : Launch) (hl9 : l.stackTraces = false) (hN : zN Z = 352) (a0 : Nat) (a1 : Int32) (a2 : Nat) (h : PH) (sz : Nat) (Q : Int32 → PH → Prop) (k0 : kd a0 = 1) (k2 : kd a2 = 12) (hw : wp_L_ticks a0 a1 a2 h Q) : MW Z l yL_ticks cL_ticks 4 (some .int) [(0, 9, 12, 13)] ({ frames := 9, cells := 1, slots := 6, locals := 163 } : Room) h sz [.ref (zA Z a0), .int a1, .ref (zA Z a2)] Q := by
  refine open_W hZ hl9 (by decide +kernel) (by exact Nat.le_of_ble_eq_true rfl) ?_
  intro p e s m below meth c B hr hsz ls hl hH hB hT
  subst hsz
  have hl : lv_has ls 4 [(0, .ref (zA Z a0)), (1, .int a1), (2, .ref (zA Z a2))] := hl
  unfold wp_L_ticks at hw
  refine lv_aload_n B.1 B.2.1 dL_ticks_0 rfl (lv_at hl 2 rfl) ?_
  refine lv_iconst (v := 0) B.1 B.2.1 dL_ticks_1 (by decide) ?_
  refine lv_aload_n B.1 B.2.1 dL_ticks_2 rfl (lv_at hl 0 rfl) ?_
  refine lv_iload_n B.1 B.2.1 dL_ticks_3 rfl (lv_at hl 1 rfl) ?_
  refine x_V_I (own := RL) (As := [.int a1]) (rest := [.int 0, .ref (zA Z a2)]) B hH hB (cy_X7_ticks B.2.2.2.2.1) (ct_X7_ticks B.2.2.2.2.2.2.2 l hB.2.2.2 a0 a1 h _ _ _ (k0) hw) ⟨⟨rfl, rfl⟩, Nat.le_of_ble_eq_true rfl, Nat.le_of_ble_eq_true rfl, Nat.le_of_ble_eq_true rfl, Nat.le_of_ble_eq_true rfl⟩ (rv_1 B hH (k0)) (tw_824 B.2.2.2.2.1) rfl hl.1 rfl (Nat.le_of_ble_eq_true rfl) dL_ticks_4 (fun E h q ce H locs hw hH hce hcv hcl => ?_) ?_
  · by_cases c3 : E = "java/lang/IllegalArgumentException"
    · replace hw := hw.1 c3
      subst c3
      refine vx_catch (own := RL) (name := "java/lang/IllegalArgumentException") B.2.2.2.1 [] ⟨0, 9, 12, 13⟩ [] hT (fun z hz => nomatch hz) (by decide) (by decide) (tw_355 B.2.2.2.2.1) (tw_364 B.2.2.2.2.1) hce hcv hcl ?_
      refine lv_astore_n (lv' := [(3, .ref q), (0, .ref (zA Z a0)), (1, .int a1), (2, .ref (zA Z a2))]) B.1 B.2.1 dL_ticks_12 rfl hl (by decide) (by first | rfl | simp [va_re_cat, Value.category]) ?_
      clear hl
      intro ls hl
      refine lv_iconst (v := 1) B.1 B.2.1 dL_ticks_13 (by decide) ?_
      exact e_wi B hr hH hw dL_ticks_14 (Nat.le_of_ble_eq_true rfl) (Nat.le_of_ble_eq_true rfl)
    · exact (hw.2 c3).elim
  clear hw hH
  intro r2 h1 H locs hw hH
  refine lv_i2l B.1 B.2.1 dL_ticks_7 rfl ?_
  have q4 := hw.1
  replace hw := hw.2
  refine r_last B hN hH (k2) (x := r2) q4 dL_ticks_8 ?_
  clear hH
  intro H locs hH
  obtain ⟨h5, eh5⟩ : ∃ z : PH, z = up2 h1 a2 (0 : Int32).toNatClampNeg r2 := ⟨_, rfl⟩
  rw [← eh5] at hH
  replace hw := hw h5 eh5
  refine lv_goto (tgt := 15) B.1 B.2.1 dL_ticks_9 (by decide) ?_
  refine lv_iconst (v := 0) B.1 B.2.1 dL_ticks_15 (by decide) ?_
  exact e_wi B hr hH hw dL_ticks_16 (Nat.le_of_ble_eq_true rfl) (Nat.le_of_ble_eq_true rfl)
theorem cy_L_record {s : State} {args : Array Value} (hG : GG s) : CYW s args yL_record cL_record 5 (some .int) [(0, 10, 13, 28), (0, 10, 17, 13)]  4 := CYW.of hG (fun _ _ hG => tw_830 hG) (tw_0 hG) (tw_829 hG) (by decide +kernel)
set_option maxRecDepth 100000 in
set_option maxHeartbeats 4000000 in
theorem ct_L_record {Z : ZT} (hZ : ZO Z) (l : Launch) (hl9 : l.stackTraces = false) (hN : zN Z = 352) (a0 : Nat) (a1 : Int32) (a2 : Int32) (a3 : Nat) (h : PH) (sz : Nat) (Q : Int32 → PH → Prop) (k0 : kd a0 = 1) (k3 : kd a3 = 12) (hw : wp_L_record a0 a1 a2 a3 h Q) : MW Z l yL_record cL_record 5 (some .int) [(0, 10, 13, 28), (0, 10, 17, 13)] ({ frames := 9, cells := 1, slots := 6, locals := 164 } : Room) h sz [.ref (zA Z a0), .int a1, .int a2, .ref (zA Z a3)] Q := by
  refine open_W hZ hl9 (by decide +kernel) (by exact Nat.le_of_ble_eq_true rfl) ?_
  intro p e s m below meth c B hr hsz ls hl hH hB hT
  subst hsz
  have hl : lv_has ls 5 [(0, .ref (zA Z a0)), (1, .int a1), (2, .int a2), (3, .ref (zA Z a3))] := hl
  unfold wp_L_record at hw
  refine lv_aload_n B.1 B.2.1 dL_record_0 rfl (lv_at hl 3 rfl) ?_
  refine lv_iconst (v := 0) B.1 B.2.1 dL_record_1 (by decide) ?_
  refine lv_aload_n B.1 B.2.1 dL_record_2 rfl (lv_at hl 0 rfl) ?_
  refine lv_iload_n B.1 B.2.1 dL_record_3 rfl (lv_at hl 1 rfl) ?_
  refine lv_iload_n B.1 B.2.1 dL_record_4 rfl (lv_at hl 2 rfl) ?_
  refine x_V_I (own := RL) (As := [.int a1, .int a2]) (rest := [.int 0, .ref (zA Z a3)]) B hH hB (cy_X7_record B.2.2.2.2.1) (ct_X7_record B.2.2.2.2.2.2.2 l hB.2.2.2 a0 a1 a2 h _ _ _ (k0) hw) ⟨⟨rfl, rfl⟩, Nat.le_of_ble_eq_true rfl, Nat.le_of_ble_eq_true rfl, Nat.le_of_ble_eq_true rfl, Nat.le_of_ble_eq_true rfl⟩ (rv_1 B hH (k0)) (tw_831 B.2.2.2.2.1) rfl hl.1 rfl (Nat.le_of_ble_eq_true rfl) dL_record_5 (fun E h q ce H locs hw hH hce hcv hcl => ?_) ?_
  · by_cases c3 : E = "java/lang/IndexOutOfBoundsException"
    · replace hw := hw.1 c3
      subst c3
      refine vx_catch (own := RL) (name := "java/lang/IndexOutOfBoundsException") B.2.2.2.1 [] ⟨0, 10, 13, 28⟩ [⟨0, 10, 17, 13⟩] hT (fun z hz => nomatch hz) (by decide) (by decide) (tw_623 B.2.2.2.2.1) (tw_631 B.2.2.2.2.1) hce hcv hcl ?_
      refine lv_astore (lv' := [(4, .ref q), (0, .ref (zA Z a0)), (1, .int a1), (2, .int a2), (3, .ref (zA Z a3))]) B.1 B.2.1 dL_record_13 hl (by decide) (by first | rfl | simp [va_re_cat, Value.category]) ?_
      clear hl
      intro ls hl
      refine lv_iconst (v := 1) B.1 B.2.1 dL_record_15 (by decide) ?_
      exact e_wi B hr hH hw dL_record_16 (Nat.le_of_ble_eq_true rfl) (Nat.le_of_ble_eq_true rfl)
    · by_cases c4 : E = "java/lang/IllegalArgumentException"
      · replace hw := hw.2.1 c4
        subst c4
        refine vx_catch (own := RL) (name := "java/lang/IllegalArgumentException") B.2.2.2.1 [⟨0, 10, 13, 28⟩] ⟨0, 10, 17, 13⟩ [] hT (fun z hz => by rw [List.mem_singleton.mp hz]; exact Or.inr ⟨by decide, "java/lang/IndexOutOfBoundsException", tw_623 B.2.2.2.2.1, hB.2.2.1.2.1⟩) (by decide) (by decide) (tw_355 B.2.2.2.2.1) (tw_364 B.2.2.2.2.1) hce hcv hcl ?_
        refine lv_astore (lv' := [(4, .ref q), (0, .ref (zA Z a0)), (1, .int a1), (2, .int a2), (3, .ref (zA Z a3))]) B.1 B.2.1 dL_record_17 hl (by decide) (by first | rfl | simp [va_re_cat, Value.category]) ?_
        clear hl
        intro ls hl
        refine lv_iconst (v := 2) B.1 B.2.1 dL_record_19 (by decide) ?_
        exact e_wi B hr hH hw dL_record_20 (Nat.le_of_ble_eq_true rfl) (Nat.le_of_ble_eq_true rfl)
      · exact (hw.2.2 c3 c4).elim
  clear hw hH
  intro r2 h1 H locs hw hH
  refine lv_i2l B.1 B.2.1 dL_record_8 rfl ?_
  have q5 := hw.1
  replace hw := hw.2
  refine r_last B hN hH (k3) (x := r2) q5 dL_record_9 ?_
  clear hH
  intro H locs hH
  obtain ⟨h6, eh6⟩ : ∃ z : PH, z = up2 h1 a3 (0 : Int32).toNatClampNeg r2 := ⟨_, rfl⟩
  rw [← eh6] at hH
  replace hw := hw h6 eh6
  refine lv_goto (tgt := 21) B.1 B.2.1 dL_record_10 (by decide) ?_
  refine lv_iconst (v := 0) B.1 B.2.1 dL_record_21 (by decide) ?_
  exact e_wi B hr hH hw dL_record_22 (Nat.le_of_ble_eq_true rfl) (Nat.le_of_ble_eq_true rfl)
theorem cy_L_undo {s : State} {args : Array Value} (hG : GG s) : CYW s args yL_undo cL_undo 3 (some .int) [(0, 8, 11, 15)]  2 := CYW.of hG (fun _ _ hG => tw_837 hG) (tw_0 hG) (tw_836 hG) (by decide +kernel)
set_option maxRecDepth 100000 in
set_option maxHeartbeats 4000000 in
theorem ct_L_undo {Z : ZT} (hZ : ZO Z) (l : Launch) (hl9 : l.stackTraces = false) (hN : zN Z = 352) (a0 : Nat) (a1 : Nat) (h : PH) (sz : Nat) (Q : Int32 → PH → Prop) (k0 : kd a0 = 1) (k1 : kd a1 = 12) (hw : wp_L_undo a0 a1 h Q) : MW Z l yL_undo cL_undo 3 (some .int) [(0, 8, 11, 15)] ({ frames := 7, cells := 1, slots := 6, locals := 136 } : Room) h sz [.ref (zA Z a0), .ref (zA Z a1)] Q := by
  refine open_W hZ hl9 (by decide +kernel) (by exact Nat.le_of_ble_eq_true rfl) ?_
  intro p e s m below meth c B hr hsz ls hl hH hB hT
  subst hsz
  have hl : lv_has ls 3 [(0, .ref (zA Z a0)), (1, .ref (zA Z a1))] := hl
  unfold wp_L_undo at hw
  refine lv_aload_n B.1 B.2.1 dL_undo_0 rfl (lv_at hl 1 rfl) ?_
  refine lv_iconst (v := 0) B.1 B.2.1 dL_undo_1 (by decide) ?_
  refine lv_aload_n B.1 B.2.1 dL_undo_2 rfl (lv_at hl 0 rfl) ?_
  refine x_V_I (own := RL) (As := []) (rest := [.int 0, .ref (zA Z a1)]) B hH hB (cy_X7_undo B.2.2.2.2.1) (ct_X7_undo B.2.2.2.2.2.2.2 l hB.2.2.2 a0 h _ _ _ (k0) hw) ⟨⟨rfl, rfl⟩, Nat.le_of_ble_eq_true rfl, Nat.le_of_ble_eq_true rfl, Nat.le_of_ble_eq_true rfl, Nat.le_of_ble_eq_true rfl⟩ (rv_1 B hH (k0)) (tw_838 B.2.2.2.2.1) rfl hl.1 rfl (Nat.le_of_ble_eq_true rfl) dL_undo_3 (fun E h q ce H locs hw hH hce hcv hcl => ?_) ?_
  · by_cases c3 : E = "java/lang/IllegalStateException"
    · replace hw := hw.1 c3
      subst c3
      refine vx_catch (own := RL) (name := "java/lang/IllegalStateException") B.2.2.2.1 [] ⟨0, 8, 11, 15⟩ [] hT (fun z hz => nomatch hz) (by decide) (by decide) (tw_356 B.2.2.2.2.1) (tw_435 B.2.2.2.2.1) hce hcv hcl ?_
      refine lv_astore_n (lv' := [(2, .ref q), (0, .ref (zA Z a0)), (1, .ref (zA Z a1))]) B.1 B.2.1 dL_undo_11 rfl hl (by decide) (by first | rfl | simp [va_re_cat, Value.category]) ?_
      clear hl
      intro ls hl
      refine lv_iconst (v := 1) B.1 B.2.1 dL_undo_12 (by decide) ?_
      exact e_wi B hr hH hw dL_undo_13 (Nat.le_of_ble_eq_true rfl) (Nat.le_of_ble_eq_true rfl)
    · exact (hw.2 c3).elim
  clear hw hH
  intro r2 h1 H locs hw hH
  refine lv_i2l B.1 B.2.1 dL_undo_6 rfl ?_
  have q4 := hw.1
  replace hw := hw.2
  refine r_last B hN hH (k1) (x := r2) q4 dL_undo_7 ?_
  clear hH
  intro H locs hH
  obtain ⟨h5, eh5⟩ : ∃ z : PH, z = up2 h1 a1 (0 : Int32).toNatClampNeg r2 := ⟨_, rfl⟩
  rw [← eh5] at hH
  replace hw := hw h5 eh5
  refine lv_goto (tgt := 14) B.1 B.2.1 dL_undo_8 (by decide) ?_
  refine lv_iconst (v := 0) B.1 B.2.1 dL_undo_14 (by decide) ?_
  exact e_wi B hr hH hw dL_undo_15 (Nat.le_of_ble_eq_true rfl) (Nat.le_of_ble_eq_true rfl)
theorem cy_L_soundIn {s : State} {args : Array Value} (hG : GG s) : CYW s args yL_soundIn cL_soundIn 4 (some .int) [(0, 9, 12, 13)]  3 := CYW.of hG (fun _ _ hG => tw_849 hG) (tw_0 hG) (tw_848 hG) (by decide +kernel)
set_option maxRecDepth 100000 in
set_option maxHeartbeats 4000000 in
theorem ct_L_soundIn {Z : ZT} (hZ : ZO Z) (l : Launch) (hl9 : l.stackTraces = false) (hN : zN Z = 352) (a0 : Nat) (a1 : Int32) (a2 : Nat) (h : PH) (sz : Nat) (Q : Int32 → PH → Prop) (k0 : kd a0 = 1) (k2 : kd a2 = 12) (hw : wp_L_soundIn a0 a1 a2 h Q) : MW Z l yL_soundIn cL_soundIn 4 (some .int) [(0, 9, 12, 13)] ({ frames := 7, cells := 1, slots := 6, locals := 103 } : Room) h sz [.ref (zA Z a0), .int a1, .ref (zA Z a2)] Q := by
  refine open_W hZ hl9 (by decide +kernel) (by exact Nat.le_of_ble_eq_true rfl) ?_
  intro p e s m below meth c B hr hsz ls hl hH hB hT
  subst hsz
  have hl : lv_has ls 4 [(0, .ref (zA Z a0)), (1, .int a1), (2, .ref (zA Z a2))] := hl
  unfold wp_L_soundIn at hw
  refine lv_aload_n B.1 B.2.1 dL_soundIn_0 rfl (lv_at hl 2 rfl) ?_
  refine lv_iconst (v := 0) B.1 B.2.1 dL_soundIn_1 (by decide) ?_
  refine lv_aload_n B.1 B.2.1 dL_soundIn_2 rfl (lv_at hl 0 rfl) ?_
  refine lv_iload_n B.1 B.2.1 dL_soundIn_3 rfl (lv_at hl 1 rfl) ?_
  refine x_V_I (own := RL) (As := [.int a1]) (rest := [.int 0, .ref (zA Z a2)]) B hH hB (cy_X7_soundIn B.2.2.2.2.1) (ct_X7_soundIn B.2.2.2.2.2.2.2 l hB.2.2.2 a0 a1 h _ _ _ (k0) hw) ⟨⟨rfl, rfl⟩, Nat.le_of_ble_eq_true rfl, Nat.le_of_ble_eq_true rfl, Nat.le_of_ble_eq_true rfl, Nat.le_of_ble_eq_true rfl⟩ (rv_1 B hH (k0)) (tw_850 B.2.2.2.2.1) rfl hl.1 rfl (Nat.le_of_ble_eq_true rfl) dL_soundIn_4 (fun E h q ce H locs hw hH hce hcv hcl => ?_) ?_
  · by_cases c3 : E = "java/lang/IllegalArgumentException"
    · replace hw := hw.1 c3
      subst c3
      refine vx_catch (own := RL) (name := "java/lang/IllegalArgumentException") B.2.2.2.1 [] ⟨0, 9, 12, 13⟩ [] hT (fun z hz => nomatch hz) (by decide) (by decide) (tw_355 B.2.2.2.2.1) (tw_364 B.2.2.2.2.1) hce hcv hcl ?_
      refine lv_astore_n (lv' := [(3, .ref q), (0, .ref (zA Z a0)), (1, .int a1), (2, .ref (zA Z a2))]) B.1 B.2.1 dL_soundIn_12 rfl hl (by decide) (by first | rfl | simp [va_re_cat, Value.category]) ?_
      clear hl
      intro ls hl
      refine lv_iconst (v := 1) B.1 B.2.1 dL_soundIn_13 (by decide) ?_
      exact e_wi B hr hH hw dL_soundIn_14 (Nat.le_of_ble_eq_true rfl) (Nat.le_of_ble_eq_true rfl)
    · exact (hw.2 c3).elim
  clear hw hH
  intro r2 h1 H locs hw hH
  refine lv_i2l B.1 B.2.1 dL_soundIn_7 rfl ?_
  have q4 := hw.1
  replace hw := hw.2
  refine r_last B hN hH (k2) (x := r2) q4 dL_soundIn_8 ?_
  clear hH
  intro H locs hH
  obtain ⟨h5, eh5⟩ : ∃ z : PH, z = up2 h1 a2 (0 : Int32).toNatClampNeg r2 := ⟨_, rfl⟩
  rw [← eh5] at hH
  replace hw := hw h5 eh5
  refine lv_goto (tgt := 15) B.1 B.2.1 dL_soundIn_9 (by decide) ?_
  refine lv_iconst (v := 0) B.1 B.2.1 dL_soundIn_15 (by decide) ?_
  exact e_wi B hr hH hw dL_soundIn_16 (Nat.le_of_ble_eq_true rfl) (Nat.le_of_ble_eq_true rfl)
theorem cy_L_meet {s : State} {args : Array Value} (hG : GG s) : CYW s args yL_meet cL_meet 6 (some .int) [(0, 12, 15, 28), (0, 12, 19, 13)]  5 := CYW.of hG (fun _ _ hG => tw_858 hG) (tw_0 hG) (tw_857 hG) (by decide +kernel)
set_option maxRecDepth 100000 in
set_option maxHeartbeats 4000000 in
theorem ct_L_meet {Z : ZT} (hZ : ZO Z) (l : Launch) (hl9 : l.stackTraces = false) (hN : zN Z = 352) (a0 : Nat) (a1 : Int32) (a2 : Int32) (a3 : Int32) (a4 : Nat) (h : PH) (sz : Nat) (Q : Int32 → PH → Prop) (k0 : kd a0 = 1) (k4 : kd a4 = 12) (hw : wp_L_meet a0 a1 a2 a3 a4 h Q) : MW Z l yL_meet cL_meet 6 (some .int) [(0, 12, 15, 28), (0, 12, 19, 13)] ({ frames := 7, cells := 1, slots := 6, locals := 132 } : Room) h sz [.ref (zA Z a0), .int a1, .int a2, .int a3, .ref (zA Z a4)] Q := by
  refine open_W hZ hl9 (by decide +kernel) (by exact Nat.le_of_ble_eq_true rfl) ?_
  intro p e s m below meth c B hr hsz ls hl hH hB hT
  subst hsz
  have hl : lv_has ls 6 [(0, .ref (zA Z a0)), (1, .int a1), (2, .int a2), (3, .int a3), (4, .ref (zA Z a4))] := hl
  unfold wp_L_meet at hw
  refine lv_aload B.1 B.2.1 dL_meet_0 (lv_at hl 4 rfl) ?_
  refine lv_iconst (v := 0) B.1 B.2.1 dL_meet_2 (by decide) ?_
  refine lv_aload_n B.1 B.2.1 dL_meet_3 rfl (lv_at hl 0 rfl) ?_
  refine lv_iload_n B.1 B.2.1 dL_meet_4 rfl (lv_at hl 1 rfl) ?_
  refine lv_iload_n B.1 B.2.1 dL_meet_5 rfl (lv_at hl 2 rfl) ?_
  refine lv_iload_n B.1 B.2.1 dL_meet_6 rfl (lv_at hl 3 rfl) ?_
  refine x_V_I (own := RL) (As := [.int a1, .int a2, .int a3]) (rest := [.int 0, .ref (zA Z a4)]) B hH hB (cy_X7_meet B.2.2.2.2.1) (ct_X7_meet B.2.2.2.2.2.2.2 l hB.2.2.2 a0 a1 a2 a3 h _ _ _ (k0) hw) ⟨⟨rfl, rfl⟩, Nat.le_of_ble_eq_true rfl, Nat.le_of_ble_eq_true rfl, Nat.le_of_ble_eq_true rfl, Nat.le_of_ble_eq_true rfl⟩ (rv_1 B hH (k0)) (tw_859 B.2.2.2.2.1) rfl hl.1 rfl (Nat.le_of_ble_eq_true rfl) dL_meet_7 (fun E h q ce H locs hw hH hce hcv hcl => ?_) ?_
  · by_cases c3 : E = "java/lang/IndexOutOfBoundsException"
    · replace hw := hw.1 c3
      subst c3
      refine vx_catch (own := RL) (name := "java/lang/IndexOutOfBoundsException") B.2.2.2.1 [] ⟨0, 12, 15, 28⟩ [⟨0, 12, 19, 13⟩] hT (fun z hz => nomatch hz) (by decide) (by decide) (tw_623 B.2.2.2.2.1) (tw_631 B.2.2.2.2.1) hce hcv hcl ?_
      refine lv_astore (lv' := [(5, .ref q), (0, .ref (zA Z a0)), (1, .int a1), (2, .int a2), (3, .int a3), (4, .ref (zA Z a4))]) B.1 B.2.1 dL_meet_15 hl (by decide) (by first | rfl | simp [va_re_cat, Value.category]) ?_
      clear hl
      intro ls hl
      refine lv_iconst (v := 1) B.1 B.2.1 dL_meet_17 (by decide) ?_
      exact e_wi B hr hH hw dL_meet_18 (Nat.le_of_ble_eq_true rfl) (Nat.le_of_ble_eq_true rfl)
    · by_cases c4 : E = "java/lang/IllegalArgumentException"
      · replace hw := hw.2.1 c4
        subst c4
        refine vx_catch (own := RL) (name := "java/lang/IllegalArgumentException") B.2.2.2.1 [⟨0, 12, 15, 28⟩] ⟨0, 12, 19, 13⟩ [] hT (fun z hz => by rw [List.mem_singleton.mp hz]; exact Or.inr ⟨by decide, "java/lang/IndexOutOfBoundsException", tw_623 B.2.2.2.2.1, hB.2.2.1.2.1⟩) (by decide) (by decide) (tw_355 B.2.2.2.2.1) (tw_364 B.2.2.2.2.1) hce hcv hcl ?_
        refine lv_astore (lv' := [(5, .ref q), (0, .ref (zA Z a0)), (1, .int a1), (2, .int a2), (3, .int a3), (4, .ref (zA Z a4))]) B.1 B.2.1 dL_meet_19 hl (by decide) (by first | rfl | simp [va_re_cat, Value.category]) ?_
        clear hl
        intro ls hl
        refine lv_iconst (v := 2) B.1 B.2.1 dL_meet_21 (by decide) ?_
        exact e_wi B hr hH hw dL_meet_22 (Nat.le_of_ble_eq_true rfl) (Nat.le_of_ble_eq_true rfl)
      · exact (hw.2.2 c3 c4).elim
  clear hw hH
  intro r2 h1 H locs hw hH
  refine lv_i2l B.1 B.2.1 dL_meet_10 rfl ?_
  have q5 := hw.1
  replace hw := hw.2
  refine r_last B hN hH (k4) (x := r2) q5 dL_meet_11 ?_
  clear hH
  intro H locs hH
  obtain ⟨h6, eh6⟩ : ∃ z : PH, z = up2 h1 a4 (0 : Int32).toNatClampNeg r2 := ⟨_, rfl⟩
  rw [← eh6] at hH
  replace hw := hw h6 eh6
  refine lv_goto (tgt := 23) B.1 B.2.1 dL_meet_12 (by decide) ?_
  refine lv_iconst (v := 0) B.1 B.2.1 dL_meet_23 (by decide) ?_
  exact e_wi B hr hH hw dL_meet_24 (Nat.le_of_ble_eq_true rfl) (Nat.le_of_ble_eq_true rfl)
theorem cy_L_loudest {s : State} {args : Array Value} (hG : GG s) : CYW s args yL_loudest cL_loudest 5 (some .int) [(0, 10, 13, 13)]  4 := CYW.of hG (fun _ _ hG => tw_878 hG) (tw_0 hG) (tw_877 hG) (by decide +kernel)
set_option maxRecDepth 100000 in
set_option maxHeartbeats 4000000 in
theorem ct_L_loudest {Z : ZT} (hZ : ZO Z) (l : Launch) (hl9 : l.stackTraces = false) (hN : zN Z = 352) (a0 : Nat) (a1 : Int32) (a2 : Int32) (a3 : Nat) (h : PH) (sz : Nat) (Q : Int32 → PH → Prop) (k0 : kd a0 = 1) (k3 : kd a3 = 12) (hw : wp_L_loudest a0 a1 a2 a3 h Q) : MW Z l yL_loudest cL_loudest 5 (some .int) [(0, 10, 13, 13)] ({ frames := 7, cells := 1, slots := 6, locals := 108 } : Room) h sz [.ref (zA Z a0), .int a1, .int a2, .ref (zA Z a3)] Q := by
  refine open_W hZ hl9 (by decide +kernel) (by exact Nat.le_of_ble_eq_true rfl) ?_
  intro p e s m below meth c B hr hsz ls hl hH hB hT
  subst hsz
  have hl : lv_has ls 5 [(0, .ref (zA Z a0)), (1, .int a1), (2, .int a2), (3, .ref (zA Z a3))] := hl
  unfold wp_L_loudest at hw
  refine lv_aload_n B.1 B.2.1 dL_loudest_0 rfl (lv_at hl 3 rfl) ?_
  refine lv_iconst (v := 0) B.1 B.2.1 dL_loudest_1 (by decide) ?_
  refine lv_aload_n B.1 B.2.1 dL_loudest_2 rfl (lv_at hl 0 rfl) ?_
  refine lv_iload_n B.1 B.2.1 dL_loudest_3 rfl (lv_at hl 1 rfl) ?_
  refine lv_iload_n B.1 B.2.1 dL_loudest_4 rfl (lv_at hl 2 rfl) ?_
  refine x_V_I (own := RL) (As := [.int a1, .int a2]) (rest := [.int 0, .ref (zA Z a3)]) B hH hB (cy_X7_loudest B.2.2.2.2.1) (ct_X7_loudest B.2.2.2.2.2.2.2 l hB.2.2.2 a0 a1 a2 h _ _ _ (k0) hw) ⟨⟨rfl, rfl⟩, Nat.le_of_ble_eq_true rfl, Nat.le_of_ble_eq_true rfl, Nat.le_of_ble_eq_true rfl, Nat.le_of_ble_eq_true rfl⟩ (rv_1 B hH (k0)) (tw_879 B.2.2.2.2.1) rfl hl.1 rfl (Nat.le_of_ble_eq_true rfl) dL_loudest_5 (fun E h q ce H locs hw hH hce hcv hcl => ?_) ?_
  · by_cases c3 : E = "java/lang/IllegalArgumentException"
    · replace hw := hw.1 c3
      subst c3
      refine vx_catch (own := RL) (name := "java/lang/IllegalArgumentException") B.2.2.2.1 [] ⟨0, 10, 13, 13⟩ [] hT (fun z hz => nomatch hz) (by decide) (by decide) (tw_355 B.2.2.2.2.1) (tw_364 B.2.2.2.2.1) hce hcv hcl ?_
      refine lv_astore (lv' := [(4, .ref q), (0, .ref (zA Z a0)), (1, .int a1), (2, .int a2), (3, .ref (zA Z a3))]) B.1 B.2.1 dL_loudest_13 hl (by decide) (by first | rfl | simp [va_re_cat, Value.category]) ?_
      clear hl
      intro ls hl
      refine lv_iconst (v := 1) B.1 B.2.1 dL_loudest_15 (by decide) ?_
      exact e_wi B hr hH hw dL_loudest_16 (Nat.le_of_ble_eq_true rfl) (Nat.le_of_ble_eq_true rfl)
    · exact (hw.2 c3).elim
  clear hw hH
  intro r2 h1 H locs hw hH
  refine lv_i2l B.1 B.2.1 dL_loudest_8 rfl ?_
  have q4 := hw.1
  replace hw := hw.2
  refine r_last B hN hH (k3) (x := r2) q4 dL_loudest_9 ?_
  clear hH
  intro H locs hH
  obtain ⟨h5, eh5⟩ : ∃ z : PH, z = up2 h1 a3 (0 : Int32).toNatClampNeg r2 := ⟨_, rfl⟩
  rw [← eh5] at hH
  replace hw := hw h5 eh5
  refine lv_goto (tgt := 17) B.1 B.2.1 dL_loudest_10 (by decide) ?_
  refine lv_iconst (v := 0) B.1 B.2.1 dL_loudest_17 (by decide) ?_
  exact e_wi B hr hH hw dL_loudest_18 (Nat.le_of_ble_eq_true rfl) (Nat.le_of_ble_eq_true rfl)
theorem cy_L_turnedBy {s : State} {args : Array Value} (hG : GG s) : CYW s args yL_turnedBy cL_turnedBy 5 (some .int) [(0, 10, 13, 28)]  4 := CYW.of hG (fun _ _ hG => tw_886 hG) (tw_0 hG) (tw_885 hG) (by decide +kernel)
set_option maxRecDepth 100000 in
set_option maxHeartbeats 4000000 in
theorem ct_L_turnedBy {Z : ZT} (hZ : ZO Z) (l : Launch) (hl9 : l.stackTraces = false) (hN : zN Z = 352) (a0 : Nat) (a1 : Int32) (a2 : Int32) (a3 : Nat) (h : PH) (sz : Nat) (Q : Int32 → PH → Prop) (k0 : kd a0 = 1) (k3 : kd a3 = 12) (hw : wp_L_turnedBy a0 a1 a2 a3 h Q) : MW Z l yL_turnedBy cL_turnedBy 5 (some .int) [(0, 10, 13, 28)] ({ frames := 7, cells := 1, slots := 6, locals := 107 } : Room) h sz [.ref (zA Z a0), .int a1, .int a2, .ref (zA Z a3)] Q := by
  refine open_W hZ hl9 (by decide +kernel) (by exact Nat.le_of_ble_eq_true rfl) ?_
  intro p e s m below meth c B hr hsz ls hl hH hB hT
  subst hsz
  have hl : lv_has ls 5 [(0, .ref (zA Z a0)), (1, .int a1), (2, .int a2), (3, .ref (zA Z a3))] := hl
  unfold wp_L_turnedBy at hw
  refine lv_aload_n B.1 B.2.1 dL_turnedBy_0 rfl (lv_at hl 3 rfl) ?_
  refine lv_iconst (v := 0) B.1 B.2.1 dL_turnedBy_1 (by decide) ?_
  refine lv_aload_n B.1 B.2.1 dL_turnedBy_2 rfl (lv_at hl 0 rfl) ?_
  refine lv_iload_n B.1 B.2.1 dL_turnedBy_3 rfl (lv_at hl 1 rfl) ?_
  refine lv_iload_n B.1 B.2.1 dL_turnedBy_4 rfl (lv_at hl 2 rfl) ?_
  refine x_V_I (own := RL) (As := [.int a1, .int a2]) (rest := [.int 0, .ref (zA Z a3)]) B hH hB (cy_X7_turnedBy B.2.2.2.2.1) (ct_X7_turnedBy B.2.2.2.2.2.2.2 l hB.2.2.2 a0 a1 a2 h _ _ _ (k0) hw) ⟨⟨rfl, rfl⟩, Nat.le_of_ble_eq_true rfl, Nat.le_of_ble_eq_true rfl, Nat.le_of_ble_eq_true rfl, Nat.le_of_ble_eq_true rfl⟩ (rv_1 B hH (k0)) (tw_887 B.2.2.2.2.1) rfl hl.1 rfl (Nat.le_of_ble_eq_true rfl) dL_turnedBy_5 (fun E h q ce H locs hw hH hce hcv hcl => ?_) ?_
  · by_cases c3 : E = "java/lang/IndexOutOfBoundsException"
    · replace hw := hw.1 c3
      subst c3
      refine vx_catch (own := RL) (name := "java/lang/IndexOutOfBoundsException") B.2.2.2.1 [] ⟨0, 10, 13, 28⟩ [] hT (fun z hz => nomatch hz) (by decide) (by decide) (tw_623 B.2.2.2.2.1) (tw_631 B.2.2.2.2.1) hce hcv hcl ?_
      refine lv_astore (lv' := [(4, .ref q), (0, .ref (zA Z a0)), (1, .int a1), (2, .int a2), (3, .ref (zA Z a3))]) B.1 B.2.1 dL_turnedBy_13 hl (by decide) (by first | rfl | simp [va_re_cat, Value.category]) ?_
      clear hl
      intro ls hl
      refine lv_iconst (v := 1) B.1 B.2.1 dL_turnedBy_15 (by decide) ?_
      exact e_wi B hr hH hw dL_turnedBy_16 (Nat.le_of_ble_eq_true rfl) (Nat.le_of_ble_eq_true rfl)
    · exact (hw.2 c3).elim
  clear hw hH
  intro r2 h1 H locs hw hH
  refine lv_i2l B.1 B.2.1 dL_turnedBy_8 rfl ?_
  have q4 := hw.1
  replace hw := hw.2
  refine r_last B hN hH (k3) (x := r2) q4 dL_turnedBy_9 ?_
  clear hH
  intro H locs hH
  obtain ⟨h5, eh5⟩ : ∃ z : PH, z = up2 h1 a3 (0 : Int32).toNatClampNeg r2 := ⟨_, rfl⟩
  rw [← eh5] at hH
  replace hw := hw h5 eh5
  refine lv_goto (tgt := 17) B.1 B.2.1 dL_turnedBy_10 (by decide) ?_
  refine lv_iconst (v := 0) B.1 B.2.1 dL_turnedBy_17 (by decide) ?_
  exact e_wi B hr hH hw dL_turnedBy_18 (Nat.le_of_ble_eq_true rfl) (Nat.le_of_ble_eq_true rfl)
theorem cy_L_runScript {s : State} {args : Array Value} (hG : GG s) : CYW s args yL_runScript cL_runScript 6 (some .int) [(0, 11, 14, 13)]  4 := CYW.of hG (fun _ _ hG => tw_897 hG) (tw_0 hG) (tw_896 hG) (by decide +kernel)
set_option maxRecDepth 100000 in
set_option maxHeartbeats 4000000 in
theorem ct_L_runScript {Z : ZT} (hZ : ZO Z) (l : Launch) (hl9 : l.stackTraces = false) (hN : zN Z = 352) (a0 : Nat) (a1 : Int32) (a2 : Int64) (a4 : Nat) (h : PH) (sz : Nat) (Q : Int32 → PH → Prop) (k0 : kd a0 = 1) (k4 : kd a4 = 12) (hw : wp_L_runScript a0 a1 a2 a4 h Q) : MW Z l yL_runScript cL_runScript 6 (some .int) [(0, 11, 14, 13)] ({ frames := 8, cells := 1, slots := 6, locals := 192 } : Room) h sz [.ref (zA Z a0), .int a1, .long a2, .ref (zA Z a4)] Q := by
  refine open_W hZ hl9 (by decide +kernel) (by exact Nat.le_of_ble_eq_true rfl) ?_
  intro p e s m below meth c B hr hsz ls hl hH hB hT
  subst hsz
  have hl : lv_has ls 6 [(0, .ref (zA Z a0)), (1, .int a1), (2, .long a2), (4, .ref (zA Z a4))] := hl
  unfold wp_L_runScript at hw
  refine lv_aload B.1 B.2.1 dL_runScript_0 (lv_at hl 3 rfl) ?_
  refine lv_iconst (v := 0) B.1 B.2.1 dL_runScript_2 (by decide) ?_
  refine lv_aload_n B.1 B.2.1 dL_runScript_3 rfl (lv_at hl 0 rfl) ?_
  refine lv_iload_n B.1 B.2.1 dL_runScript_4 rfl (lv_at hl 1 rfl) ?_
  refine lv_lload_n B.1 B.2.1 dL_runScript_5 rfl (lv_at hl 2 rfl) ?_
  refine x_V_I (own := RL) (As := [.int a1, .long a2]) (rest := [.int 0, .ref (zA Z a4)]) B hH hB (cy_X7_runScript B.2.2.2.2.1) (ct_X7_runScript B.2.2.2.2.2.2.2 l hB.2.2.2 a0 a1 a2 h _ _ _ (k0) hw) ⟨⟨rfl, rfl⟩, Nat.le_of_ble_eq_true rfl, Nat.le_of_ble_eq_true rfl, Nat.le_of_ble_eq_true rfl, Nat.le_of_ble_eq_true rfl⟩ (rv_1 B hH (k0)) (tw_898 B.2.2.2.2.1) rfl hl.1 rfl (Nat.le_of_ble_eq_true rfl) dL_runScript_6 (fun E h q ce H locs hw hH hce hcv hcl => ?_) ?_
  · by_cases c3 : E = "java/lang/IllegalArgumentException"
    · replace hw := hw.1 c3
      subst c3
      refine vx_catch (own := RL) (name := "java/lang/IllegalArgumentException") B.2.2.2.1 [] ⟨0, 11, 14, 13⟩ [] hT (fun z hz => nomatch hz) (by decide) (by decide) (tw_355 B.2.2.2.2.1) (tw_364 B.2.2.2.2.1) hce hcv hcl ?_
      refine lv_astore (lv' := [(5, .ref q), (0, .ref (zA Z a0)), (1, .int a1), (2, .long a2), (4, .ref (zA Z a4))]) B.1 B.2.1 dL_runScript_14 hl (by decide) (by first | rfl | simp [va_re_cat, Value.category]) ?_
      clear hl
      intro ls hl
      refine lv_iconst (v := 1) B.1 B.2.1 dL_runScript_16 (by decide) ?_
      exact e_wi B hr hH hw dL_runScript_17 (Nat.le_of_ble_eq_true rfl) (Nat.le_of_ble_eq_true rfl)
    · exact (hw.2 c3).elim
  clear hw hH
  intro r2 h1 H locs hw hH
  refine lv_i2l B.1 B.2.1 dL_runScript_9 rfl ?_
  have q4 := hw.1
  replace hw := hw.2
  refine r_last B hN hH (k4) (x := r2) q4 dL_runScript_10 ?_
  clear hH
  intro H locs hH
  obtain ⟨h5, eh5⟩ : ∃ z : PH, z = up2 h1 a4 (0 : Int32).toNatClampNeg r2 := ⟨_, rfl⟩
  rw [← eh5] at hH
  replace hw := hw h5 eh5
  refine lv_goto (tgt := 18) B.1 B.2.1 dL_runScript_11 (by decide) ?_
  refine lv_iconst (v := 0) B.1 B.2.1 dL_runScript_18 (by decide) ?_
  exact e_wi B hr hH hw dL_runScript_19 (Nat.le_of_ble_eq_true rfl) (Nat.le_of_ble_eq_true rfl)
theorem cy_L_simulate {s : State} {args : Array Value} (hG : GG s) : CYW s args yL_simulate cL_simulate 6 (some .int) [(0, 11, 14, 13)]  4 := CYW.of hG (fun _ _ hG => tw_925 hG) (tw_0 hG) (tw_924 hG) (by decide +kernel)
set_option maxRecDepth 100000 in
set_option maxHeartbeats 4000000 in
theorem ct_L_simulate {Z : ZT} (hZ : ZO Z) (l : Launch) (hl9 : l.stackTraces = false) (hN : zN Z = 352) (a0 : Nat) (a1 : Int64) (a3 : Int32) (a4 : Nat) (h : PH) (sz : Nat) (Q : Int32 → PH → Prop) (k0 : kd a0 = 1) (k4 : kd a4 = 12) (hw : wp_L_simulate a0 a1 a3 a4 h Q) : MW Z l yL_simulate cL_simulate 6 (some .int) [(0, 11, 14, 13)] ({ frames := 8, cells := 1, slots := 6, locals := 190 } : Room) h sz [.ref (zA Z a0), .long a1, .int a3, .ref (zA Z a4)] Q := by
  refine open_W hZ hl9 (by decide +kernel) (by exact Nat.le_of_ble_eq_true rfl) ?_
  intro p e s m below meth c B hr hsz ls hl hH hB hT
  subst hsz
  have hl : lv_has ls 6 [(0, .ref (zA Z a0)), (1, .long a1), (3, .int a3), (4, .ref (zA Z a4))] := hl
  unfold wp_L_simulate at hw
  refine lv_aload B.1 B.2.1 dL_simulate_0 (lv_at hl 3 rfl) ?_
  refine lv_iconst (v := 0) B.1 B.2.1 dL_simulate_2 (by decide) ?_
  refine lv_aload_n B.1 B.2.1 dL_simulate_3 rfl (lv_at hl 0 rfl) ?_
  refine lv_lload_n B.1 B.2.1 dL_simulate_4 rfl (lv_at hl 1 rfl) ?_
  refine lv_iload_n B.1 B.2.1 dL_simulate_5 rfl (lv_at hl 2 rfl) ?_
  refine x_V_I (own := RL) (As := [.long a1, .int a3]) (rest := [.int 0, .ref (zA Z a4)]) B hH hB (cy_X7_simulate B.2.2.2.2.1) (ct_X7_simulate B.2.2.2.2.2.2.2 l hB.2.2.2 a0 a1 a3 h _ _ _ (k0) hw) ⟨⟨rfl, rfl⟩, Nat.le_of_ble_eq_true rfl, Nat.le_of_ble_eq_true rfl, Nat.le_of_ble_eq_true rfl, Nat.le_of_ble_eq_true rfl⟩ (rv_1 B hH (k0)) (tw_926 B.2.2.2.2.1) rfl hl.1 rfl (Nat.le_of_ble_eq_true rfl) dL_simulate_6 (fun E h q ce H locs hw hH hce hcv hcl => ?_) ?_
  · by_cases c3 : E = "java/lang/IllegalArgumentException"
    · replace hw := hw.1 c3
      subst c3
      refine vx_catch (own := RL) (name := "java/lang/IllegalArgumentException") B.2.2.2.1 [] ⟨0, 11, 14, 13⟩ [] hT (fun z hz => nomatch hz) (by decide) (by decide) (tw_355 B.2.2.2.2.1) (tw_364 B.2.2.2.2.1) hce hcv hcl ?_
      refine lv_astore (lv' := [(5, .ref q), (0, .ref (zA Z a0)), (1, .long a1), (3, .int a3), (4, .ref (zA Z a4))]) B.1 B.2.1 dL_simulate_14 hl (by decide) (by first | rfl | simp [va_re_cat, Value.category]) ?_
      clear hl
      intro ls hl
      refine lv_iconst (v := 1) B.1 B.2.1 dL_simulate_16 (by decide) ?_
      exact e_wi B hr hH hw dL_simulate_17 (Nat.le_of_ble_eq_true rfl) (Nat.le_of_ble_eq_true rfl)
    · exact (hw.2 c3).elim
  clear hw hH
  intro r2 h1 H locs hw hH
  refine lv_i2l B.1 B.2.1 dL_simulate_9 rfl ?_
  have q4 := hw.1
  replace hw := hw.2
  refine r_last B hN hH (k4) (x := r2) q4 dL_simulate_10 ?_
  clear hH
  intro H locs hH
  obtain ⟨h5, eh5⟩ : ∃ z : PH, z = up2 h1 a4 (0 : Int32).toNatClampNeg r2 := ⟨_, rfl⟩
  rw [← eh5] at hH
  replace hw := hw h5 eh5
  refine lv_goto (tgt := 18) B.1 B.2.1 dL_simulate_11 (by decide) ?_
  refine lv_iconst (v := 0) B.1 B.2.1 dL_simulate_18 (by decide) ?_
  exact e_wi B hr hH hw dL_simulate_19 (Nat.le_of_ble_eq_true rfl) (Nat.le_of_ble_eq_true rfl)
theorem cy_L_save {s : State} {args : Array Value} (hG : GG s) : CYW s args yL_save cL_save 4 (some .int) [(0, 9, 12, 28)]  3 := CYW.of hG (fun _ _ hG => tw_939 hG) (tw_0 hG) (tw_938 hG) (by decide +kernel)
set_option maxRecDepth 100000 in
set_option maxHeartbeats 4000000 in
theorem ct_L_save {Z : ZT} (hZ : ZO Z) (l : Launch) (hl9 : l.stackTraces = false) (hN : zN Z = 352) (a0 : Nat) (a1 : Int32) (a2 : Nat) (h : PH) (sz : Nat) (Q : Int32 → PH → Prop) (k0 : kd a0 = 1) (k2 : kd a2 = 12) (hw : wp_L_save a0 a1 a2 h Q) : MW Z l yL_save cL_save 4 (some .int) [(0, 9, 12, 28)] ({ frames := 7, cells := 1, slots := 6, locals := 116 } : Room) h sz [.ref (zA Z a0), .int a1, .ref (zA Z a2)] Q := by
  refine open_W hZ hl9 (by decide +kernel) (by exact Nat.le_of_ble_eq_true rfl) ?_
  intro p e s m below meth c B hr hsz ls hl hH hB hT
  subst hsz
  have hl : lv_has ls 4 [(0, .ref (zA Z a0)), (1, .int a1), (2, .ref (zA Z a2))] := hl
  unfold wp_L_save at hw
  refine lv_aload_n B.1 B.2.1 dL_save_0 rfl (lv_at hl 2 rfl) ?_
  refine lv_iconst (v := 0) B.1 B.2.1 dL_save_1 (by decide) ?_
  refine lv_aload_n B.1 B.2.1 dL_save_2 rfl (lv_at hl 0 rfl) ?_
  refine lv_iload_n B.1 B.2.1 dL_save_3 rfl (lv_at hl 1 rfl) ?_
  refine x_V_I (own := RL) (As := [.int a1]) (rest := [.int 0, .ref (zA Z a2)]) B hH hB (cy_X7_save B.2.2.2.2.1) (ct_X7_save B.2.2.2.2.2.2.2 l hB.2.2.2 a0 a1 h _ _ _ (k0) hw) ⟨⟨rfl, rfl⟩, Nat.le_of_ble_eq_true rfl, Nat.le_of_ble_eq_true rfl, Nat.le_of_ble_eq_true rfl, Nat.le_of_ble_eq_true rfl⟩ (rv_1 B hH (k0)) (tw_940 B.2.2.2.2.1) rfl hl.1 rfl (Nat.le_of_ble_eq_true rfl) dL_save_4 (fun E h q ce H locs hw hH hce hcv hcl => ?_) ?_
  · by_cases c3 : E = "java/lang/IndexOutOfBoundsException"
    · replace hw := hw.1 c3
      subst c3
      refine vx_catch (own := RL) (name := "java/lang/IndexOutOfBoundsException") B.2.2.2.1 [] ⟨0, 9, 12, 28⟩ [] hT (fun z hz => nomatch hz) (by decide) (by decide) (tw_623 B.2.2.2.2.1) (tw_631 B.2.2.2.2.1) hce hcv hcl ?_
      refine lv_astore_n (lv' := [(3, .ref q), (0, .ref (zA Z a0)), (1, .int a1), (2, .ref (zA Z a2))]) B.1 B.2.1 dL_save_12 rfl hl (by decide) (by first | rfl | simp [va_re_cat, Value.category]) ?_
      clear hl
      intro ls hl
      refine lv_iconst (v := 1) B.1 B.2.1 dL_save_13 (by decide) ?_
      exact e_wi B hr hH hw dL_save_14 (Nat.le_of_ble_eq_true rfl) (Nat.le_of_ble_eq_true rfl)
    · exact (hw.2 c3).elim
  clear hw hH
  intro r2 h1 H locs hw hH
  refine lv_i2l B.1 B.2.1 dL_save_7 rfl ?_
  have q4 := hw.1
  replace hw := hw.2
  refine r_last B hN hH (k2) (x := r2) q4 dL_save_8 ?_
  clear hH
  intro H locs hH
  obtain ⟨h5, eh5⟩ : ∃ z : PH, z = up2 h1 a2 (0 : Int32).toNatClampNeg r2 := ⟨_, rfl⟩
  rw [← eh5] at hH
  replace hw := hw h5 eh5
  refine lv_goto (tgt := 15) B.1 B.2.1 dL_save_9 (by decide) ?_
  refine lv_iconst (v := 0) B.1 B.2.1 dL_save_15 (by decide) ?_
  exact e_wi B hr hH hw dL_save_16 (Nat.le_of_ble_eq_true rfl) (Nat.le_of_ble_eq_true rfl)
theorem cy_L_restore {s : State} {args : Array Value} (hG : GG s) : CYW s args yL_restore cL_restore 4 (some .int) [(0, 9, 12, 28), (0, 9, 15, 15)]  3 := CYW.of hG (fun _ _ hG => tw_951 hG) (tw_0 hG) (tw_950 hG) (by decide +kernel)
set_option maxRecDepth 100000 in
set_option maxHeartbeats 4000000 in
theorem ct_L_restore {Z : ZT} (hZ : ZO Z) (l : Launch) (hl9 : l.stackTraces = false) (hN : zN Z = 352) (a0 : Nat) (a1 : Int32) (a2 : Nat) (h : PH) (sz : Nat) (Q : Int32 → PH → Prop) (k0 : kd a0 = 1) (k2 : kd a2 = 12) (hw : wp_L_restore a0 a1 a2 h Q) : MW Z l yL_restore cL_restore 4 (some .int) [(0, 9, 12, 28), (0, 9, 15, 15)] ({ frames := 7, cells := 1, slots := 6, locals := 116 } : Room) h sz [.ref (zA Z a0), .int a1, .ref (zA Z a2)] Q := by
  refine open_W hZ hl9 (by decide +kernel) (by exact Nat.le_of_ble_eq_true rfl) ?_
  intro p e s m below meth c B hr hsz ls hl hH hB hT
  subst hsz
  have hl : lv_has ls 4 [(0, .ref (zA Z a0)), (1, .int a1), (2, .ref (zA Z a2))] := hl
  unfold wp_L_restore at hw
  refine lv_aload_n B.1 B.2.1 dL_restore_0 rfl (lv_at hl 2 rfl) ?_
  refine lv_iconst (v := 0) B.1 B.2.1 dL_restore_1 (by decide) ?_
  refine lv_aload_n B.1 B.2.1 dL_restore_2 rfl (lv_at hl 0 rfl) ?_
  refine lv_iload_n B.1 B.2.1 dL_restore_3 rfl (lv_at hl 1 rfl) ?_
  refine x_V_I (own := RL) (As := [.int a1]) (rest := [.int 0, .ref (zA Z a2)]) B hH hB (cy_X7_restore B.2.2.2.2.1) (ct_X7_restore B.2.2.2.2.2.2.2 l hB.2.2.2 a0 a1 h _ _ _ (k0) hw) ⟨⟨rfl, rfl⟩, Nat.le_of_ble_eq_true rfl, Nat.le_of_ble_eq_true rfl, Nat.le_of_ble_eq_true rfl, Nat.le_of_ble_eq_true rfl⟩ (rv_1 B hH (k0)) (tw_952 B.2.2.2.2.1) rfl hl.1 rfl (Nat.le_of_ble_eq_true rfl) dL_restore_4 (fun E h q ce H locs hw hH hce hcv hcl => ?_) ?_
  · by_cases c3 : E = "java/lang/IndexOutOfBoundsException"
    · replace hw := hw.1 c3
      subst c3
      refine vx_catch (own := RL) (name := "java/lang/IndexOutOfBoundsException") B.2.2.2.1 [] ⟨0, 9, 12, 28⟩ [⟨0, 9, 15, 15⟩] hT (fun z hz => nomatch hz) (by decide) (by decide) (tw_623 B.2.2.2.2.1) (tw_631 B.2.2.2.2.1) hce hcv hcl ?_
      refine lv_astore_n (lv' := [(3, .ref q), (0, .ref (zA Z a0)), (1, .int a1), (2, .ref (zA Z a2))]) B.1 B.2.1 dL_restore_12 rfl hl (by decide) (by first | rfl | simp [va_re_cat, Value.category]) ?_
      clear hl
      intro ls hl
      refine lv_iconst (v := 1) B.1 B.2.1 dL_restore_13 (by decide) ?_
      exact e_wi B hr hH hw dL_restore_14 (Nat.le_of_ble_eq_true rfl) (Nat.le_of_ble_eq_true rfl)
    · by_cases c4 : E = "java/lang/IllegalStateException"
      · replace hw := hw.2.1 c4
        subst c4
        refine vx_catch (own := RL) (name := "java/lang/IllegalStateException") B.2.2.2.1 [⟨0, 9, 12, 28⟩] ⟨0, 9, 15, 15⟩ [] hT (fun z hz => by rw [List.mem_singleton.mp hz]; exact Or.inr ⟨by decide, "java/lang/IndexOutOfBoundsException", tw_623 B.2.2.2.2.1, hB.2.2.1.2.2⟩) (by decide) (by decide) (tw_356 B.2.2.2.2.1) (tw_435 B.2.2.2.2.1) hce hcv hcl ?_
        refine lv_astore_n (lv' := [(3, .ref q), (0, .ref (zA Z a0)), (1, .int a1), (2, .ref (zA Z a2))]) B.1 B.2.1 dL_restore_15 rfl hl (by decide) (by first | rfl | simp [va_re_cat, Value.category]) ?_
        clear hl
        intro ls hl
        refine lv_iconst (v := 2) B.1 B.2.1 dL_restore_16 (by decide) ?_
        exact e_wi B hr hH hw dL_restore_17 (Nat.le_of_ble_eq_true rfl) (Nat.le_of_ble_eq_true rfl)
      · exact (hw.2.2 c3 c4).elim
  clear hw hH
  intro r2 h1 H locs hw hH
  refine lv_i2l B.1 B.2.1 dL_restore_7 rfl ?_
  have q5 := hw.1
  replace hw := hw.2
  refine r_last B hN hH (k2) (x := r2) q5 dL_restore_8 ?_
  clear hH
  intro H locs hH
  obtain ⟨h6, eh6⟩ : ∃ z : PH, z = up2 h1 a2 (0 : Int32).toNatClampNeg r2 := ⟨_, rfl⟩
  rw [← eh6] at hH
  replace hw := hw h6 eh6
  refine lv_goto (tgt := 18) B.1 B.2.1 dL_restore_9 (by decide) ?_
  refine lv_iconst (v := 0) B.1 B.2.1 dL_restore_18 (by decide) ?_
  exact e_wi B hr hH hw dL_restore_19 (Nat.le_of_ble_eq_true rfl) (Nat.le_of_ble_eq_true rfl)
