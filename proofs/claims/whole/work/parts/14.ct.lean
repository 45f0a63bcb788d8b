theorem cy_X5_changeSpeed {s : State} {args : Array Value} (hG : GG s) : CYS s args yX5_changeSpeed cX5_changeSpeed 3 (some .int) 3 := CYS.of hG (fun _ _ hG => tw_565 hG) (tw_2 hG) (tw_564 hG) (by decide +kernel)
set_option maxRecDepth 100000 in
set_option maxHeartbeats 4000000 in
theorem ct_X5_changeSpeed {Z : ZT} (hZ : ZO Z) (l : Launch) (a0 : Option Nat) (a1 : Int32) (a2 : Int32) (h : PH) (sz : Nat) (Q : Int32 → PH → Prop) (k0 : ∀ j, a0 = some j → kd j = 4) (hw : wp_X5_changeSpeed a0 a1 a2 h Q) : MI Z l yX5_changeSpeed cX5_changeSpeed 3 (some .int) ({ frames := 2, cells := 0, slots := 0, locals := 43 } : Room) h sz [va_re (zA Z) a0, .int a1, .int a2] Q := by
  refine open_M hZ (by decide +kernel) (by rcases a0 with _ | _ <;> exact Nat.le_of_ble_eq_true rfl) ?_
  intro p e s m below meth c B hr hsz ls hl hH
  subst hsz
  have hl : lv_has ls 3 [(0, va_re (zA Z) a0), (1, .int a1), (2, .int a2)] := by
    have e9 : lv_args 0 [va_re (zA Z) a0, .int a1, .int a2] = [(0, va_re (zA Z) a0), (1, .int a1), (2, .int a2)] := by rcases a0 with _ | _ <;> rfl
    rw [e9] at hl
    exact hl
  unfold wp_X5_changeSpeed at hw
  refine x_aload_n B dX5_changeSpeed_0 rfl (lv_at hl 0 rfl) ?_
  refine x_ifnonnull (tgt := 8) B dX5_changeSpeed_1 (by decide) (fun j1 c2 => ?_) (fun c2 => ?_)
  · replace hw := hw.2 j1 c2
    have kj1 := k0 j1 c2
    subst c2
    refine lv_aload_n B.1 B.2.1 dX5_changeSpeed_8 rfl (lv_at hl 0 rfl) ?_
    refine lv_iload_n B.1 B.2.1 dX5_changeSpeed_9 rfl (lv_at hl 1 rfl) ?_
    refine lv_iload_n B.1 B.2.1 dX5_changeSpeed_10 rfl (lv_at hl 2 rfl) ?_
    refine c_VN_I (own := RX5) (As := [.int a1, .int a2]) (rest := []) B hH (cy_X0_changeSpeed B.2.2.2.2.1) (ct_X0_changeSpeed B.2.2.2.2.2.2.2 l j1 a1 a2 h _ _ (kj1) hw) ⟨⟨rfl, rfl⟩, Nat.le_of_ble_eq_true rfl, Nat.le_of_ble_eq_true rfl, Nat.zero_le _, Nat.zero_le _⟩ (rv_4 B hH (kj1)) (tw_566 B.2.2.2.2.1) rfl hl.1 rfl (Nat.le_of_ble_eq_true rfl) dX5_changeSpeed_11 ?_
    clear hw hH
    intro r4 h3 H locs hw hH
    exact e_i B hr hH hw dX5_changeSpeed_14
  · replace hw := hw.1 c2
    subst c2
    refine lv_iconst (v := 0) B.1 B.2.1 dX5_changeSpeed_4 (by decide) ?_
    refine lv_goto (tgt := 14) B.1 B.2.1 dX5_changeSpeed_5 (by decide) ?_
    exact e_i B hr hH hw dX5_changeSpeed_14
theorem cy_X5_goOn {s : State} {args : Array Value} (hG : GG s) : CYV s args yX5_goOn cX5_goOn 4 none 1 := CYV.of hG (fun _ _ hG => tw_589 hG) (tw_2 hG) (tw_588 hG) (tp_37 hG) (by decide +kernel)
set_option maxRecDepth 100000 in
set_option maxHeartbeats 4000000 in
theorem ct_X5_goOn {Z : ZT} (hZ : ZO Z) (l : Launch) (a0 : Nat) (a1 : Int32) (h : PH) (sz : Nat) (Q : PH → Prop) (k0 : kd a0 = 2) (hw : wp_X5_goOn a0 a1 h Q) : MV Z l yX5_goOn cX5_goOn 4 none ({ frames := 2, cells := 0, slots := 0, locals := 43 } : Room) h sz [.ref (zA Z a0), .int a1] Q := by
  refine open_M hZ (by decide +kernel) (by exact Nat.le_of_ble_eq_true rfl) ?_
  intro p e s m below meth c B hr hsz ls hl hH
  subst hsz
  have hl : lv_has ls 4 [(0, .ref (zA Z a0)), (1, .int a1)] := hl
  unfold wp_X5_goOn at hw
  have L2 : ∀ (b0 : Nat) (b1 : Int32), kd b0 = 2 → ∀ (n : Nat) (b2 : Int32) (h : PH), ∀ (H : Heap) (locs : List Loc) (ls : Array Slot), wp_X5_goOn_b2 b0 b1 Q n b2 h → HH Z s h H locs → lv_has ls 4 [(0, .ref (zA Z b0)), (1, .int b1), (2, .int b2)] → W p l e ({ frames := 2, cells := 0, slots := 0, locals := 43 } : Room) s m ([.ref (zA Z a0), .int a1]).toArray below meth c H locs 0 0 (MQ below (va_Qv Q (BZ Z) (fr Z s.heap.size)) ([.ref (zA Z a0), .int a1]).toArray s 0 0 (fr Z s.heap.size)) (F0 m 2 ls []) := by
    intro b0 b1 kb0 n
    induction n with
    | zero => intro b2 h H locs ls hw hH hl; exact absurd hw id
    | succ n ih =>
      intro b2 h H locs ls hw hH hl
      unfold wp_X5_goOn_b2 at hw
      refine lv_iload_n B.1 B.2.1 dX5_goOn_2 rfl (lv_at hl 2 rfl) ?_
      refine lv_aload_n B.1 B.2.1 dX5_goOn_3 rfl (lv_at hl 0 rfl) ?_
      refine r_get B hH (own := RX5) (kd_n B (kb0) (by decide) (by decide)) (ct_2 (kb0)) rfl (ul_2 B.2.2.2.2.1) 3 (by decide) rfl (tw_103 B.2.2.2.2.1) dX5_goOn_4 ?_
      refine lv_icmp_ge (tgt := 35) B.1 B.2.1 dX5_goOn_7 (by decide) (fun c1 => ?_) (fun c1 => ?_)
      · replace hw := hw.1 c1
        refine lv_aload_n B.1 B.2.1 dX5_goOn_35 rfl (lv_at hl 0 rfl) ?_
        refine lv_dup B.1 B.2.1 dX5_goOn_36 rfl ?_
        refine r_get B hH (own := RX5) (kd_n B (kb0) (by decide) (by decide)) (ct_2 (kb0)) rfl (ul_2 B.2.2.2.2.1) 4 (by decide) rfl (tw_106 B.2.2.2.2.1) dX5_goOn_37 ?_
        refine lv_iload_n B.1 B.2.1 dX5_goOn_40 rfl (lv_at hl 1 rfl) ?_
        refine lv_iadd B.1 B.2.1 dX5_goOn_41 ?_
        refine r_put B hH (own := RX5) (kd_n B (kb0) (by decide) (by decide)) (ct_2 (kb0)) rfl (ul_2 B.2.2.2.2.1) tyX5 tyX5_ok nmX5 4 (by decide) (ty := .int) rfl rfl rfl rfl (Nat.le_of_ble_eq_true rfl) (cs_2_4 (kb0)) (tw_106 B.2.2.2.2.1) dX5_goOn_42 ?_
        clear hH
        intro H locs hH
        obtain ⟨h2, eh2⟩ : ∃ z : PH, z = up2 h b0 4 ((h b0 4) + b1) := ⟨_, rfl⟩
        rw [← eh2] at hH
        replace hw := hw h2 eh2
        exact e_v B hr hH hw dX5_goOn_45
      · replace hw := hw.2 c1
        refine lv_aload_n B.1 B.2.1 dX5_goOn_10 rfl (lv_at hl 0 rfl) ?_
        refine lv_iload_n B.1 B.2.1 dX5_goOn_11 rfl (lv_at hl 2 rfl) ?_
        refine c_V_O (own := RX5) (As := [.int b2]) (rest := []) B hH (cy_X5_loopAt B.2.2.2.2.1) (ct_X5_loopAt B.2.2.2.2.2.2.2 l b0 b2 h _ _ (kb0) hw) ⟨⟨rfl, rfl⟩, Nat.le_of_ble_eq_true rfl, Nat.le_of_ble_eq_true rfl, Nat.zero_le _, Nat.zero_le _⟩ (rv_2 B hH (kb0)) (tw_495 B.2.2.2.2.1) rfl hl.1 rfl (Nat.le_of_ble_eq_true rfl) dX5_goOn_12 ?_
        clear hw hH
        intro r4 h3 H locs hw hH
        have kr4 := hw.2
        replace hw := hw.1
        refine x_astore_n (lv' := [(3, va_re (zA Z) r4), (0, .ref (zA Z b0)), (1, .int b1), (2, .int b2)]) B dX5_goOn_15 rfl hl (by decide) (by first | rfl | simp [va_re_cat]) ?_
        clear hl
        intro ls hl
        refine x_aload_n B dX5_goOn_16 rfl (lv_at hl 0 rfl) ?_
        refine x_ifnull (tgt := 29) B dX5_goOn_17 (by decide) (fun c6 => ?_) (fun j5 c6 => ?_)
        · replace hw := hw.1 c6
          subst c6
          obtain ⟨x7, ex7⟩ : ∃ y : Int32, y = b2 + 1 := ⟨_, rfl⟩
          replace hw := hw x7 ex7
          refine lv_iinc (v := x7) (lv' := [(2, .int x7), (3, va_re (zA Z) none), (0, .ref (zA Z b0)), (1, .int b1)]) B.1 B.2.1 dX5_goOn_29 hl (k := 3) rfl (by rw [ex7]; rfl) (by decide) (by first | rfl | simp [va_re_cat, Value.category]) ?_
          clear hl
          intro ls hl
          refine lv_goto (tgt := 2) B.1 B.2.1 dX5_goOn_32 (by decide) ?_
          exact ih x7 h3  _ _ _ hw hH (lv_sub hl [2, 3, 0] rfl)
        · replace hw := hw.2 j5 c6
          have kj5 := kr4 j5 c6
          subst c6
          refine lv_aload_n B.1 B.2.1 dX5_goOn_20 rfl (lv_at hl 0 rfl) ?_
          refine lv_aload_n B.1 B.2.1 dX5_goOn_21 rfl (lv_at hl 0 rfl) ?_
          refine lv_iload_n B.1 B.2.1 dX5_goOn_22 rfl (lv_at hl 2 rfl) ?_
          refine c_VN_I (own := RX5) (As := [.int b1]) (rest := [.ref (zA Z j5)]) B hH (cy_X0_phaseBehind B.2.2.2.2.1) (ct_X0_phaseBehind B.2.2.2.2.2.2.2 l j5 b1 h3 _ _ (kj5) hw) ⟨⟨rfl, rfl⟩, Nat.le_of_ble_eq_true rfl, Nat.le_of_ble_eq_true rfl, Nat.zero_le _, Nat.zero_le _⟩ (rv_4 B hH (kj5)) (tw_590 B.2.2.2.2.1) rfl hl.1 rfl (Nat.le_of_ble_eq_true rfl) dX5_goOn_23 ?_
          clear hw hH
          intro r9 h8 H locs hw hH
          refine r_putN B hH (own := RX5) (kd_n B (kj5) (by decide) (by decide)) (ct_4 (kj5)) rfl (ul_4 B.2.2.2.2.1) tyX0 tyX0_ok nmX0 6 (by decide) (ty := .int) rfl rfl rfl rfl (Nat.le_of_ble_eq_true rfl) (cs_4_6 (kj5)) (tw_78 B.2.2.2.2.1) dX5_goOn_26 ?_
          clear hH
          intro H locs hH
          obtain ⟨h10, eh10⟩ : ∃ z : PH, z = up2 h8 j5 6 r9 := ⟨_, rfl⟩
          rw [← eh10] at hH
          replace hw := hw h10 eh10
          obtain ⟨x11, ex11⟩ : ∃ y : Int32, y = b2 + 1 := ⟨_, rfl⟩
          replace hw := hw x11 ex11
          refine lv_iinc (v := x11) (lv' := [(2, .int x11), (3, .ref (zA Z j5)), (0, .ref (zA Z b0)), (1, .int b1)]) B.1 B.2.1 dX5_goOn_29 hl (k := 3) rfl (by rw [ex11]; rfl) (by decide) (by first | rfl | simp [va_re_cat, Value.category]) ?_
          clear hl
          intro ls hl
          refine lv_goto (tgt := 2) B.1 B.2.1 dX5_goOn_32 (by decide) ?_
          exact ih x11 h10  _ _ _ hw hH (lv_sub hl [2, 3, 0] rfl)
  refine lv_iconst (v := 0) B.1 B.2.1 dX5_goOn_0 (by decide) ?_
  refine lv_istore_n (lv' := [(2, .int 0), (0, .ref (zA Z a0)), (1, .int a1)]) B.1 B.2.1 dX5_goOn_1 rfl hl (by decide) (by first | rfl | simp [va_re_cat, Value.category]) ?_
  clear hl
  intro ls hl
  obtain ⟨n12, hw⟩ := hw
  exact L2 a0 a1 (k0) n12 0 h  _ _ _ hw hH (lv_sub hl [1, 2, 0] rfl)
theorem cy_X5_reasonAgainst {s : State} {args : Array Value} (hG : GG s) : CYS s args yX5_reasonAgainst cX5_reasonAgainst 4 (some .int) 4 := CYS.of hG (fun _ _ hG => tw_512 hG) (tw_2 hG) (tw_511 hG) (by decide +kernel)
set_option maxRecDepth 100000 in
set_option maxHeartbeats 4000000 in
theorem ct_X5_reasonAgainst {Z : ZT} (hZ : ZO Z) (l : Launch) (a0 : Option Nat) (a1 : Option Nat) (a2 : Int32) (a3 : Int32) (h : PH) (sz : Nat) (Q : Int32 → PH → Prop) (k0 : ∀ j, a0 = some j → kd j = 4) (k1 : ∀ j, a1 = some j → kd j = 3) (hw : wp_X5_reasonAgainst a0 a1 a2 a3 h Q) : MI Z l yX5_reasonAgainst cX5_reasonAgainst 4 (some .int) ({ frames := 2, cells := 0, slots := 0, locals := 42 } : Room) h sz [va_re (zA Z) a0, va_re (zA Z) a1, .int a2, .int a3] Q := by
  refine open_M hZ (by decide +kernel) (by rcases a0 with _ | _ <;> rcases a1 with _ | _ <;> exact Nat.le_of_ble_eq_true rfl) ?_
  intro p e s m below meth c B hr hsz ls hl hH
  subst hsz
  have hl : lv_has ls 4 [(0, va_re (zA Z) a0), (1, va_re (zA Z) a1), (2, .int a2), (3, .int a3)] := by
    have e9 : lv_args 0 [va_re (zA Z) a0, va_re (zA Z) a1, .int a2, .int a3] = [(0, va_re (zA Z) a0), (1, va_re (zA Z) a1), (2, .int a2), (3, .int a3)] := by rcases a0 with _ | _ <;> rcases a1 with _ | _ <;> rfl
    rw [e9] at hl
    exact hl
  unfold wp_X5_reasonAgainst at hw
  refine x_aload_n B dX5_reasonAgainst_0 rfl (lv_at hl 0 rfl) ?_
  refine x_ifnull (tgt := 13) B dX5_reasonAgainst_1 (by decide) (fun c2 => ?_) (fun j1 c2 => ?_)
  · replace hw := hw.1 c2
    subst c2
    refine lv_iconst (v := 1) B.1 B.2.1 dX5_reasonAgainst_13 (by decide) ?_
    exact e_i B hr hH hw dX5_reasonAgainst_14
  · replace hw := hw.2 j1 c2
    have kj1 := k0 j1 c2
    subst c2
    refine x_aload_n B dX5_reasonAgainst_4 rfl (lv_at hl 1 rfl) ?_
    refine x_ifnull (tgt := 13) B dX5_reasonAgainst_5 (by decide) (fun c4 => ?_) (fun j3 c4 => ?_)
    · replace hw := hw.1 c4
      subst c4
      refine lv_iconst (v := 1) B.1 B.2.1 dX5_reasonAgainst_13 (by decide) ?_
      exact e_i B hr hH hw dX5_reasonAgainst_14
    · replace hw := hw.2 j3 c4
      have kj3 := k1 j3 c4
      subst c4
      refine lv_iload_n B.1 B.2.1 dX5_reasonAgainst_8 rfl (lv_at hl 3 rfl) ?_
      refine lv_iload_n B.1 B.2.1 dX5_reasonAgainst_9 rfl (lv_at hl 2 rfl) ?_
      refine lv_icmp_gt (tgt := 15) B.1 B.2.1 dX5_reasonAgainst_10 (by decide) (fun c5 => ?_) (fun c5 => ?_)
      · replace hw := hw.1 c5
        refine lv_aload_n B.1 B.2.1 dX5_reasonAgainst_15 rfl (lv_at hl 1 rfl) ?_
        refine lv_iload_n B.1 B.2.1 dX5_reasonAgainst_16 rfl (lv_at hl 2 rfl) ?_
        refine c_VN_I (own := RX5) (As := [.int a2]) (rest := []) B hH (cy_X3_isQuiet B.2.2.2.2.1) (ct_X3_isQuiet B.2.2.2.2.2.2.2 l j3 a2 h _ _ (kj3) hw) ⟨⟨rfl, rfl⟩, Nat.le_of_ble_eq_true rfl, Nat.le_of_ble_eq_true rfl, Nat.zero_le _, Nat.zero_le _⟩ (rv_3 B hH (kj3)) (tw_513 B.2.2.2.2.1) rfl hl.1 rfl (Nat.le_of_ble_eq_true rfl) dX5_reasonAgainst_17 ?_
        clear hw hH
        intro r7 h6 H locs hw hH
        refine lv_if_ne (tgt := 25) B.1 B.2.1 dX5_reasonAgainst_20 (by decide) (fun c8 => ?_) (fun c8 => ?_)
        · replace hw := hw.1 c8
          refine lv_aload_n B.1 B.2.1 dX5_reasonAgainst_25 rfl (lv_at hl 1 rfl) ?_
          refine lv_iload_n B.1 B.2.1 dX5_reasonAgainst_26 rfl (lv_at hl 3 rfl) ?_
          refine c_VN_I (own := RX5) (As := [.int a3]) (rest := []) B hH (cy_X3_isQuiet B.2.2.2.2.1) (ct_X3_isQuiet B.2.2.2.2.2.2.2 l j3 a3 h6 _ _ (kj3) hw) ⟨⟨rfl, rfl⟩, Nat.le_of_ble_eq_true rfl, Nat.le_of_ble_eq_true rfl, Nat.zero_le _, Nat.zero_le _⟩ (rv_3 B hH (kj3)) (tw_513 B.2.2.2.2.1) rfl hl.1 rfl (Nat.le_of_ble_eq_true rfl) dX5_reasonAgainst_27 ?_
          clear hw hH
          intro r10 h9 H locs hw hH
          refine lv_if_ne (tgt := 35) B.1 B.2.1 dX5_reasonAgainst_30 (by decide) (fun c11 => ?_) (fun c11 => ?_)
          · replace hw := hw.1 c11
            refine lv_aload_n B.1 B.2.1 dX5_reasonAgainst_35 rfl (lv_at hl 0 rfl) ?_
            refine r_getN B hH (own := RX5) (kd_n B (kj1) (by decide) (by decide)) (ct_4 (kj1)) rfl (ul_4 B.2.2.2.2.1) 2 (by decide) rfl (tw_67 B.2.2.2.2.1) dX5_reasonAgainst_36 ?_
            refine lv_iload_n B.1 B.2.1 dX5_reasonAgainst_39 rfl (lv_at hl 3 rfl) ?_
            refine lv_iadd B.1 B.2.1 dX5_reasonAgainst_40 ?_
            refine lv_iload_n B.1 B.2.1 dX5_reasonAgainst_41 rfl (lv_at hl 2 rfl) ?_
            refine lv_isub B.1 B.2.1 dX5_reasonAgainst_42 ?_
            refine lv_bipush (v := 48) B.1 B.2.1 dX5_reasonAgainst_43 (by decide) ?_
            refine lv_icmp_le (tgt := 50) B.1 B.2.1 dX5_reasonAgainst_45 (by decide) (fun c12 => ?_) (fun c12 => ?_)
            · replace hw := hw.1 c12
              refine lv_aload_n B.1 B.2.1 dX5_reasonAgainst_50 rfl (lv_at hl 0 rfl) ?_
              refine r_getN B hH (own := RX5) (kd_n B (kj1) (by decide) (by decide)) (ct_4 (kj1)) rfl (ul_4 B.2.2.2.2.1) 3 (by decide) rfl (tw_71 B.2.2.2.2.1) dX5_reasonAgainst_51 ?_
              refine lv_bipush (v := 6) B.1 B.2.1 dX5_reasonAgainst_54 (by decide) ?_
              refine lv_icmp_lt (tgt := 63) B.1 B.2.1 dX5_reasonAgainst_56 (by decide) (fun c13 => ?_) (fun c13 => ?_)
              · replace hw := hw.1 c13
                refine lv_iconst (v := 0) B.1 B.2.1 dX5_reasonAgainst_63 (by decide) ?_
                exact e_i B hr hH hw dX5_reasonAgainst_64
              · replace hw := hw.2 c13
                refine lv_iconst (v := 5) B.1 B.2.1 dX5_reasonAgainst_59 (by decide) ?_
                refine lv_goto (tgt := 64) B.1 B.2.1 dX5_reasonAgainst_60 (by decide) ?_
                exact e_i B hr hH hw dX5_reasonAgainst_64
            · replace hw := hw.2 c12
              refine lv_iconst (v := 4) B.1 B.2.1 dX5_reasonAgainst_48 (by decide) ?_
              exact e_i B hr hH hw dX5_reasonAgainst_49
          · replace hw := hw.2 c11
            refine lv_iconst (v := 3) B.1 B.2.1 dX5_reasonAgainst_33 (by decide) ?_
            exact e_i B hr hH hw dX5_reasonAgainst_34
        · replace hw := hw.2 c8
          refine lv_iconst (v := 2) B.1 B.2.1 dX5_reasonAgainst_23 (by decide) ?_
          exact e_i B hr hH hw dX5_reasonAgainst_24
      · replace hw := hw.2 c5
        refine lv_iconst (v := 1) B.1 B.2.1 dX5_reasonAgainst_13 (by decide) ?_
        exact e_i B hr hH hw dX5_reasonAgainst_14
theorem cy_X5_joinTo {s : State} {args : Array Value} (hG : GG s) : CYV s args yX5_joinTo cX5_joinTo 6 (some .int) 4 := CYV.of hG (fun _ _ hG => tw_549 hG) (tw_2 hG) (tw_548 hG) (tp_29 hG) (by decide +kernel)
set_option maxRecDepth 100000 in
set_option maxHeartbeats 4000000 in
theorem ct_X5_joinTo {Z : ZT} (hZ : ZO Z) (l : Launch) (a0 : Nat) (a1 : Option Nat) (a2 : Option Nat) (a3 : Int32) (a4 : Int32) (h : PH) (sz : Nat) (Q : Int32 → PH → Prop) (k0 : kd a0 = 2) (k1 : ∀ j, a1 = some j → kd j = 4) (k2 : ∀ j, a2 = some j → kd j = 3) (hw : wp_X5_joinTo a0 a1 a2 a3 a4 h Q) : MI Z l yX5_joinTo cX5_joinTo 6 (some .int) ({ frames := 3, cells := 0, slots := 0, locals := 65 } : Room) h sz [.ref (zA Z a0), va_re (zA Z) a1, va_re (zA Z) a2, .int a3, .int a4] Q := by
  refine open_M hZ (by decide +kernel) (by rcases a1 with _ | _ <;> rcases a2 with _ | _ <;> exact Nat.le_of_ble_eq_true rfl) ?_
  intro p e s m below meth c B hr hsz ls hl hH
  subst hsz
  have hl : lv_has ls 6 [(0, .ref (zA Z a0)), (1, va_re (zA Z) a1), (2, va_re (zA Z) a2), (3, .int a3), (4, .int a4)] := by
    have e9 : lv_args 0 [.ref (zA Z a0), va_re (zA Z) a1, va_re (zA Z) a2, .int a3, .int a4] = [(0, .ref (zA Z a0)), (1, va_re (zA Z) a1), (2, va_re (zA Z) a2), (3, .int a3), (4, .int a4)] := by rcases a1 with _ | _ <;> rcases a2 with _ | _ <;> rfl
    rw [e9] at hl
    exact hl
  unfold wp_X5_joinTo at hw
  refine x_aload_n B dX5_joinTo_0 rfl (lv_at hl 1 rfl) ?_
  refine x_aload_n B dX5_joinTo_1 rfl (lv_at hl 2 rfl) ?_
  refine lv_iload_n B.1 B.2.1 dX5_joinTo_2 rfl (lv_at hl 3 rfl) ?_
  refine lv_iload B.1 B.2.1 dX5_joinTo_3 (lv_at hl 4 rfl) ?_
  refine c_S_I (own := RX5) (As := [va_re (zA Z) a1, va_re (zA Z) a2, .int a3, .int a4]) (rest := []) B hH (cy_X5_reasonAgainst B.2.2.2.2.1) (ct_X5_reasonAgainst B.2.2.2.2.2.2.2 l a1 a2 a3 a4 h _ _ (k1) (k2) hw) ⟨⟨rfl, rfl⟩, Nat.le_of_ble_eq_true rfl, Nat.le_of_ble_eq_true rfl, Nat.zero_le _, Nat.zero_le _⟩ (tw_510 B.2.2.2.2.1) rfl hl.1 rfl (Nat.le_of_ble_eq_true rfl) dX5_joinTo_5 ?_
  clear hw hH
  intro r2 h1 H locs hw hH
  refine lv_istore (lv' := [(5, .int r2), (0, .ref (zA Z a0)), (1, va_re (zA Z) a1), (2, va_re (zA Z) a2), (3, .int a3), (4, .int a4)]) B.1 B.2.1 dX5_joinTo_8 hl (by decide) (by first | rfl | simp [va_re_cat, Value.category]) ?_
  clear hl
  intro ls hl
  refine lv_iload B.1 B.2.1 dX5_joinTo_10 (lv_at hl 0 rfl) ?_
  refine lv_if_eq (tgt := 28) B.1 B.2.1 dX5_joinTo_12 (by decide) (fun c3 => ?_) (fun c3 => ?_)
  · replace hw := hw.1 c3
    refine x_aload_n B dX5_joinTo_28 rfl (lv_at hl 2 rfl) ?_
    refine x_ifnull (tgt := 44) B dX5_joinTo_29 (by decide) (fun c5 => ?_) (fun j4 c5 => ?_)
    · replace hw := hw.1 c5
      subst c5
      refine lv_iload B.1 B.2.1 dX5_joinTo_44 (lv_at hl 0 rfl) ?_
      exact e_i B hr hH hw dX5_joinTo_46
    · replace hw := hw.2 j4 c5
      have kj4 := k1 j4 c5
      subst c5
      refine x_aload_n B dX5_joinTo_32 rfl (lv_at hl 3 rfl) ?_
      refine x_ifnull (tgt := 44) B dX5_joinTo_33 (by decide) (fun c7 => ?_) (fun j6 c7 => ?_)
      · replace hw := hw.1 c7
        subst c7
        refine lv_iload B.1 B.2.1 dX5_joinTo_44 (lv_at hl 0 rfl) ?_
        exact e_i B hr hH hw dX5_joinTo_46
      · replace hw := hw.2 j6 c7
        have kj6 := k2 j6 c7
        subst c7
        refine lv_aload_n B.1 B.2.1 dX5_joinTo_36 rfl (lv_at hl 2 rfl) ?_
        refine lv_aload_n B.1 B.2.1 dX5_joinTo_37 rfl (lv_at hl 3 rfl) ?_
        refine lv_iload_n B.1 B.2.1 dX5_joinTo_38 rfl (lv_at hl 4 rfl) ?_
        refine lv_iload B.1 B.2.1 dX5_joinTo_39 (lv_at hl 5 rfl) ?_
        refine c_VN_V (own := RX5) (As := [.ref (zA Z j6), .int a3, .int a4]) (rest := []) B hH (cy_X0_join B.2.2.2.2.1) (ct_X0_join B.2.2.2.2.2.2.2 l j4 j6 a3 a4 h1 _ _ (kj4) (kj6) hw) ⟨⟨rfl, rfl⟩, Nat.le_of_ble_eq_true rfl, Nat.le_of_ble_eq_true rfl, Nat.zero_le _, Nat.zero_le _⟩ (rv_4 B hH (kj4)) (tw_550 B.2.2.2.2.1) rfl hl.1 rfl (Nat.le_of_ble_eq_true rfl) dX5_joinTo_41 ?_
        clear hw hH
        intro h8 H locs hw hH
        refine lv_iload B.1 B.2.1 dX5_joinTo_44 (lv_at hl 0 rfl) ?_
        exact e_i B hr hH hw dX5_joinTo_46
  · replace hw := hw.2 c3
    refine lv_aload_n B.1 B.2.1 dX5_joinTo_15 rfl (lv_at hl 1 rfl) ?_
    refine lv_dup B.1 B.2.1 dX5_joinTo_16 rfl ?_
    refine r_get B hH (own := RX5) (kd_n B (k0) (by decide) (by decide)) (ct_2 (k0)) rfl (ul_2 B.2.2.2.2.1) 5 (by decide) rfl (tw_108 B.2.2.2.2.1) dX5_joinTo_17 ?_
    refine lv_iconst (v := 1) B.1 B.2.1 dX5_joinTo_20 (by decide) ?_
    refine lv_iadd B.1 B.2.1 dX5_joinTo_21 ?_
    refine r_put B hH (own := RX5) (kd_n B (k0) (by decide) (by decide)) (ct_2 (k0)) rfl (ul_2 B.2.2.2.2.1) tyX5 tyX5_ok nmX5 5 (by decide) (ty := .int) rfl rfl rfl rfl (Nat.le_of_ble_eq_true rfl) (cs_2_5 (k0)) (tw_108 B.2.2.2.2.1) dX5_joinTo_22 ?_
    clear hH
    intro H locs hH
    obtain ⟨h9, eh9⟩ : ∃ z : PH, z = up2 h1 a0 5 ((h1 a0 5) + 1) := ⟨_, rfl⟩
    rw [← eh9] at hH
    replace hw := hw h9 eh9
    refine lv_goto (tgt := 44) B.1 B.2.1 dX5_joinTo_25 (by decide) ?_
    refine lv_iload B.1 B.2.1 dX5_joinTo_44 (lv_at hl 0 rfl) ?_
    exact e_i B hr hH hw dX5_joinTo_46
theorem cy_X5_layOn {s : State} {args : Array Value} (hG : GG s) : CYS s args yX5_layOn cX5_layOn 4 (some .int) 4 := CYS.of hG (fun _ _ hG => tw_532 hG) (tw_2 hG) (tw_531 hG) (by decide +kernel)
set_option maxRecDepth 100000 in
set_option maxHeartbeats 4000000 in
theorem ct_X5_layOn {Z : ZT} (hZ : ZO Z) (l : Launch) (a0 : Option Nat) (a1 : Int32) (a2 : Int32) (a3 : Int32) (h : PH) (sz : Nat) (Q : Int32 → PH → Prop) (k0 : ∀ j, a0 = some j → kd j = 3) (hw : wp_X5_layOn a0 a1 a2 a3 h Q) : MI Z l yX5_layOn cX5_layOn 4 (some .int) ({ frames := 2, cells := 0, slots := 0, locals := 47 } : Room) h sz [va_re (zA Z) a0, .int a1, .int a2, .int a3] Q := by
  refine open_M hZ (by decide +kernel) (by rcases a0 with _ | _ <;> exact Nat.le_of_ble_eq_true rfl) ?_
  intro p e s m below meth c B hr hsz ls hl hH
  subst hsz
  have hl : lv_has ls 4 [(0, va_re (zA Z) a0), (1, .int a1), (2, .int a2), (3, .int a3)] := by
    have e9 : lv_args 0 [va_re (zA Z) a0, .int a1, .int a2, .int a3] = [(0, va_re (zA Z) a0), (1, .int a1), (2, .int a2), (3, .int a3)] := by rcases a0 with _ | _ <;> rfl
    rw [e9] at hl
    exact hl
  unfold wp_X5_layOn at hw
  refine x_aload_n B dX5_layOn_0 rfl (lv_at hl 0 rfl) ?_
  refine x_ifnonnull (tgt := 8) B dX5_layOn_1 (by decide) (fun j1 c2 => ?_) (fun c2 => ?_)
  · replace hw := hw.2 j1 c2
    have kj1 := k0 j1 c2
    subst c2
    refine lv_aload_n B.1 B.2.1 dX5_layOn_8 rfl (lv_at hl 0 rfl) ?_
    refine lv_iload_n B.1 B.2.1 dX5_layOn_9 rfl (lv_at hl 1 rfl) ?_
    refine lv_iload_n B.1 B.2.1 dX5_layOn_10 rfl (lv_at hl 2 rfl) ?_
    refine lv_iload_n B.1 B.2.1 dX5_layOn_11 rfl (lv_at hl 3 rfl) ?_
    refine c_VN_I (own := RX5) (As := [.int a1, .int a2, .int a3]) (rest := []) B hH (cy_X3_lay B.2.2.2.2.1) (ct_X3_lay B.2.2.2.2.2.2.2 l j1 a1 a2 a3 h _ _ (kj1) hw) ⟨⟨rfl, rfl⟩, Nat.le_of_ble_eq_true rfl, Nat.le_of_ble_eq_true rfl, Nat.zero_le _, Nat.zero_le _⟩ (rv_3 B hH (kj1)) (tw_533 B.2.2.2.2.1) rfl hl.1 rfl (Nat.le_of_ble_eq_true rfl) dX5_layOn_12 ?_
    clear hw hH
    intro r4 h3 H locs hw hH
    exact e_i B hr hH hw dX5_layOn_15
  · replace hw := hw.1 c2
    subst c2
    refine lv_iconst (v := 0) B.1 B.2.1 dX5_layOn_4 (by decide) ?_
    refine lv_goto (tgt := 15) B.1 B.2.1 dX5_layOn_5 (by decide) ?_
    exact e_i B hr hH hw dX5_layOn_15
theorem cy_X5_recordOn {s : State} {args : Array Value} (hG : GG s) : CYV s args yX5_recordOn cX5_recordOn 6 (some .int) 2 := CYV.of hG (fun _ _ hG => tw_594 hG) (tw_2 hG) (tw_593 hG) (tp_38 hG) (by decide +kernel)
set_option maxRecDepth 100000 in
set_option maxHeartbeats 4000000 in
theorem ct_X5_recordOn {Z : ZT} (hZ : ZO Z) (l : Launch) (a0 : Nat) (a1 : Option Nat) (a2 : Int32) (h : PH) (sz : Nat) (Q : Int32 → PH → Prop) (k0 : kd a0 = 2) (k1 : ∀ j, a1 = some j → kd j = 3) (hw : wp_X5_recordOn a0 a1 a2 h Q) : MI Z l yX5_recordOn cX5_recordOn 6 (some .int) ({ frames := 3, cells := 0, slots := 0, locals := 67 } : Room) h sz [.ref (zA Z a0), va_re (zA Z) a1, .int a2] Q := by
  refine open_M hZ (by decide +kernel) (by rcases a1 with _ | _ <;> exact Nat.le_of_ble_eq_true rfl) ?_
  intro p e s m below meth c B hr hsz ls hl hH
  subst hsz
  have hl : lv_has ls 6 [(0, .ref (zA Z a0)), (1, va_re (zA Z) a1), (2, .int a2)] := by
    have e9 : lv_args 0 [.ref (zA Z a0), va_re (zA Z) a1, .int a2] = [(0, .ref (zA Z a0)), (1, va_re (zA Z) a1), (2, .int a2)] := by rcases a1 with _ | _ <;> rfl
    rw [e9] at hl
    exact hl
  unfold wp_X5_recordOn at hw
  have L5 : ∀ (b0 : Nat) (b1 : Option Nat) (b2 : Int32), kd b0 = 2 → (∀ j, b1 = some j → kd j = 3) → ∀ (n : Nat) (b3 : Int32) (b4 : Int32) (h : PH), ∀ (H : Heap) (locs : List Loc) (ls : Array Slot), wp_X5_recordOn_b5 b0 b1 b2 Q n b3 b4 h → HH Z s h H locs → lv_has ls 6 [(0, .ref (zA Z b0)), (1, va_re (zA Z) b1), (2, .int b2), (3, .int b3), (4, .int b4)] → W p l e ({ frames := 3, cells := 0, slots := 0, locals := 67 } : Room) s m ([.ref (zA Z a0), va_re (zA Z) a1, .int a2]).toArray below meth c H locs 0 0 (MQ below (va_Qi Q (BZ Z) (fr Z s.heap.size)) ([.ref (zA Z a0), va_re (zA Z) a1, .int a2]).toArray s 0 0 (fr Z s.heap.size)) (F0 m 5 ls []) := by
    intro b0 b1 b2 kb0 kb1 n
    induction n with
    | zero => intro b3 b4 h H locs ls hw hH hl; exact absurd hw id
    | succ n ih =>
      intro b3 b4 h H locs ls hw hH hl
      unfold wp_X5_recordOn_b5 at hw
      refine lv_iload B.1 B.2.1 dX5_recordOn_5 (lv_at hl 4 rfl) ?_
      refine lv_iload_n B.1 B.2.1 dX5_recordOn_7 rfl (lv_at hl 2 rfl) ?_
      refine lv_icmp_ge (tgt := 50) B.1 B.2.1 dX5_recordOn_8 (by decide) (fun c1 => ?_) (fun c1 => ?_)
      · replace hw := hw.1 c1
        refine lv_aload_n B.1 B.2.1 dX5_recordOn_50 rfl (lv_at hl 0 rfl) ?_
        refine lv_iload_n B.1 B.2.1 dX5_recordOn_51 rfl (lv_at hl 2 rfl) ?_
        refine c_V_V (own := RX5) (As := [.int b2]) (rest := []) B hH (cy_X5_goOn B.2.2.2.2.1) (ct_X5_goOn B.2.2.2.2.2.2.2 l b0 b2 h _ _ (kb0) hw) ⟨⟨rfl, rfl⟩, Nat.le_of_ble_eq_true rfl, Nat.le_of_ble_eq_true rfl, Nat.zero_le _, Nat.zero_le _⟩ (rv_2 B hH (kb0)) (tw_586 B.2.2.2.2.1) rfl hl.1 rfl (Nat.le_of_ble_eq_true rfl) dX5_recordOn_52 ?_
        clear hw hH
        intro h2 H locs hw hH
        refine lv_iload_n B.1 B.2.1 dX5_recordOn_55 rfl (lv_at hl 3 rfl) ?_
        exact e_i B hr hH hw dX5_recordOn_56
      · replace hw := hw.2 c1
        refine lv_aload_n B.1 B.2.1 dX5_recordOn_11 rfl (lv_at hl 0 rfl) ?_
        refine lv_iload B.1 B.2.1 dX5_recordOn_12 (lv_at hl 4 rfl) ?_
        refine c_V_I (own := RX5) (As := [.int b4]) (rest := []) B hH (cy_X5_soundBehind B.2.2.2.2.1) (ct_X5_soundBehind B.2.2.2.2.2.2.2 l b0 b4 h _ _ (kb0) hw) ⟨⟨rfl, rfl⟩, Nat.le_of_ble_eq_true rfl, Nat.le_of_ble_eq_true rfl, Nat.zero_le _, Nat.zero_le _⟩ (rv_2 B hH (kb0)) (tw_578 B.2.2.2.2.1) rfl hl.1 rfl (Nat.le_of_ble_eq_true rfl) dX5_recordOn_14 ?_
        clear hw hH
        intro r4 h3 H locs hw hH
        refine lv_bipush (v := 9) B.1 B.2.1 dX5_recordOn_17 (by decide) ?_
        refine c_S_I (own := RX5) (As := [.int r4, .int 9]) (rest := []) B hH (cy_J9_min_7cf53 B.2.2.2.2.1) (ct_J9_min_7cf53 B.2.2.2.2.2.2.2 l r4 9 h3 _ _  hw) ⟨⟨rfl, rfl⟩, Nat.le_of_ble_eq_true rfl, Nat.le_of_ble_eq_true rfl, Nat.zero_le _, Nat.zero_le _⟩ (tw_595 B.2.2.2.2.1) rfl hl.1 rfl (Nat.le_of_ble_eq_true rfl) dX5_recordOn_19 ?_
        clear hw hH
        intro r6 h5 H locs hw hH
        refine lv_istore (lv' := [(5, .int r6), (0, .ref (zA Z b0)), (1, va_re (zA Z) b1), (2, .int b2), (3, .int b3), (4, .int b4)]) B.1 B.2.1 dX5_recordOn_22 hl (by decide) (by first | rfl | simp [va_re_cat, Value.category]) ?_
        clear hl
        intro ls hl
        refine x_aload_n B dX5_recordOn_24 rfl (lv_at hl 2 rfl) ?_
        refine x_ifnull (tgt := 39) B dX5_recordOn_25 (by decide) (fun c8 => ?_) (fun j7 c8 => ?_)
        · replace hw := hw.1 c8
          subst c8
          refine lv_iload_n B.1 B.2.1 dX5_recordOn_39 rfl (lv_at hl 4 rfl) ?_
          refine lv_iload B.1 B.2.1 dX5_recordOn_40 (lv_at hl 0 rfl) ?_
          refine lv_iadd B.1 B.2.1 dX5_recordOn_42 ?_
          refine lv_topi (fun x9 ex9 => ?_)
          replace hw := hw x9 ex9
          refine lv_istore_n (lv' := [(3, .int x9), (5, .int r6), (0, .ref (zA Z b0)), (1, va_re (zA Z) none), (2, .int b2), (4, .int b4)]) B.1 B.2.1 dX5_recordOn_43 rfl hl (by decide) (by first | rfl | simp [va_re_cat, Value.category]) ?_
          clear hl
          intro ls hl
          obtain ⟨x10, ex10⟩ : ∃ y : Int32, y = b4 + 1 := ⟨_, rfl⟩
          replace hw := hw x10 ex10
          refine lv_iinc (v := x10) (lv' := [(4, .int x10), (3, .int x9), (5, .int r6), (0, .ref (zA Z b0)), (1, va_re (zA Z) none), (2, .int b2)]) B.1 B.2.1 dX5_recordOn_44 hl (k := 5) rfl (by rw [ex10]; rfl) (by decide) (by first | rfl | simp [va_re_cat, Value.category]) ?_
          clear hl
          intro ls hl
          refine lv_goto (tgt := 5) B.1 B.2.1 dX5_recordOn_47 (by decide) ?_
          exact ih x9 x10 h5  _ _ _ hw hH (lv_sub hl [3, 4, 5, 1, 0] rfl)
        · replace hw := hw.2 j7 c8
          have kj7 := kb1 j7 c8
          subst c8
          refine lv_aload_n B.1 B.2.1 dX5_recordOn_28 rfl (lv_at hl 2 rfl) ?_
          refine r_getN B hH (own := RX5) (kd_n B (kj7) (by decide) (by decide)) (ct_3 (kj7)) rfl (ul_3 B.2.2.2.2.1) 0 (by decide) rfl (tw_46 B.2.2.2.2.1) dX5_recordOn_29 ?_
          refine lv_iload B.1 B.2.1 dX5_recordOn_32 (lv_at hl 5 rfl) ?_
          refine lv_iload B.1 B.2.1 dX5_recordOn_34 (lv_at hl 0 rfl) ?_
          refine c_SN_V (own := RX5) (As := [.ref (zA Z (j7 + 1)), .int b4, .int r6]) (rest := []) B hH (cy_X7_put B.2.2.2.2.1) (ct_X7_put B.2.2.2.2.2.2.2 l (j7 + 1) b4 r6 h5 _ _ (kf_3_0 (kj7)) hw) ⟨⟨rfl, rfl⟩, Nat.le_of_ble_eq_true rfl, Nat.le_of_ble_eq_true rfl, Nat.zero_le _, Nat.zero_le _⟩ (tw_598 B.2.2.2.2.1) rfl hl.1 rfl (Nat.le_of_ble_eq_true rfl) dX5_recordOn_36 ?_
          clear hw hH
          intro h11 H locs hw hH
          refine lv_iload_n B.1 B.2.1 dX5_recordOn_39 rfl (lv_at hl 4 rfl) ?_
          refine lv_iload B.1 B.2.1 dX5_recordOn_40 (lv_at hl 0 rfl) ?_
          refine lv_iadd B.1 B.2.1 dX5_recordOn_42 ?_
          refine lv_topi (fun x12 ex12 => ?_)
          replace hw := hw x12 ex12
          refine lv_istore_n (lv' := [(3, .int x12), (5, .int r6), (0, .ref (zA Z b0)), (1, .ref (zA Z j7)), (2, .int b2), (4, .int b4)]) B.1 B.2.1 dX5_recordOn_43 rfl hl (by decide) (by first | rfl | simp [va_re_cat, Value.category]) ?_
          clear hl
          intro ls hl
          obtain ⟨x13, ex13⟩ : ∃ y : Int32, y = b4 + 1 := ⟨_, rfl⟩
          replace hw := hw x13 ex13
          refine lv_iinc (v := x13) (lv' := [(4, .int x13), (3, .int x12), (5, .int r6), (0, .ref (zA Z b0)), (1, .ref (zA Z j7)), (2, .int b2)]) B.1 B.2.1 dX5_recordOn_44 hl (k := 5) rfl (by rw [ex13]; rfl) (by decide) (by first | rfl | simp [va_re_cat, Value.category]) ?_
          clear hl
          intro ls hl
          refine lv_goto (tgt := 5) B.1 B.2.1 dX5_recordOn_47 (by decide) ?_
          exact ih x12 x13 h11  _ _ _ hw hH (lv_sub hl [3, 4, 5, 1, 0] rfl)
  refine lv_iconst (v := 0) B.1 B.2.1 dX5_recordOn_0 (by decide) ?_
  refine lv_istore_n (lv' := [(3, .int 0), (0, .ref (zA Z a0)), (1, va_re (zA Z) a1), (2, .int a2)]) B.1 B.2.1 dX5_recordOn_1 rfl hl (by decide) (by first | rfl | simp [va_re_cat, Value.category]) ?_
  clear hl
  intro ls hl
  refine lv_iconst (v := 0) B.1 B.2.1 dX5_recordOn_2 (by decide) ?_
  refine lv_istore (lv' := [(4, .int 0), (3, .int 0), (0, .ref (zA Z a0)), (1, va_re (zA Z) a1), (2, .int a2)]) B.1 B.2.1 dX5_recordOn_3 hl (by decide) (by first | rfl | simp [va_re_cat, Value.category]) ?_
  clear hl
  intro ls hl
  obtain ⟨n14, hw⟩ := hw
  exact L5 a0 a1 a2 (k0) (k1) n14 0 0 h  _ _ _ hw hH (lv_sub hl [2, 3, 4, 1, 0] rfl)
theorem cy_X5_takeOff {s : State} {args : Array Value} (hG : GG s) : CYS s args yX5_takeOff cX5_takeOff 1 (some .int) 1 := CYS.of hG (fun _ _ hG => tw_558 hG) (tw_2 hG) (tw_557 hG) (by decide +kernel)
set_option maxRecDepth 100000 in
set_option maxHeartbeats 4000000 in
theorem ct_X5_takeOff {Z : ZT} (hZ : ZO Z) (l : Launch) (a0 : Option Nat) (h : PH) (sz : Nat) (Q : Int32 → PH → Prop) (k0 : ∀ j, a0 = some j → kd j = 4) (hw : wp_X5_takeOff a0 h Q) : MI Z l yX5_takeOff cX5_takeOff 1 (some .int) ({ frames := 2, cells := 0, slots := 0, locals := 41 } : Room) h sz [va_re (zA Z) a0] Q := by
  refine open_M hZ (by decide +kernel) (by rcases a0 with _ | _ <;> exact Nat.le_of_ble_eq_true rfl) ?_
  intro p e s m below meth c B hr hsz ls hl hH
  subst hsz
  have hl : lv_has ls 1 [(0, va_re (zA Z) a0)] := by
    have e9 : lv_args 0 [va_re (zA Z) a0] = [(0, va_re (zA Z) a0)] := by rcases a0 with _ | _ <;> rfl
    rw [e9] at hl
    exact hl
  unfold wp_X5_takeOff at hw
  refine x_aload_n B dX5_takeOff_0 rfl (lv_at hl 0 rfl) ?_
  refine x_ifnonnull (tgt := 8) B dX5_takeOff_1 (by decide) (fun j1 c2 => ?_) (fun c2 => ?_)
  · replace hw := hw.2 j1 c2
    have kj1 := k0 j1 c2
    subst c2
    refine lv_aload_n B.1 B.2.1 dX5_takeOff_8 rfl (lv_at hl 0 rfl) ?_
    refine c_VN_I (own := RX5) (As := []) (rest := []) B hH (cy_X0_takeOff B.2.2.2.2.1) (ct_X0_takeOff B.2.2.2.2.2.2.2 l j1 h _ _ (kj1) hw) ⟨⟨rfl, rfl⟩, Nat.le_of_ble_eq_true rfl, Nat.le_of_ble_eq_true rfl, Nat.zero_le _, Nat.zero_le _⟩ (rv_4 B hH (kj1)) (tw_559 B.2.2.2.2.1) rfl hl.1 rfl (Nat.le_of_ble_eq_true rfl) dX5_takeOff_9 ?_
    clear hw hH
    intro r4 h3 H locs hw hH
    exact e_i B hr hH hw dX5_takeOff_12
  · replace hw := hw.1 c2
    subst c2
    refine lv_iconst (v := 0) B.1 B.2.1 dX5_takeOff_4 (by decide) ?_
    refine lv_goto (tgt := 12) B.1 B.2.1 dX5_takeOff_5 (by decide) ?_
    exact e_i B hr hH hw dX5_takeOff_12
theorem cy_X5_carryOut {s : State} {args : Array Value} (hG : GG s) : CYV s args yX5_carryOut cX5_carryOut 6 (some .int) 5 := CYV.of hG (fun _ _ hG => tw_521 hG) (tw_2 hG) (tw_520 hG) (tp_23 hG) (by decide +kernel)
set_option maxRecDepth 100000 in
set_option maxHeartbeats 4000000 in
theorem ct_X5_carryOut {Z : ZT} (hZ : ZO Z) (l : Launch) (a0 : Nat) (a1 : Int32) (a2 : Int32) (a3 : Int32) (a4 : Int32) (a5 : Int32) (h : PH) (sz : Nat) (Q : Int32 → PH → Prop) (k0 : kd a0 = 2) (hw : wp_X5_carryOut a0 a1 a2 a3 a4 a5 h Q) : MI Z l yX5_carryOut cX5_carryOut 6 (some .int) ({ frames := 4, cells := 0, slots := 0, locals := 92 } : Room) h sz [.ref (zA Z a0), .int a1, .int a2, .int a3, .int a4, .int a5] Q := by
  refine open_M hZ (by decide +kernel) (by exact Nat.le_of_ble_eq_true rfl) ?_
  intro p e s m below meth c B hr hsz ls hl hH
  subst hsz
  have hl : lv_has ls 6 [(0, .ref (zA Z a0)), (1, .int a1), (2, .int a2), (3, .int a3), (4, .int a4), (5, .int a5)] := hl
  unfold wp_X5_carryOut at hw
  refine lv_iload_n B.1 B.2.1 dX5_carryOut_0 rfl (lv_at hl 1 rfl) ?_
  by_cases c1 : (a1 = 99)
  · replace hw := hw.1 c1
    refine lv_tableIn (off := 124) (tgt := 125) B.1 B.2.1 dX5_carryOut_1 (by rw [c1]; decide) (by rw [c1]; decide) (by rw [c1]; rfl) (by decide) ?_
    refine lv_aload_n B.1 B.2.1 dX5_carryOut_125 rfl (lv_at hl 0 rfl) ?_
    refine lv_aload_n B.1 B.2.1 dX5_carryOut_126 rfl (lv_at hl 0 rfl) ?_
    refine lv_iload_n B.1 B.2.1 dX5_carryOut_127 rfl (lv_at hl 2 rfl) ?_
    refine c_V_O (own := RX5) (As := [.int a2]) (rest := [.ref (zA Z a0)]) B hH (cy_X5_loopAt B.2.2.2.2.1) (ct_X5_loopAt B.2.2.2.2.2.2.2 l a0 a2 h _ _ (k0) hw) ⟨⟨rfl, rfl⟩, Nat.le_of_ble_eq_true rfl, Nat.le_of_ble_eq_true rfl, Nat.zero_le _, Nat.zero_le _⟩ (rv_2 B hH (k0)) (tw_495 B.2.2.2.2.1) rfl hl.1 rfl (Nat.le_of_ble_eq_true rfl) dX5_carryOut_128 ?_
    clear hw hH
    intro r3 h2 H locs hw hH
    have kr3 := hw.2
    replace hw := hw.1
    refine lv_aload_n B.1 B.2.1 dX5_carryOut_131 rfl (lv_at hl 0 rfl) ?_
    refine lv_iload_n B.1 B.2.1 dX5_carryOut_132 rfl (lv_at hl 3 rfl) ?_
    refine c_V_O (own := RX5) (As := [.int a3]) (rest := [va_re (zA Z) r3, .ref (zA Z a0)]) B hH (cy_X5_reelAt B.2.2.2.2.1) (ct_X5_reelAt B.2.2.2.2.2.2.2 l a0 a3 h2 _ _ (k0) hw) ⟨⟨rfl, rfl⟩, Nat.le_of_ble_eq_true rfl, Nat.le_of_ble_eq_true rfl, Nat.zero_le _, Nat.zero_le _⟩ (rv_2 B hH (k0)) (tw_483 B.2.2.2.2.1) rfl hl.1 rfl (by rcases r3 with _ | _ <;> exact Nat.le_of_ble_eq_true rfl) dX5_carryOut_133 ?_
    clear hw hH
    intro r5 h4 H locs hw hH
    have kr5 := hw.2
    replace hw := hw.1
    refine lv_iload B.1 B.2.1 dX5_carryOut_136 (lv_at hl 4 rfl) ?_
    refine lv_iload B.1 B.2.1 dX5_carryOut_138 (lv_at hl 5 rfl) ?_
    refine c_V_I (own := RX5) (As := [va_re (zA Z) r3, va_re (zA Z) r5, .int a4, .int a5]) (rest := []) B hH (cy_X5_joinTo B.2.2.2.2.1) (ct_X5_joinTo B.2.2.2.2.2.2.2 l a0 r3 r5 a4 a5 h4 _ _ (k0) (kr3) (kr5) hw) ⟨⟨rfl, rfl⟩, Nat.le_of_ble_eq_true rfl, Nat.le_of_ble_eq_true rfl, Nat.zero_le _, Nat.zero_le _⟩ (rv_2 B hH (k0)) (tw_546 B.2.2.2.2.1) rfl hl.1 rfl (Nat.le_of_ble_eq_true rfl) dX5_carryOut_140 ?_
    clear hw hH
    intro r7 h6 H locs hw hH
    exact e_i B hr hH hw dX5_carryOut_143
  · by_cases c8 : (a1 = 100 ∨ a1 = 101 ∨ a1 = 102 ∨ a1 = 103 ∨ a1 = 104 ∨ a1 = 105 ∨ a1 = 106 ∨ a1 = 107 ∨ a1 = 110 ∨ a1 = 111 ∨ a1 = 113 ∨ a1 = 115)
    · replace hw := hw.2.1 c8
      refine lv_tableIn (off := 206) (tgt := 207) B.1 B.2.1 dX5_carryOut_1 (by rcases c8 with e9 | e9 | e9 | e9 | e9 | e9 | e9 | e9 | e9 | e9 | e9 | e9 <;> rw [e9] <;> decide) (by rcases c8 with e9 | e9 | e9 | e9 | e9 | e9 | e9 | e9 | e9 | e9 | e9 | e9 <;> rw [e9] <;> decide) (by rcases c8 with e9 | e9 | e9 | e9 | e9 | e9 | e9 | e9 | e9 | e9 | e9 | e9 <;> rw [e9] <;> rfl) (by decide) ?_
      refine lv_iconst (v := (-1)) B.1 B.2.1 dX5_carryOut_207 (by decide) ?_
      exact e_i B hr hH hw dX5_carryOut_208
    · by_cases c9 : (a1 = 108)
      · replace hw := hw.2.2.1 c9
        refine lv_tableIn (off := 119) (tgt := 120) B.1 B.2.1 dX5_carryOut_1 (by rw [c9]; decide) (by rw [c9]; decide) (by rw [c9]; rfl) (by decide) ?_
        refine lv_aload_n B.1 B.2.1 dX5_carryOut_120 rfl (lv_at hl 0 rfl) ?_
        refine c_V_I (own := RX5) (As := []) (rest := []) B hH (cy_X5_addLoop B.2.2.2.2.1) (ct_X5_addLoop B.2.2.2.2.2.2.2 l a0 h _ _ (k0) hw) ⟨⟨rfl, rfl⟩, Nat.le_of_ble_eq_true rfl, Nat.le_of_ble_eq_true rfl, Nat.zero_le _, Nat.zero_le _⟩ (rv_2 B hH (k0)) (tw_538 B.2.2.2.2.1) rfl hl.1 rfl (Nat.le_of_ble_eq_true rfl) dX5_carryOut_121 ?_
        clear hw hH
        intro r11 h10 H locs hw hH
        exact e_i B hr hH hw dX5_carryOut_124
      · by_cases c12 : (a1 = 109)
        · replace hw := hw.2.2.2.1 c12
          refine lv_tableIn (off := 164) (tgt := 165) B.1 B.2.1 dX5_carryOut_1 (by rw [c12]; decide) (by rw [c12]; decide) (by rw [c12]; rfl) (by decide) ?_
          refine lv_aload_n B.1 B.2.1 dX5_carryOut_165 rfl (lv_at hl 0 rfl) ?_
          refine lv_aload_n B.1 B.2.1 dX5_carryOut_166 rfl (lv_at hl 0 rfl) ?_
          refine lv_iload_n B.1 B.2.1 dX5_carryOut_167 rfl (lv_at hl 2 rfl) ?_
          refine c_V_O (own := RX5) (As := [.int a2]) (rest := [.ref (zA Z a0)]) B hH (cy_X5_loopAt B.2.2.2.2.1) (ct_X5_loopAt B.2.2.2.2.2.2.2 l a0 a2 h _ _ (k0) hw) ⟨⟨rfl, rfl⟩, Nat.le_of_ble_eq_true rfl, Nat.le_of_ble_eq_true rfl, Nat.zero_le _, Nat.zero_le _⟩ (rv_2 B hH (k0)) (tw_495 B.2.2.2.2.1) rfl hl.1 rfl (Nat.le_of_ble_eq_true rfl) dX5_carryOut_168 ?_
          clear hw hH
          intro r14 h13 H locs hw hH
          have kr14 := hw.2
          replace hw := hw.1
          refine lv_iload_n B.1 B.2.1 dX5_carryOut_171 rfl (lv_at hl 3 rfl) ?_
          refine lv_iconst (v := 1) B.1 B.2.1 dX5_carryOut_172 (by decide) ?_
          refine lv_icmp_ne (tgt := 180) B.1 B.2.1 dX5_carryOut_173 (by decide) (fun c15 => ?_) (fun c15 => ?_)
          · replace hw := hw.1 c15
            refine lv_iconst (v := 0) B.1 B.2.1 dX5_carryOut_180 (by decide) ?_
            refine c_V_I (own := RX5) (As := [va_re (zA Z) r14, .int 0]) (rest := []) B hH (cy_X5_changeMuted B.2.2.2.2.1) (ct_X5_changeMuted B.2.2.2.2.2.2.2 l a0 r14 0 h13 _ _ (k0) (kr14) hw) ⟨⟨rfl, rfl⟩, Nat.le_of_ble_eq_true rfl, Nat.le_of_ble_eq_true rfl, Nat.zero_le _, Nat.zero_le _⟩ (rv_2 B hH (k0)) (tw_574 B.2.2.2.2.1) rfl hl.1 rfl (Nat.le_of_ble_eq_true rfl) dX5_carryOut_181 ?_
            clear hw hH
            intro r17 h16 H locs hw hH
            exact e_i B hr hH hw dX5_carryOut_184
          · replace hw := hw.2 c15
            refine lv_iconst (v := 1) B.1 B.2.1 dX5_carryOut_176 (by decide) ?_
            refine lv_goto (tgt := 181) B.1 B.2.1 dX5_carryOut_177 (by decide) ?_
            refine c_V_I (own := RX5) (As := [va_re (zA Z) r14, .int 1]) (rest := []) B hH (cy_X5_changeMuted B.2.2.2.2.1) (ct_X5_changeMuted B.2.2.2.2.2.2.2 l a0 r14 1 h13 _ _ (k0) (kr14) hw) ⟨⟨rfl, rfl⟩, Nat.le_of_ble_eq_true rfl, Nat.le_of_ble_eq_true rfl, Nat.zero_le _, Nat.zero_le _⟩ (rv_2 B hH (k0)) (tw_574 B.2.2.2.2.1) rfl hl.1 rfl (Nat.le_of_ble_eq_true rfl) dX5_carryOut_181 ?_
            clear hw hH
            intro r19 h18 H locs hw hH
            exact e_i B hr hH hw dX5_carryOut_184
        · by_cases c20 : (a1 = 112)
          · replace hw := hw.2.2.2.2.1 c20
            refine lv_tableIn (off := 105) (tgt := 106) B.1 B.2.1 dX5_carryOut_1 (by rw [c20]; decide) (by rw [c20]; decide) (by rw [c20]; rfl) (by decide) ?_
            refine lv_aload_n B.1 B.2.1 dX5_carryOut_106 rfl (lv_at hl 0 rfl) ?_
            refine lv_iload_n B.1 B.2.1 dX5_carryOut_107 rfl (lv_at hl 2 rfl) ?_
            refine c_V_O (own := RX5) (As := [.int a2]) (rest := []) B hH (cy_X5_reelAt B.2.2.2.2.1) (ct_X5_reelAt B.2.2.2.2.2.2.2 l a0 a2 h _ _ (k0) hw) ⟨⟨rfl, rfl⟩, Nat.le_of_ble_eq_true rfl, Nat.le_of_ble_eq_true rfl, Nat.zero_le _, Nat.zero_le _⟩ (rv_2 B hH (k0)) (tw_483 B.2.2.2.2.1) rfl hl.1 rfl (Nat.le_of_ble_eq_true rfl) dX5_carryOut_108 ?_
            clear hw hH
            intro r22 h21 H locs hw hH
            have kr22 := hw.2
            replace hw := hw.1
            refine lv_iload_n B.1 B.2.1 dX5_carryOut_111 rfl (lv_at hl 3 rfl) ?_
            refine lv_iload B.1 B.2.1 dX5_carryOut_112 (lv_at hl 4 rfl) ?_
            refine lv_iload B.1 B.2.1 dX5_carryOut_114 (lv_at hl 5 rfl) ?_
            refine c_S_I (own := RX5) (As := [va_re (zA Z) r22, .int a3, .int a4, .int a5]) (rest := []) B hH (cy_X5_layOn B.2.2.2.2.1) (ct_X5_layOn B.2.2.2.2.2.2.2 l r22 a3 a4 a5 h21 _ _ (kr22) hw) ⟨⟨rfl, rfl⟩, Nat.le_of_ble_eq_true rfl, Nat.le_of_ble_eq_true rfl, Nat.zero_le _, Nat.zero_le _⟩ (tw_530 B.2.2.2.2.1) rfl hl.1 rfl (Nat.le_of_ble_eq_true rfl) dX5_carryOut_116 ?_
            clear hw hH
            intro r24 h23 H locs hw hH
            exact e_i B hr hH hw dX5_carryOut_119
          · by_cases c25 : (a1 = 114)
            · replace hw := hw.2.2.2.2.2.1 c25
              refine lv_tableIn (off := 99) (tgt := 100) B.1 B.2.1 dX5_carryOut_1 (by rw [c25]; decide) (by rw [c25]; decide) (by rw [c25]; rfl) (by decide) ?_
              refine lv_aload_n B.1 B.2.1 dX5_carryOut_100 rfl (lv_at hl 0 rfl) ?_
              refine lv_iload_n B.1 B.2.1 dX5_carryOut_101 rfl (lv_at hl 2 rfl) ?_
              refine c_V_I (own := RX5) (As := [.int a2]) (rest := []) B hH (cy_X5_addReel B.2.2.2.2.1) (ct_X5_addReel B.2.2.2.2.2.2.2 l a0 a2 h _ _ (k0) hw) ⟨⟨rfl, rfl⟩, Nat.le_of_ble_eq_true rfl, Nat.le_of_ble_eq_true rfl, Nat.zero_le _, Nat.zero_le _⟩ (rv_2 B hH (k0)) (tw_522 B.2.2.2.2.1) rfl hl.1 rfl (Nat.le_of_ble_eq_true rfl) dX5_carryOut_102 ?_
              clear hw hH
              intro r27 h26 H locs hw hH
              exact e_i B hr hH hw dX5_carryOut_105
            · by_cases c28 : (a1 = 116)
              · replace hw := hw.2.2.2.2.2.2.1 c28
                refine lv_tableIn (off := 184) (tgt := 185) B.1 B.2.1 dX5_carryOut_1 (by rw [c28]; decide) (by rw [c28]; decide) (by rw [c28]; rfl) (by decide) ?_
                refine lv_aload_n B.1 B.2.1 dX5_carryOut_185 rfl (lv_at hl 0 rfl) ?_
                refine lv_iload_n B.1 B.2.1 dX5_carryOut_186 rfl (lv_at hl 2 rfl) ?_
                refine c_V_V (own := RX5) (As := [.int a2]) (rest := []) B hH (cy_X5_goOn B.2.2.2.2.1) (ct_X5_goOn B.2.2.2.2.2.2.2 l a0 a2 h _ _ (k0) hw) ⟨⟨rfl, rfl⟩, Nat.le_of_ble_eq_true rfl, Nat.le_of_ble_eq_true rfl, Nat.zero_le _, Nat.zero_le _⟩ (rv_2 B hH (k0)) (tw_586 B.2.2.2.2.1) rfl hl.1 rfl (Nat.le_of_ble_eq_true rfl) dX5_carryOut_187 ?_
                clear hw hH
                intro h29 H locs hw hH
                refine lv_aload_n B.1 B.2.1 dX5_carryOut_190 rfl (lv_at hl 0 rfl) ?_
                refine lv_iconst (v := 0) B.1 B.2.1 dX5_carryOut_191 (by decide) ?_
                refine c_V_I (own := RX5) (As := [.int 0]) (rest := []) B hH (cy_X5_soundBehind B.2.2.2.2.1) (ct_X5_soundBehind B.2.2.2.2.2.2.2 l a0 0 h29 _ _ (k0) hw) ⟨⟨rfl, rfl⟩, Nat.le_of_ble_eq_true rfl, Nat.le_of_ble_eq_true rfl, Nat.zero_le _, Nat.zero_le _⟩ (rv_2 B hH (k0)) (tw_578 B.2.2.2.2.1) rfl hl.1 rfl (Nat.le_of_ble_eq_true rfl) dX5_carryOut_192 ?_
                clear hw hH
                intro r31 h30 H locs hw hH
                exact e_i B hr hH hw dX5_carryOut_195
              · by_cases c32 : (a1 = 117)
                · replace hw := hw.2.2.2.2.2.2.2.1 c32
                  refine lv_tableIn (off := 143) (tgt := 144) B.1 B.2.1 dX5_carryOut_1 (by rw [c32]; decide) (by rw [c32]; decide) (by rw [c32]; rfl) (by decide) ?_
                  refine lv_aload_n B.1 B.2.1 dX5_carryOut_144 rfl (lv_at hl 0 rfl) ?_
                  refine lv_iload_n B.1 B.2.1 dX5_carryOut_145 rfl (lv_at hl 2 rfl) ?_
                  refine c_V_O (own := RX5) (As := [.int a2]) (rest := []) B hH (cy_X5_loopAt B.2.2.2.2.1) (ct_X5_loopAt B.2.2.2.2.2.2.2 l a0 a2 h _ _ (k0) hw) ⟨⟨rfl, rfl⟩, Nat.le_of_ble_eq_true rfl, Nat.le_of_ble_eq_true rfl, Nat.zero_le _, Nat.zero_le _⟩ (rv_2 B hH (k0)) (tw_495 B.2.2.2.2.1) rfl hl.1 rfl (Nat.le_of_ble_eq_true rfl) dX5_carryOut_146 ?_
                  clear hw hH
                  intro r34 h33 H locs hw hH
                  have kr34 := hw.2
                  replace hw := hw.1
                  refine c_S_I (own := RX5) (As := [va_re (zA Z) r34]) (rest := []) B hH (cy_X5_takeOff B.2.2.2.2.1) (ct_X5_takeOff B.2.2.2.2.2.2.2 l r34 h33 _ _ (kr34) hw) ⟨⟨rfl, rfl⟩, Nat.le_of_ble_eq_true rfl, Nat.le_of_ble_eq_true rfl, Nat.zero_le _, Nat.zero_le _⟩ (tw_556 B.2.2.2.2.1) rfl hl.1 rfl (Nat.le_of_ble_eq_true rfl) dX5_carryOut_149 ?_
                  clear hw hH
                  intro r36 h35 H locs hw hH
                  exact e_i B hr hH hw dX5_carryOut_152
                · by_cases c37 : (a1 = 118)
                  · replace hw := hw.2.2.2.2.2.2.2.2.1 c37
                    refine lv_tableIn (off := 152) (tgt := 153) B.1 B.2.1 dX5_carryOut_1 (by rw [c37]; decide) (by rw [c37]; decide) (by rw [c37]; rfl) (by decide) ?_
                    refine lv_aload_n B.1 B.2.1 dX5_carryOut_153 rfl (lv_at hl 0 rfl) ?_
                    refine lv_iload_n B.1 B.2.1 dX5_carryOut_154 rfl (lv_at hl 2 rfl) ?_
                    refine c_V_O (own := RX5) (As := [.int a2]) (rest := []) B hH (cy_X5_loopAt B.2.2.2.2.1) (ct_X5_loopAt B.2.2.2.2.2.2.2 l a0 a2 h _ _ (k0) hw) ⟨⟨rfl, rfl⟩, Nat.le_of_ble_eq_true rfl, Nat.le_of_ble_eq_true rfl, Nat.zero_le _, Nat.zero_le _⟩ (rv_2 B hH (k0)) (tw_495 B.2.2.2.2.1) rfl hl.1 rfl (Nat.le_of_ble_eq_true rfl) dX5_carryOut_155 ?_
                    clear hw hH
                    intro r39 h38 H locs hw hH
                    have kr39 := hw.2
                    replace hw := hw.1
                    refine lv_iload_n B.1 B.2.1 dX5_carryOut_158 rfl (lv_at hl 3 rfl) ?_
                    refine lv_iload B.1 B.2.1 dX5_carryOut_159 (lv_at hl 4 rfl) ?_
                    refine c_S_I (own := RX5) (As := [va_re (zA Z) r39, .int a3, .int a4]) (rest := []) B hH (cy_X5_changeSpeed B.2.2.2.2.1) (ct_X5_changeSpeed B.2.2.2.2.2.2.2 l r39 a3 a4 h38 _ _ (kr39) hw) ⟨⟨rfl, rfl⟩, Nat.le_of_ble_eq_true rfl, Nat.le_of_ble_eq_true rfl, Nat.zero_le _, Nat.zero_le _⟩ (tw_563 B.2.2.2.2.1) rfl hl.1 rfl (Nat.le_of_ble_eq_true rfl) dX5_carryOut_161 ?_
                    clear hw hH
                    intro r41 h40 H locs hw hH
                    exact e_i B hr hH hw dX5_carryOut_164
                  · by_cases c42 : (a1 = 119)
                    · replace hw := hw.2.2.2.2.2.2.2.2.2.1 c42
                      refine lv_tableIn (off := 195) (tgt := 196) B.1 B.2.1 dX5_carryOut_1 (by rw [c42]; decide) (by rw [c42]; decide) (by rw [c42]; rfl) (by decide) ?_
                      refine lv_aload_n B.1 B.2.1 dX5_carryOut_196 rfl (lv_at hl 0 rfl) ?_
                      refine lv_aload_n B.1 B.2.1 dX5_carryOut_197 rfl (lv_at hl 0 rfl) ?_
                      refine lv_iload_n B.1 B.2.1 dX5_carryOut_198 rfl (lv_at hl 2 rfl) ?_
                      refine c_V_O (own := RX5) (As := [.int a2]) (rest := [.ref (zA Z a0)]) B hH (cy_X5_reelAt B.2.2.2.2.1) (ct_X5_reelAt B.2.2.2.2.2.2.2 l a0 a2 h _ _ (k0) hw) ⟨⟨rfl, rfl⟩, Nat.le_of_ble_eq_true rfl, Nat.le_of_ble_eq_true rfl, Nat.zero_le _, Nat.zero_le _⟩ (rv_2 B hH (k0)) (tw_483 B.2.2.2.2.1) rfl hl.1 rfl (Nat.le_of_ble_eq_true rfl) dX5_carryOut_199 ?_
                      clear hw hH
                      intro r44 h43 H locs hw hH
                      have kr44 := hw.2
                      replace hw := hw.1
                      refine lv_iload_n B.1 B.2.1 dX5_carryOut_202 rfl (lv_at hl 3 rfl) ?_
                      refine c_V_I (own := RX5) (As := [va_re (zA Z) r44, .int a3]) (rest := []) B hH (cy_X5_recordOn B.2.2.2.2.1) (ct_X5_recordOn B.2.2.2.2.2.2.2 l a0 r44 a3 h43 _ _ (k0) (kr44) hw) ⟨⟨rfl, rfl⟩, Nat.le_of_ble_eq_true rfl, Nat.le_of_ble_eq_true rfl, Nat.zero_le _, Nat.zero_le _⟩ (rv_2 B hH (k0)) (tw_591 B.2.2.2.2.1) rfl hl.1 rfl (Nat.le_of_ble_eq_true rfl) dX5_carryOut_203 ?_
                      clear hw hH
                      intro r46 h45 H locs hw hH
                      exact e_i B hr hH hw dX5_carryOut_206
                    · replace hw := hw.2.2.2.2.2.2.2.2.2.2 c1 (fun z => c8 (Or.inl z)) (fun z => c8 (Or.inr (Or.inl z))) (fun z => c8 (Or.inr (Or.inr (Or.inl z)))) (fun z => c8 (Or.inr (Or.inr (Or.inr (Or.inl z))))) (fun z => c8 (Or.inr (Or.inr (Or.inr (Or.inr (Or.inl z)))))) (fun z => c8 (Or.inr (Or.inr (Or.inr (Or.inr (Or.inr (Or.inl z))))))) (fun z => c8 (Or.inr (Or.inr (Or.inr (Or.inr (Or.inr (Or.inr (Or.inl z)))))))) (fun z => c8 (Or.inr (Or.inr (Or.inr (Or.inr (Or.inr (Or.inr (Or.inr (Or.inl z))))))))) c9 c12 (fun z => c8 (Or.inr (Or.inr (Or.inr (Or.inr (Or.inr (Or.inr (Or.inr (Or.inr (Or.inl z)))))))))) (fun z => c8 (Or.inr (Or.inr (Or.inr (Or.inr (Or.inr (Or.inr (Or.inr (Or.inr (Or.inr (Or.inl z))))))))))) c20 (fun z => c8 (Or.inr (Or.inr (Or.inr (Or.inr (Or.inr (Or.inr (Or.inr (Or.inr (Or.inr (Or.inr (Or.inl z)))))))))))) c25 (fun z => c8 (Or.inr (Or.inr (Or.inr (Or.inr (Or.inr (Or.inr (Or.inr (Or.inr (Or.inr (Or.inr (Or.inr z)))))))))))) c28 c32 c37 c42
                      have t99 := lv_neT (x := a1) (k := 99) (a := 99) c1 (by decide)
                      have t100 := lv_neT (x := a1) (k := 100) (a := 100) (fun z => c8 (Or.inl z)) (by decide)
                      have t101 := lv_neT (x := a1) (k := 101) (a := 101) (fun z => c8 (Or.inr (Or.inl z))) (by decide)
                      have t102 := lv_neT (x := a1) (k := 102) (a := 102) (fun z => c8 (Or.inr (Or.inr (Or.inl z)))) (by decide)
                      have t103 := lv_neT (x := a1) (k := 103) (a := 103) (fun z => c8 (Or.inr (Or.inr (Or.inr (Or.inl z))))) (by decide)
                      have t104 := lv_neT (x := a1) (k := 104) (a := 104) (fun z => c8 (Or.inr (Or.inr (Or.inr (Or.inr (Or.inl z)))))) (by decide)
                      have t105 := lv_neT (x := a1) (k := 105) (a := 105) (fun z => c8 (Or.inr (Or.inr (Or.inr (Or.inr (Or.inr (Or.inl z))))))) (by decide)
                      have t106 := lv_neT (x := a1) (k := 106) (a := 106) (fun z => c8 (Or.inr (Or.inr (Or.inr (Or.inr (Or.inr (Or.inr (Or.inl z)))))))) (by decide)
                      have t107 := lv_neT (x := a1) (k := 107) (a := 107) (fun z => c8 (Or.inr (Or.inr (Or.inr (Or.inr (Or.inr (Or.inr (Or.inr (Or.inl z))))))))) (by decide)
                      have t108 := lv_neT (x := a1) (k := 108) (a := 108) c9 (by decide)
                      have t109 := lv_neT (x := a1) (k := 109) (a := 109) c12 (by decide)
                      have t110 := lv_neT (x := a1) (k := 110) (a := 110) (fun z => c8 (Or.inr (Or.inr (Or.inr (Or.inr (Or.inr (Or.inr (Or.inr (Or.inr (Or.inl z)))))))))) (by decide)
                      have t111 := lv_neT (x := a1) (k := 111) (a := 111) (fun z => c8 (Or.inr (Or.inr (Or.inr (Or.inr (Or.inr (Or.inr (Or.inr (Or.inr (Or.inr (Or.inl z))))))))))) (by decide)
                      have t112 := lv_neT (x := a1) (k := 112) (a := 112) c20 (by decide)
                      have t113 := lv_neT (x := a1) (k := 113) (a := 113) (fun z => c8 (Or.inr (Or.inr (Or.inr (Or.inr (Or.inr (Or.inr (Or.inr (Or.inr (Or.inr (Or.inr (Or.inl z)))))))))))) (by decide)
                      have t114 := lv_neT (x := a1) (k := 114) (a := 114) c25 (by decide)
                      have t115 := lv_neT (x := a1) (k := 115) (a := 115) (fun z => c8 (Or.inr (Or.inr (Or.inr (Or.inr (Or.inr (Or.inr (Or.inr (Or.inr (Or.inr (Or.inr (Or.inr z)))))))))))) (by decide)
                      have t116 := lv_neT (x := a1) (k := 116) (a := 116) c28 (by decide)
                      have t117 := lv_neT (x := a1) (k := 117) (a := 117) c32 (by decide)
                      have t118 := lv_neT (x := a1) (k := 118) (a := 118) c37 (by decide)
                      have t119 := lv_neT (x := a1) (k := 119) (a := 119) c42 (by decide)
                      refine lv_tableOut (tgt := 207) B.1 B.2.1 dX5_carryOut_1 (by omega) (by decide) ?_
                      refine lv_iconst (v := (-1)) B.1 B.2.1 dX5_carryOut_207 (by decide) ?_
                      exact e_i B hr hH hw dX5_carryOut_208
theorem cy_X5_perform {s : State} {args : Array Value} (hG : GG s) : CYV s args yX5_perform cX5_perform 6 (some .boolean) 5 := CYV.of hG (fun _ _ hG => tw_478 hG) (tw_2 hG) (tw_477 hG) (tp_17 hG) (by decide +kernel)
set_option maxRecDepth 100000 in
set_option maxHeartbeats 4000000 in
theorem ct_X5_perform {Z : ZT} (hZ : ZO Z) (l : Launch) (a0 : Nat) (a1 : Int32) (a2 : Int32) (a3 : Int32) (a4 : Int32) (a5 : Int32) (h : PH) (sz : Nat) (Q : Int32 → PH → Prop) (k0 : kd a0 = 2) (hw : wp_X5_perform a0 a1 a2 a3 a4 a5 h Q) : MI Z l yX5_perform cX5_perform 6 (some .boolean) ({ frames := 5, cells := 0, slots := 0, locals := 117 } : Room) h sz [.ref (zA Z a0), .int a1, .int a2, .int a3, .int a4, .int a5] Q := by
  refine open_M hZ (by decide +kernel) (by exact Nat.le_of_ble_eq_true rfl) ?_
  intro p e s m below meth c B hr hsz ls hl hH
  subst hsz
  have hl : lv_has ls 6 [(0, .ref (zA Z a0)), (1, .int a1), (2, .int a2), (3, .int a3), (4, .int a4), (5, .int a5)] := hl
  unfold wp_X5_perform at hw
  refine lv_aload_n B.1 B.2.1 dX5_perform_0 rfl (lv_at hl 0 rfl) ?_
  refine lv_iload_n B.1 B.2.1 dX5_perform_1 rfl (lv_at hl 1 rfl) ?_
  refine lv_iload_n B.1 B.2.1 dX5_perform_2 rfl (lv_at hl 2 rfl) ?_
  refine lv_iload_n B.1 B.2.1 dX5_perform_3 rfl (lv_at hl 3 rfl) ?_
  refine lv_iload B.1 B.2.1 dX5_perform_4 (lv_at hl 4 rfl) ?_
  refine lv_iload B.1 B.2.1 dX5_perform_6 (lv_at hl 5 rfl) ?_
  refine c_V_I (own := RX5) (As := [.int a1, .int a2, .int a3, .int a4, .int a5]) (rest := []) B hH (cy_X5_whyNot B.2.2.2.2.1) (ct_X5_whyNot B.2.2.2.2.2.2.2 l a0 a1 a2 a3 a4 a5 h _ _ (k0) hw) ⟨⟨rfl, rfl⟩, Nat.le_of_ble_eq_true rfl, Nat.le_of_ble_eq_true rfl, Nat.zero_le _, Nat.zero_le _⟩ (rv_2 B hH (k0)) (tw_479 B.2.2.2.2.1) rfl hl.1 rfl (Nat.le_of_ble_eq_true rfl) dX5_perform_8 ?_
  clear hw hH
  intro r2 h1 H locs hw hH
  refine lv_if_eq (tgt := 16) B.1 B.2.1 dX5_perform_11 (by decide) (fun c3 => ?_) (fun c3 => ?_)
  · replace hw := hw.1 c3
    refine lv_iload_n B.1 B.2.1 dX5_perform_16 rfl (lv_at hl 1 rfl) ?_
    refine lv_bipush (v := 99) B.1 B.2.1 dX5_perform_17 (by decide) ?_
    refine lv_icmp_ne (tgt := 44) B.1 B.2.1 dX5_perform_19 (by decide) (fun c4 => ?_) (fun c4 => ?_)
    · replace hw := hw.1 c4
      refine lv_aload_n B.1 B.2.1 dX5_perform_44 rfl (lv_at hl 0 rfl) ?_
      refine lv_iload_n B.1 B.2.1 dX5_perform_45 rfl (lv_at hl 1 rfl) ?_
      refine lv_iload_n B.1 B.2.1 dX5_perform_46 rfl (lv_at hl 2 rfl) ?_
      refine lv_iload_n B.1 B.2.1 dX5_perform_47 rfl (lv_at hl 3 rfl) ?_
      refine lv_iload B.1 B.2.1 dX5_perform_48 (lv_at hl 4 rfl) ?_
      refine lv_iload B.1 B.2.1 dX5_perform_50 (lv_at hl 5 rfl) ?_
      refine c_V_I (own := RX5) (As := [.int a1, .int a2, .int a3, .int a4, .int a5]) (rest := []) B hH (cy_X5_carryOut B.2.2.2.2.1) (ct_X5_carryOut B.2.2.2.2.2.2.2 l a0 a1 a2 a3 a4 a5 h1 _ _ (k0) hw) ⟨⟨rfl, rfl⟩, Nat.le_of_ble_eq_true rfl, Nat.le_of_ble_eq_true rfl, Nat.zero_le _, Nat.zero_le _⟩ (rv_2 B hH (k0)) (tw_518 B.2.2.2.2.1) rfl hl.1 rfl (Nat.le_of_ble_eq_true rfl) dX5_perform_52 ?_
      clear hw hH
      intro r6 h5 H locs hw hH
      refine lv_pop B.1 B.2.1 dX5_perform_55 rfl ?_
      refine lv_iconst (v := 1) B.1 B.2.1 dX5_perform_56 (by decide) ?_
      exact e_z B hr (by decide) hH hw dX5_perform_57
    · replace hw := hw.2 c4
      refine lv_aload_n B.1 B.2.1 dX5_perform_22 rfl (lv_at hl 0 rfl) ?_
      refine lv_iload_n B.1 B.2.1 dX5_perform_23 rfl (lv_at hl 2 rfl) ?_
      refine c_V_O (own := RX5) (As := [.int a2]) (rest := []) B hH (cy_X5_loopAt B.2.2.2.2.1) (ct_X5_loopAt B.2.2.2.2.2.2.2 l a0 a2 h1 _ _ (k0) hw) ⟨⟨rfl, rfl⟩, Nat.le_of_ble_eq_true rfl, Nat.le_of_ble_eq_true rfl, Nat.zero_le _, Nat.zero_le _⟩ (rv_2 B hH (k0)) (tw_495 B.2.2.2.2.1) rfl hl.1 rfl (Nat.le_of_ble_eq_true rfl) dX5_perform_24 ?_
      clear hw hH
      intro r8 h7 H locs hw hH
      have kr8 := hw.2
      replace hw := hw.1
      refine lv_aload_n B.1 B.2.1 dX5_perform_27 rfl (lv_at hl 0 rfl) ?_
      refine lv_iload_n B.1 B.2.1 dX5_perform_28 rfl (lv_at hl 3 rfl) ?_
      refine c_V_O (own := RX5) (As := [.int a3]) (rest := [va_re (zA Z) r8]) B hH (cy_X5_reelAt B.2.2.2.2.1) (ct_X5_reelAt B.2.2.2.2.2.2.2 l a0 a3 h7 _ _ (k0) hw) ⟨⟨rfl, rfl⟩, Nat.le_of_ble_eq_true rfl, Nat.le_of_ble_eq_true rfl, Nat.zero_le _, Nat.zero_le _⟩ (rv_2 B hH (k0)) (tw_483 B.2.2.2.2.1) rfl hl.1 rfl (by rcases r8 with _ | _ <;> exact Nat.le_of_ble_eq_true rfl) dX5_perform_29 ?_
      clear hw hH
      intro r10 h9 H locs hw hH
      have kr10 := hw.2
      replace hw := hw.1
      refine lv_iload B.1 B.2.1 dX5_perform_32 (lv_at hl 4 rfl) ?_
      refine lv_iload B.1 B.2.1 dX5_perform_34 (lv_at hl 5 rfl) ?_
      refine c_S_I (own := RX5) (As := [va_re (zA Z) r8, va_re (zA Z) r10, .int a4, .int a5]) (rest := []) B hH (cy_X5_reasonAgainst B.2.2.2.2.1) (ct_X5_reasonAgainst B.2.2.2.2.2.2.2 l r8 r10 a4 a5 h9 _ _ (kr8) (kr10) hw) ⟨⟨rfl, rfl⟩, Nat.le_of_ble_eq_true rfl, Nat.le_of_ble_eq_true rfl, Nat.zero_le _, Nat.zero_le _⟩ (tw_510 B.2.2.2.2.1) rfl hl.1 rfl (Nat.le_of_ble_eq_true rfl) dX5_perform_36 ?_
      clear hw hH
      intro r12 h11 H locs hw hH
      refine lv_if_eq (tgt := 44) B.1 B.2.1 dX5_perform_39 (by decide) (fun c13 => ?_) (fun c13 => ?_)
      · replace hw := hw.1 c13
        refine lv_aload_n B.1 B.2.1 dX5_perform_44 rfl (lv_at hl 0 rfl) ?_
        refine lv_iload_n B.1 B.2.1 dX5_perform_45 rfl (lv_at hl 1 rfl) ?_
        refine lv_iload_n B.1 B.2.1 dX5_perform_46 rfl (lv_at hl 2 rfl) ?_
        refine lv_iload_n B.1 B.2.1 dX5_perform_47 rfl (lv_at hl 3 rfl) ?_
        refine lv_iload B.1 B.2.1 dX5_perform_48 (lv_at hl 4 rfl) ?_
        refine lv_iload B.1 B.2.1 dX5_perform_50 (lv_at hl 5 rfl) ?_
        refine c_V_I (own := RX5) (As := [.int a1, .int a2, .int a3, .int a4, .int a5]) (rest := []) B hH (cy_X5_carryOut B.2.2.2.2.1) (ct_X5_carryOut B.2.2.2.2.2.2.2 l a0 a1 a2 a3 a4 a5 h11 _ _ (k0) hw) ⟨⟨rfl, rfl⟩, Nat.le_of_ble_eq_true rfl, Nat.le_of_ble_eq_true rfl, Nat.zero_le _, Nat.zero_le _⟩ (rv_2 B hH (k0)) (tw_518 B.2.2.2.2.1) rfl hl.1 rfl (Nat.le_of_ble_eq_true rfl) dX5_perform_52 ?_
        clear hw hH
        intro r15 h14 H locs hw hH
        refine lv_pop B.1 B.2.1 dX5_perform_55 rfl ?_
        refine lv_iconst (v := 1) B.1 B.2.1 dX5_perform_56 (by decide) ?_
        exact e_z B hr (by decide) hH hw dX5_perform_57
      · replace hw := hw.2 c13
        refine lv_iconst (v := 0) B.1 B.2.1 dX5_perform_42 (by decide) ?_
        exact e_z B hr (by decide) hH hw dX5_perform_43
  · replace hw := hw.2 c3
    refine lv_iconst (v := 0) B.1 B.2.1 dX5_perform_14 (by decide) ?_
    exact e_z B hr (by decide) hH hw dX5_perform_15
theorem cy_X5_hasPhase {s : State} {args : Array Value} (hG : GG s) : CYS s args yX5_hasPhase cX5_hasPhase 2 (some .boolean) 2 := CYS.of hG (fun _ _ hG => tw_915 hG) (tw_2 hG) (tw_914 hG) (by decide +kernel)
set_option maxRecDepth 100000 in
set_option maxHeartbeats 4000000 in
theorem ct_X5_hasPhase {Z : ZT} (hZ : ZO Z) (l : Launch) (a0 : Option Nat) (a1 : Int32) (h : PH) (sz : Nat) (Q : Int32 → PH → Prop) (k0 : ∀ j, a0 = some j → kd j = 4) (hw : wp_X5_hasPhase a0 a1 h Q) : MI Z l yX5_hasPhase cX5_hasPhase 2 (some .boolean) ({ frames := 0, cells := 0, slots := 0, locals := 0 } : Room) h sz [va_re (zA Z) a0, .int a1] Q := by
  refine open_M hZ (by decide +kernel) (by rcases a0 with _ | _ <;> exact Nat.le_of_ble_eq_true rfl) ?_
  intro p e s m below meth c B hr hsz ls hl hH
  subst hsz
  have hl : lv_has ls 2 [(0, va_re (zA Z) a0), (1, .int a1)] := by
    have e9 : lv_args 0 [va_re (zA Z) a0, .int a1] = [(0, va_re (zA Z) a0), (1, .int a1)] := by rcases a0 with _ | _ <;> rfl
    rw [e9] at hl
    exact hl
  unfold wp_X5_hasPhase at hw
  refine x_aload_n B dX5_hasPhase_0 rfl (lv_at hl 0 rfl) ?_
  refine x_ifnull (tgt := 16) B dX5_hasPhase_1 (by decide) (fun c2 => ?_) (fun j1 c2 => ?_)
  · replace hw := hw.1 c2
    subst c2
    refine lv_iconst (v := 0) B.1 B.2.1 dX5_hasPhase_16 (by decide) ?_
    exact e_z B hr (by decide) hH hw dX5_hasPhase_17
  · replace hw := hw.2 j1 c2
    have kj1 := k0 j1 c2
    subst c2
    refine lv_aload_n B.1 B.2.1 dX5_hasPhase_4 rfl (lv_at hl 0 rfl) ?_
    refine r_getN B hH (own := RX5) (kd_n B (kj1) (by decide) (by decide)) (ct_4 (kj1)) rfl (ul_4 B.2.2.2.2.1) 6 (by decide) rfl (tw_78 B.2.2.2.2.1) dX5_hasPhase_5 ?_
    refine lv_iload_n B.1 B.2.1 dX5_hasPhase_8 rfl (lv_at hl 1 rfl) ?_
    refine lv_icmp_ne (tgt := 16) B.1 B.2.1 dX5_hasPhase_9 (by decide) (fun c3 => ?_) (fun c3 => ?_)
    · replace hw := hw.1 c3
      refine lv_iconst (v := 0) B.1 B.2.1 dX5_hasPhase_16 (by decide) ?_
      exact e_z B hr (by decide) hH hw dX5_hasPhase_17
    · replace hw := hw.2 c3
      refine lv_iconst (v := 1) B.1 B.2.1 dX5_hasPhase_12 (by decide) ?_
      refine lv_goto (tgt := 17) B.1 B.2.1 dX5_hasPhase_13 (by decide) ?_
      exact e_z B hr (by decide) hH hw dX5_hasPhase_17
theorem cy_X5_hasSound {s : State} {args : Array Value} (hG : GG s) : CYS s args yX5_hasSound cX5_hasSound 3 (some .boolean) 3 := CYS.of hG (fun _ _ hG => tw_921 hG) (tw_2 hG) (tw_920 hG) (by decide +kernel)
set_option maxRecDepth 100000 in
set_option maxHeartbeats 4000000 in
theorem ct_X5_hasSound {Z : ZT} (hZ : ZO Z) (l : Launch) (a0 : Option Nat) (a1 : Int32) (a2 : Int32) (h : PH) (sz : Nat) (Q : Int32 → PH → Prop) (k0 : ∀ j, a0 = some j → kd j = 3) (hw : wp_X5_hasSound a0 a1 a2 h Q) : MI Z l yX5_hasSound cX5_hasSound 3 (some .boolean) ({ frames := 2, cells := 0, slots := 0, locals := 43 } : Room) h sz [va_re (zA Z) a0, .int a1, .int a2] Q := by
  refine open_M hZ (by decide +kernel) (by rcases a0 with _ | _ <;> exact Nat.le_of_ble_eq_true rfl) ?_
  intro p e s m below meth c B hr hsz ls hl hH
  subst hsz
  have hl : lv_has ls 3 [(0, va_re (zA Z) a0), (1, .int a1), (2, .int a2)] := by
    have e9 : lv_args 0 [va_re (zA Z) a0, .int a1, .int a2] = [(0, va_re (zA Z) a0), (1, .int a1), (2, .int a2)] := by rcases a0 with _ | _ <;> rfl
    rw [e9] at hl
    exact hl
  unfold wp_X5_hasSound at hw
  refine x_aload_n B dX5_hasSound_0 rfl (lv_at hl 0 rfl) ?_
  refine x_ifnull (tgt := 28) B dX5_hasSound_1 (by decide) (fun c2 => ?_) (fun j1 c2 => ?_)
  · replace hw := hw.1 c2
    subst c2
    refine lv_iconst (v := 0) B.1 B.2.1 dX5_hasSound_28 (by decide) ?_
    exact e_z B hr (by decide) hH hw dX5_hasSound_29
  · replace hw := hw.2 j1 c2
    have kj1 := k0 j1 c2
    subst c2
    refine lv_aload_n B.1 B.2.1 dX5_hasSound_4 rfl (lv_at hl 0 rfl) ?_
    refine lv_iload_n B.1 B.2.1 dX5_hasSound_5 rfl (lv_at hl 1 rfl) ?_
    refine c_VN_I (own := RX5) (As := [.int a1]) (rest := []) B hH (cy_X3_hasCell B.2.2.2.2.1) (ct_X3_hasCell B.2.2.2.2.2.2.2 l j1 a1 h _ _ (kj1) hw) ⟨⟨rfl, rfl⟩, Nat.le_of_ble_eq_true rfl, Nat.le_of_ble_eq_true rfl, Nat.zero_le _, Nat.zero_le _⟩ (rv_3 B hH (kj1)) (tw_490 B.2.2.2.2.1) rfl hl.1 rfl (Nat.le_of_ble_eq_true rfl) dX5_hasSound_6 ?_
    clear hw hH
    intro r4 h3 H locs hw hH
    refine lv_if_eq (tgt := 28) B.1 B.2.1 dX5_hasSound_9 (by decide) (fun c5 => ?_) (fun c5 => ?_)
    · replace hw := hw.1 c5
      refine lv_iconst (v := 0) B.1 B.2.1 dX5_hasSound_28 (by decide) ?_
      exact e_z B hr (by decide) hH hw dX5_hasSound_29
    · replace hw := hw.2 c5
      refine lv_aload_n B.1 B.2.1 dX5_hasSound_12 rfl (lv_at hl 0 rfl) ?_
      refine r_getN B hH (own := RX5) (kd_n B (kj1) (by decide) (by decide)) (ct_3 (kj1)) rfl (ul_3 B.2.2.2.2.1) 0 (by decide) rfl (tw_46 B.2.2.2.2.1) dX5_hasSound_13 ?_
      refine lv_iload_n B.1 B.2.1 dX5_hasSound_16 rfl (lv_at hl 1 rfl) ?_
      refine c_SN_I (own := RX5) (As := [.ref (zA Z (j1 + 1)), .int a1]) (rest := []) B hH (cy_X7_get B.2.2.2.2.1) (ct_X7_get B.2.2.2.2.2.2.2 l (j1 + 1) a1 h3 _ _ (kf_3_0 (kj1)) hw) ⟨⟨rfl, rfl⟩, Nat.le_of_ble_eq_true rfl, Nat.le_of_ble_eq_true rfl, Nat.zero_le _, Nat.zero_le _⟩ (tw_922 B.2.2.2.2.1) rfl hl.1 rfl (Nat.le_of_ble_eq_true rfl) dX5_hasSound_17 ?_
      clear hw hH
      intro r7 h6 H locs hw hH
      refine lv_iload_n B.1 B.2.1 dX5_hasSound_20 rfl (lv_at hl 2 rfl) ?_
      refine lv_icmp_ne (tgt := 28) B.1 B.2.1 dX5_hasSound_21 (by decide) (fun c8 => ?_) (fun c8 => ?_)
      · replace hw := hw.1 c8
        refine lv_iconst (v := 0) B.1 B.2.1 dX5_hasSound_28 (by decide) ?_
        exact e_z B hr (by decide) hH hw dX5_hasSound_29
      · replace hw := hw.2 c8
        refine lv_iconst (v := 1) B.1 B.2.1 dX5_hasSound_24 (by decide) ?_
        refine lv_goto (tgt := 29) B.1 B.2.1 dX5_hasSound_25 (by decide) ?_
        exact e_z B hr (by decide) hH hw dX5_hasSound_29
theorem cy_X5_isAtZero {s : State} {args : Array Value} (hG : GG s) : CYS s args yX5_isAtZero cX5_isAtZero 1 (some .boolean) 1 := CYS.of hG (fun _ _ hG => tw_918 hG) (tw_2 hG) (tw_917 hG) (by decide +kernel)
set_option maxRecDepth 100000 in
set_option maxHeartbeats 4000000 in
theorem ct_X5_isAtZero {Z : ZT} (hZ : ZO Z) (l : Launch) (a0 : Option Nat) (h : PH) (sz : Nat) (Q : Int32 → PH → Prop) (k0 : ∀ j, a0 = some j → kd j = 4) (hw : wp_X5_isAtZero a0 h Q) : MI Z l yX5_isAtZero cX5_isAtZero 1 (some .boolean) ({ frames := 1, cells := 0, slots := 0, locals := 20 } : Room) h sz [va_re (zA Z) a0] Q := by
  refine open_M hZ (by decide +kernel) (by rcases a0 with _ | _ <;> exact Nat.le_of_ble_eq_true rfl) ?_
  intro p e s m below meth c B hr hsz ls hl hH
  subst hsz
  have hl : lv_has ls 1 [(0, va_re (zA Z) a0)] := by
    have e9 : lv_args 0 [va_re (zA Z) a0] = [(0, va_re (zA Z) a0)] := by rcases a0 with _ | _ <;> rfl
    rw [e9] at hl
    exact hl
  unfold wp_X5_isAtZero at hw
  refine x_aload_n B dX5_isAtZero_0 rfl (lv_at hl 0 rfl) ?_
  refine x_ifnull (tgt := 22) B dX5_isAtZero_1 (by decide) (fun c2 => ?_) (fun j1 c2 => ?_)
  · replace hw := hw.1 c2
    subst c2
    refine lv_iconst (v := 0) B.1 B.2.1 dX5_isAtZero_22 (by decide) ?_
    exact e_z B hr (by decide) hH hw dX5_isAtZero_23
  · replace hw := hw.2 j1 c2
    have kj1 := k0 j1 c2
    subst c2
    refine lv_aload_n B.1 B.2.1 dX5_isAtZero_4 rfl (lv_at hl 0 rfl) ?_
    refine c_VN_I (own := RX5) (As := []) (rest := []) B hH (cy_X0_isEmpty B.2.2.2.2.1) (ct_X0_isEmpty B.2.2.2.2.2.2.2 l j1 h _ _ (kj1) hw) ⟨⟨rfl, rfl⟩, Nat.le_of_ble_eq_true rfl, Nat.le_of_ble_eq_true rfl, Nat.zero_le _, Nat.zero_le _⟩ (rv_4 B hH (kj1)) (tw_506 B.2.2.2.2.1) rfl hl.1 rfl (Nat.le_of_ble_eq_true rfl) dX5_isAtZero_5 ?_
    clear hw hH
    intro r4 h3 H locs hw hH
    refine lv_if_ne (tgt := 22) B.1 B.2.1 dX5_isAtZero_8 (by decide) (fun c5 => ?_) (fun c5 => ?_)
    · replace hw := hw.1 c5
      refine lv_iconst (v := 0) B.1 B.2.1 dX5_isAtZero_22 (by decide) ?_
      exact e_z B hr (by decide) hH hw dX5_isAtZero_23
    · replace hw := hw.2 c5
      refine lv_aload_n B.1 B.2.1 dX5_isAtZero_11 rfl (lv_at hl 0 rfl) ?_
      refine r_getN B hH (own := RX5) (kd_n B (kj1) (by decide) (by decide)) (ct_4 (kj1)) rfl (ul_4 B.2.2.2.2.1) 6 (by decide) rfl (tw_78 B.2.2.2.2.1) dX5_isAtZero_12 ?_
      refine lv_if_ne (tgt := 22) B.1 B.2.1 dX5_isAtZero_15 (by decide) (fun c6 => ?_) (fun c6 => ?_)
      · replace hw := hw.1 c6
        refine lv_iconst (v := 0) B.1 B.2.1 dX5_isAtZero_22 (by decide) ?_
        exact e_z B hr (by decide) hH hw dX5_isAtZero_23
      · replace hw := hw.2 c6
        refine lv_iconst (v := 1) B.1 B.2.1 dX5_isAtZero_18 (by decide) ?_
        refine lv_goto (tgt := 23) B.1 B.2.1 dX5_isAtZero_19 (by decide) ?_
        exact e_z B hr (by decide) hH hw dX5_isAtZero_23
theorem cy_X5_obeys {s : State} {args : Array Value} (hG : GG s) : CYV s args yX5_obeys cX5_obeys 5 (some .boolean) 1 := CYV.of hG (fun _ _ hG => tw_909 hG) (tw_2 hG) (tw_908 hG) (tp_59 hG) (by decide +kernel)
set_option maxRecDepth 100000 in
set_option maxHeartbeats 4000000 in
theorem ct_X5_obeys {Z : ZT} (hZ : ZO Z) (l : Launch) (a0 : Nat) (a1 : Int32) (h : PH) (sz : Nat) (Q : Int32 → PH → Prop) (k0 : kd a0 = 2) (hw : wp_X5_obeys a0 a1 h Q) : MI Z l yX5_obeys cX5_obeys 5 (some .boolean) ({ frames := 6, cells := 0, slots := 0, locals := 142 } : Room) h sz [.ref (zA Z a0), .int a1] Q := by
  refine open_M hZ (by decide +kernel) (by exact Nat.le_of_ble_eq_true rfl) ?_
  intro p e s m below meth c B hr hsz ls hl hH
  subst hsz
  have hl : lv_has ls 5 [(0, .ref (zA Z a0)), (1, .int a1)] := hl
  unfold wp_X5_obeys at hw
  refine lv_iload_n B.1 B.2.1 dX5_obeys_0 rfl (lv_at hl 1 rfl) ?_
  refine lv_ldc (own := RX5) B.1 B.2.1 B.2.2.2.1 (tw_910 B.2.2.2.2.1) dX5_obeys_1 ?_
  refine lv_idiv B.1 B.2.1 dX5_obeys_3 (by decide) ?_
  refine lv_bipush (v := 10) B.1 B.2.1 dX5_obeys_4 (by decide) ?_
  refine x_irem B dX5_obeys_6 (by decide) ?_
  refine lv_topi (fun x1 ex1 => ?_)
  replace hw := hw x1 ex1
  refine lv_istore_n (lv' := [(2, .int x1), (0, .ref (zA Z a0)), (1, .int a1)]) B.1 B.2.1 dX5_obeys_7 rfl hl (by decide) (by first | rfl | simp [va_re_cat, Value.category]) ?_
  clear hl
  intro ls hl
  refine lv_iload_n B.1 B.2.1 dX5_obeys_8 rfl (lv_at hl 2 rfl) ?_
  refine lv_sipush (v := 10000) B.1 B.2.1 dX5_obeys_9 (by decide) ?_
  refine lv_idiv B.1 B.2.1 dX5_obeys_12 (by decide) ?_
  refine lv_bipush (v := 10) B.1 B.2.1 dX5_obeys_13 (by decide) ?_
  refine x_irem B dX5_obeys_15 (by decide) ?_
  refine lv_topi (fun x2 ex2 => ?_)
  replace hw := hw x2 ex2
  refine lv_istore_n (lv' := [(3, .int x2), (2, .int x1), (0, .ref (zA Z a0)), (1, .int a1)]) B.1 B.2.1 dX5_obeys_16 rfl hl (by decide) (by first | rfl | simp [va_re_cat, Value.category]) ?_
  clear hl
  intro ls hl
  refine lv_iload_n B.1 B.2.1 dX5_obeys_17 rfl (lv_at hl 3 rfl) ?_
  refine lv_sipush (v := 1000) B.1 B.2.1 dX5_obeys_18 (by decide) ?_
  refine lv_idiv B.1 B.2.1 dX5_obeys_21 (by decide) ?_
  refine lv_bipush (v := 10) B.1 B.2.1 dX5_obeys_22 (by decide) ?_
  refine x_irem B dX5_obeys_24 (by decide) ?_
  refine lv_topi (fun x3 ex3 => ?_)
  replace hw := hw x3 ex3
  refine lv_istore (lv' := [(4, .int x3), (3, .int x2), (2, .int x1), (0, .ref (zA Z a0)), (1, .int a1)]) B.1 B.2.1 dX5_obeys_25 hl (by decide) (by first | rfl | simp [va_re_cat, Value.category]) ?_
  clear hl
  intro ls hl
  refine lv_iload_n B.1 B.2.1 dX5_obeys_27 rfl (lv_at hl 4 rfl) ?_
  refine lv_ldc (own := RX5) B.1 B.2.1 B.2.2.2.1 (tw_911 B.2.2.2.2.1) dX5_obeys_28 ?_
  refine lv_idiv B.1 B.2.1 dX5_obeys_30 (by decide) ?_
  refine lv_topi (fun x4 ex4 => ?_)
  replace hw := hw x4 ex4
  by_cases c5 : (x4 = 1)
  · replace hw := hw.1 c5
    refine lv_tableIn (off := 49) (tgt := 80) B.1 B.2.1 dX5_obeys_31 (by rw [c5]; decide) (by rw [c5]; decide) (by rw [c5]; rfl) (by decide) ?_
    refine lv_iload_n B.1 B.2.1 dX5_obeys_80 rfl (lv_at hl 4 rfl) ?_
    refine lv_sipush (v := 1000) B.1 B.2.1 dX5_obeys_81 (by decide) ?_
    refine lv_idiv B.1 B.2.1 dX5_obeys_84 (by decide) ?_
    refine lv_sipush (v := 1000) B.1 B.2.1 dX5_obeys_85 (by decide) ?_
    refine x_irem B dX5_obeys_88 (by decide) ?_
    refine lv_if_ne (tgt := 113) B.1 B.2.1 dX5_obeys_89 (by decide) (fun c6 => ?_) (fun c6 => ?_)
    · replace hw := hw.1 c6
      refine lv_iconst (v := 0) B.1 B.2.1 dX5_obeys_113 (by decide) ?_
      exact e_z B hr (by decide) hH hw dX5_obeys_114
    · replace hw := hw.2 c6
      refine lv_aload_n B.1 B.2.1 dX5_obeys_92 rfl (lv_at hl 3 rfl) ?_
      refine lv_bipush (v := 116) B.1 B.2.1 dX5_obeys_93 (by decide) ?_
      refine lv_iload_n B.1 B.2.1 dX5_obeys_95 rfl (lv_at hl 4 rfl) ?_
      refine lv_sipush (v := 1000) B.1 B.2.1 dX5_obeys_96 (by decide) ?_
      refine x_irem B dX5_obeys_99 (by decide) ?_
      refine lv_iconst (v := 0) B.1 B.2.1 dX5_obeys_100 (by decide) ?_
      refine lv_iconst (v := 0) B.1 B.2.1 dX5_obeys_101 (by decide) ?_
      refine lv_iconst (v := 0) B.1 B.2.1 dX5_obeys_102 (by decide) ?_
      refine c_V_I (own := RX5) (As := [.int 116, .int (jirem a1 1000), .int 0, .int 0, .int 0]) (rest := []) B hH (cy_X5_perform B.2.2.2.2.1) (ct_X5_perform B.2.2.2.2.2.2.2 l a0 116 (jirem a1 1000) 0 0 0 h _ _ (k0) hw) ⟨⟨rfl, rfl⟩, Nat.le_of_ble_eq_true rfl, Nat.le_of_ble_eq_true rfl, Nat.zero_le _, Nat.zero_le _⟩ (rv_2 B hH (k0)) (tw_912 B.2.2.2.2.1) rfl hl.1 rfl (Nat.le_of_ble_eq_true rfl) dX5_obeys_103 ?_
      clear hw hH
      intro r8 h7 H locs hw hH
      refine lv_if_eq (tgt := 113) B.1 B.2.1 dX5_obeys_106 (by decide) (fun c9 => ?_) (fun c9 => ?_)
      · replace hw := hw.1 c9
        refine lv_iconst (v := 0) B.1 B.2.1 dX5_obeys_113 (by decide) ?_
        exact e_z B hr (by decide) hH hw dX5_obeys_114
      · replace hw := hw.2 c9
        refine lv_iconst (v := 1) B.1 B.2.1 dX5_obeys_109 (by decide) ?_
        refine lv_goto (tgt := 114) B.1 B.2.1 dX5_obeys_110 (by decide) ?_
        exact e_z B hr (by decide) hH hw dX5_obeys_114
  · by_cases c10 : (x4 = 2)
    · replace hw := hw.2.1 c10
      refine lv_tableIn (off := 84) (tgt := 115) B.1 B.2.1 dX5_obeys_31 (by rw [c10]; decide) (by rw [c10]; decide) (by rw [c10]; rfl) (by decide) ?_
      refine lv_aload_n B.1 B.2.1 dX5_obeys_115 rfl (lv_at hl 3 rfl) ?_
      refine lv_bipush (v := 99) B.1 B.2.1 dX5_obeys_116 (by decide) ?_
      refine lv_iload_n B.1 B.2.1 dX5_obeys_118 rfl (lv_at hl 2 rfl) ?_
      refine lv_iload_n B.1 B.2.1 dX5_obeys_119 rfl (lv_at hl 1 rfl) ?_
      refine lv_iload_n B.1 B.2.1 dX5_obeys_120 rfl (lv_at hl 4 rfl) ?_
      refine lv_bipush (v := 100) B.1 B.2.1 dX5_obeys_121 (by decide) ?_
      refine lv_idiv B.1 B.2.1 dX5_obeys_123 (by decide) ?_
      refine lv_bipush (v := 100) B.1 B.2.1 dX5_obeys_124 (by decide) ?_
      refine x_irem B dX5_obeys_126 (by decide) ?_
      refine lv_iload_n B.1 B.2.1 dX5_obeys_127 rfl (lv_at hl 4 rfl) ?_
      refine lv_bipush (v := 100) B.1 B.2.1 dX5_obeys_128 (by decide) ?_
      refine x_irem B dX5_obeys_130 (by decide) ?_
      refine c_V_I (own := RX5) (As := [.int 99, .int x1, .int x2, .int (jirem (a1 / 100) 100), .int (jirem a1 100)]) (rest := []) B hH (cy_X5_perform B.2.2.2.2.1) (ct_X5_perform B.2.2.2.2.2.2.2 l a0 99 x1 x2 (jirem (a1 / 100) 100) (jirem a1 100) h _ _ (k0) hw) ⟨⟨rfl, rfl⟩, Nat.le_of_ble_eq_true rfl, Nat.le_of_ble_eq_true rfl, Nat.zero_le _, Nat.zero_le _⟩ (rv_2 B hH (k0)) (tw_912 B.2.2.2.2.1) rfl hl.1 rfl (Nat.le_of_ble_eq_true rfl) dX5_obeys_131 ?_
      clear hw hH
      intro r12 h11 H locs hw hH
      exact e_z B hr hw.1 hH hw.2 dX5_obeys_134
    · by_cases c13 : (x4 = 3)
      · replace hw := hw.2.2.1 c13
        refine lv_tableIn (off := 104) (tgt := 135) B.1 B.2.1 dX5_obeys_31 (by rw [c13]; decide) (by rw [c13]; decide) (by rw [c13]; rfl) (by decide) ?_
        refine lv_iload_n B.1 B.2.1 dX5_obeys_135 rfl (lv_at hl 4 rfl) ?_
        refine lv_sipush (v := 1000) B.1 B.2.1 dX5_obeys_136 (by decide) ?_
        refine x_irem B dX5_obeys_139 (by decide) ?_
        refine lv_if_ne (tgt := 161) B.1 B.2.1 dX5_obeys_140 (by decide) (fun c14 => ?_) (fun c14 => ?_)
        · replace hw := hw.1 c14
          refine lv_iconst (v := 0) B.1 B.2.1 dX5_obeys_161 (by decide) ?_
          exact e_z B hr (by decide) hH hw dX5_obeys_162
        · replace hw := hw.2 c14
          refine lv_aload_n B.1 B.2.1 dX5_obeys_143 rfl (lv_at hl 3 rfl) ?_
          refine lv_bipush (v := 118) B.1 B.2.1 dX5_obeys_144 (by decide) ?_
          refine lv_iload_n B.1 B.2.1 dX5_obeys_146 rfl (lv_at hl 2 rfl) ?_
          refine lv_iload_n B.1 B.2.1 dX5_obeys_147 rfl (lv_at hl 1 rfl) ?_
          refine lv_iload B.1 B.2.1 dX5_obeys_148 (lv_at hl 0 rfl) ?_
          refine lv_iconst (v := 0) B.1 B.2.1 dX5_obeys_150 (by decide) ?_
          refine c_V_I (own := RX5) (As := [.int 118, .int x1, .int x2, .int x3, .int 0]) (rest := []) B hH (cy_X5_perform B.2.2.2.2.1) (ct_X5_perform B.2.2.2.2.2.2.2 l a0 118 x1 x2 x3 0 h _ _ (k0) hw) ⟨⟨rfl, rfl⟩, Nat.le_of_ble_eq_true rfl, Nat.le_of_ble_eq_true rfl, Nat.zero_le _, Nat.zero_le _⟩ (rv_2 B hH (k0)) (tw_912 B.2.2.2.2.1) rfl hl.1 rfl (Nat.le_of_ble_eq_true rfl) dX5_obeys_151 ?_
          clear hw hH
          intro r16 h15 H locs hw hH
          refine lv_if_eq (tgt := 161) B.1 B.2.1 dX5_obeys_154 (by decide) (fun c17 => ?_) (fun c17 => ?_)
          · replace hw := hw.1 c17
            refine lv_iconst (v := 0) B.1 B.2.1 dX5_obeys_161 (by decide) ?_
            exact e_z B hr (by decide) hH hw dX5_obeys_162
          · replace hw := hw.2 c17
            refine lv_iconst (v := 1) B.1 B.2.1 dX5_obeys_157 (by decide) ?_
            refine lv_goto (tgt := 162) B.1 B.2.1 dX5_obeys_158 (by decide) ?_
            exact e_z B hr (by decide) hH hw dX5_obeys_162
      · by_cases c18 : (x4 = 4)
        · replace hw := hw.2.2.2.1 c18
          refine lv_tableIn (off := 132) (tgt := 163) B.1 B.2.1 dX5_obeys_31 (by rw [c18]; decide) (by rw [c18]; decide) (by rw [c18]; rfl) (by decide) ?_
          refine lv_iload_n B.1 B.2.1 dX5_obeys_163 rfl (lv_at hl 4 rfl) ?_
          refine lv_bipush (v := 10) B.1 B.2.1 dX5_obeys_164 (by decide) ?_
          refine lv_idiv B.1 B.2.1 dX5_obeys_166 (by decide) ?_
          refine lv_sipush (v := 10000) B.1 B.2.1 dX5_obeys_167 (by decide) ?_
          refine x_irem B dX5_obeys_170 (by decide) ?_
          refine lv_if_ne (tgt := 202) B.1 B.2.1 dX5_obeys_171 (by decide) (fun c19 => ?_) (fun c19 => ?_)
          · replace hw := hw.1 c19
            refine lv_iconst (v := 0) B.1 B.2.1 dX5_obeys_202 (by decide) ?_
            exact e_z B hr (by decide) hH hw dX5_obeys_203
          · replace hw := hw.2 c19
            refine lv_iload_n B.1 B.2.1 dX5_obeys_174 rfl (lv_at hl 4 rfl) ?_
            refine lv_bipush (v := 10) B.1 B.2.1 dX5_obeys_175 (by decide) ?_
            refine x_irem B dX5_obeys_177 (by decide) ?_
            refine lv_iconst (v := 1) B.1 B.2.1 dX5_obeys_178 (by decide) ?_
            refine lv_icmp_gt (tgt := 202) B.1 B.2.1 dX5_obeys_179 (by decide) (fun c20 => ?_) (fun c20 => ?_)
            · replace hw := hw.1 c20
              refine lv_iconst (v := 0) B.1 B.2.1 dX5_obeys_202 (by decide) ?_
              exact e_z B hr (by decide) hH hw dX5_obeys_203
            · replace hw := hw.2 c20
              refine lv_aload_n B.1 B.2.1 dX5_obeys_182 rfl (lv_at hl 3 rfl) ?_
              refine lv_bipush (v := 109) B.1 B.2.1 dX5_obeys_183 (by decide) ?_
              refine lv_iload_n B.1 B.2.1 dX5_obeys_185 rfl (lv_at hl 2 rfl) ?_
              refine lv_iload_n B.1 B.2.1 dX5_obeys_186 rfl (lv_at hl 4 rfl) ?_
              refine lv_bipush (v := 10) B.1 B.2.1 dX5_obeys_187 (by decide) ?_
              refine x_irem B dX5_obeys_189 (by decide) ?_
              refine lv_iconst (v := 0) B.1 B.2.1 dX5_obeys_190 (by decide) ?_
              refine lv_iconst (v := 0) B.1 B.2.1 dX5_obeys_191 (by decide) ?_
              refine c_V_I (own := RX5) (As := [.int 109, .int x1, .int (jirem a1 10), .int 0, .int 0]) (rest := []) B hH (cy_X5_perform B.2.2.2.2.1) (ct_X5_perform B.2.2.2.2.2.2.2 l a0 109 x1 (jirem a1 10) 0 0 h _ _ (k0) hw) ⟨⟨rfl, rfl⟩, Nat.le_of_ble_eq_true rfl, Nat.le_of_ble_eq_true rfl, Nat.zero_le _, Nat.zero_le _⟩ (rv_2 B hH (k0)) (tw_912 B.2.2.2.2.1) rfl hl.1 rfl (Nat.le_of_ble_eq_true rfl) dX5_obeys_192 ?_
              clear hw hH
              intro r22 h21 H locs hw hH
              refine lv_if_eq (tgt := 202) B.1 B.2.1 dX5_obeys_195 (by decide) (fun c23 => ?_) (fun c23 => ?_)
              · replace hw := hw.1 c23
                refine lv_iconst (v := 0) B.1 B.2.1 dX5_obeys_202 (by decide) ?_
                exact e_z B hr (by decide) hH hw dX5_obeys_203
              · replace hw := hw.2 c23
                refine lv_iconst (v := 1) B.1 B.2.1 dX5_obeys_198 (by decide) ?_
                refine lv_goto (tgt := 203) B.1 B.2.1 dX5_obeys_199 (by decide) ?_
                exact e_z B hr (by decide) hH hw dX5_obeys_203
        · by_cases c24 : (x4 = 5)
          · replace hw := hw.2.2.2.2.1 c24
            refine lv_tableIn (off := 173) (tgt := 204) B.1 B.2.1 dX5_obeys_31 (by rw [c24]; decide) (by rw [c24]; decide) (by rw [c24]; rfl) (by decide) ?_
            refine lv_iload_n B.1 B.2.1 dX5_obeys_204 rfl (lv_at hl 4 rfl) ?_
            refine lv_bipush (v := 100) B.1 B.2.1 dX5_obeys_205 (by decide) ?_
            refine lv_idiv B.1 B.2.1 dX5_obeys_207 (by decide) ?_
            refine lv_sipush (v := 1000) B.1 B.2.1 dX5_obeys_208 (by decide) ?_
            refine x_irem B dX5_obeys_211 (by decide) ?_
            refine lv_if_ne (tgt := 235) B.1 B.2.1 dX5_obeys_212 (by decide) (fun c25 => ?_) (fun c25 => ?_)
            · replace hw := hw.1 c25
              refine lv_iconst (v := 0) B.1 B.2.1 dX5_obeys_235 (by decide) ?_
              exact e_z B hr (by decide) hH hw dX5_obeys_236
            · replace hw := hw.2 c25
              refine lv_aload_n B.1 B.2.1 dX5_obeys_215 rfl (lv_at hl 3 rfl) ?_
              refine lv_bipush (v := 119) B.1 B.2.1 dX5_obeys_216 (by decide) ?_
              refine lv_iload_n B.1 B.2.1 dX5_obeys_218 rfl (lv_at hl 2 rfl) ?_
              refine lv_iload_n B.1 B.2.1 dX5_obeys_219 rfl (lv_at hl 4 rfl) ?_
              refine lv_bipush (v := 100) B.1 B.2.1 dX5_obeys_220 (by decide) ?_
              refine x_irem B dX5_obeys_222 (by decide) ?_
              refine lv_iconst (v := 0) B.1 B.2.1 dX5_obeys_223 (by decide) ?_
              refine lv_iconst (v := 0) B.1 B.2.1 dX5_obeys_224 (by decide) ?_
              refine c_V_I (own := RX5) (As := [.int 119, .int x1, .int (jirem a1 100), .int 0, .int 0]) (rest := []) B hH (cy_X5_perform B.2.2.2.2.1) (ct_X5_perform B.2.2.2.2.2.2.2 l a0 119 x1 (jirem a1 100) 0 0 h _ _ (k0) hw) ⟨⟨rfl, rfl⟩, Nat.le_of_ble_eq_true rfl, Nat.le_of_ble_eq_true rfl, Nat.zero_le _, Nat.zero_le _⟩ (rv_2 B hH (k0)) (tw_912 B.2.2.2.2.1) rfl hl.1 rfl (Nat.le_of_ble_eq_true rfl) dX5_obeys_225 ?_
              clear hw hH
              intro r27 h26 H locs hw hH
              refine lv_if_eq (tgt := 235) B.1 B.2.1 dX5_obeys_228 (by decide) (fun c28 => ?_) (fun c28 => ?_)
              · replace hw := hw.1 c28
                refine lv_iconst (v := 0) B.1 B.2.1 dX5_obeys_235 (by decide) ?_
                exact e_z B hr (by decide) hH hw dX5_obeys_236
              · replace hw := hw.2 c28
                refine lv_iconst (v := 1) B.1 B.2.1 dX5_obeys_231 (by decide) ?_
                refine lv_goto (tgt := 236) B.1 B.2.1 dX5_obeys_232 (by decide) ?_
                exact e_z B hr (by decide) hH hw dX5_obeys_236
          · by_cases c29 : (x4 = 6)
            · replace hw := hw.2.2.2.2.2.1 c29
              refine lv_tableIn (off := 206) (tgt := 237) B.1 B.2.1 dX5_obeys_31 (by rw [c29]; decide) (by rw [c29]; decide) (by rw [c29]; rfl) (by decide) ?_
              refine lv_iload_n B.1 B.2.1 dX5_obeys_237 rfl (lv_at hl 4 rfl) ?_
              refine lv_bipush (v := 100) B.1 B.2.1 dX5_obeys_238 (by decide) ?_
              refine lv_idiv B.1 B.2.1 dX5_obeys_240 (by decide) ?_
              refine lv_sipush (v := 10000) B.1 B.2.1 dX5_obeys_241 (by decide) ?_
              refine x_irem B dX5_obeys_244 (by decide) ?_
              refine lv_if_ne (tgt := 264) B.1 B.2.1 dX5_obeys_245 (by decide) (fun c30 => ?_) (fun c30 => ?_)
              · replace hw := hw.1 c30
                refine lv_iconst (v := 0) B.1 B.2.1 dX5_obeys_264 (by decide) ?_
                exact e_z B hr (by decide) hH hw dX5_obeys_265
              · replace hw := hw.2 c30
                refine lv_aload_n B.1 B.2.1 dX5_obeys_248 rfl (lv_at hl 3 rfl) ?_
                refine lv_iconst (v := 0) B.1 B.2.1 dX5_obeys_249 (by decide) ?_
                refine c_V_I (own := RX5) (As := [.int 0]) (rest := []) B hH (cy_X5_soundBehind B.2.2.2.2.1) (ct_X5_soundBehind B.2.2.2.2.2.2.2 l a0 0 h _ _ (k0) hw) ⟨⟨rfl, rfl⟩, Nat.le_of_ble_eq_true rfl, Nat.le_of_ble_eq_true rfl, Nat.zero_le _, Nat.zero_le _⟩ (rv_2 B hH (k0)) (tw_578 B.2.2.2.2.1) rfl hl.1 rfl (Nat.le_of_ble_eq_true rfl) dX5_obeys_250 ?_
                clear hw hH
                intro r32 h31 H locs hw hH
                refine lv_iload_n B.1 B.2.1 dX5_obeys_253 rfl (lv_at hl 4 rfl) ?_
                refine lv_bipush (v := 100) B.1 B.2.1 dX5_obeys_254 (by decide) ?_
                refine x_irem B dX5_obeys_256 (by decide) ?_
                refine lv_icmp_lt (tgt := 264) B.1 B.2.1 dX5_obeys_257 (by decide) (fun c33 => ?_) (fun c33 => ?_)
                · replace hw := hw.1 c33
                  refine lv_iconst (v := 0) B.1 B.2.1 dX5_obeys_264 (by decide) ?_
                  exact e_z B hr (by decide) hH hw dX5_obeys_265
                · replace hw := hw.2 c33
                  refine lv_iconst (v := 1) B.1 B.2.1 dX5_obeys_260 (by decide) ?_
                  refine lv_goto (tgt := 265) B.1 B.2.1 dX5_obeys_261 (by decide) ?_
                  exact e_z B hr (by decide) hH hw dX5_obeys_265
            · by_cases c34 : (x4 = 7)
              · replace hw := hw.2.2.2.2.2.2.1 c34
                refine lv_tableIn (off := 235) (tgt := 266) B.1 B.2.1 dX5_obeys_31 (by rw [c34]; decide) (by rw [c34]; decide) (by rw [c34]; rfl) (by decide) ?_
                refine lv_iload_n B.1 B.2.1 dX5_obeys_266 rfl (lv_at hl 4 rfl) ?_
                refine lv_sipush (v := 1000) B.1 B.2.1 dX5_obeys_267 (by decide) ?_
                refine lv_idiv B.1 B.2.1 dX5_obeys_270 (by decide) ?_
                refine lv_bipush (v := 100) B.1 B.2.1 dX5_obeys_271 (by decide) ?_
                refine x_irem B dX5_obeys_273 (by decide) ?_
                refine lv_if_ne (tgt := 297) B.1 B.2.1 dX5_obeys_274 (by decide) (fun c35 => ?_) (fun c35 => ?_)
                · replace hw := hw.1 c35
                  refine lv_iconst (v := 0) B.1 B.2.1 dX5_obeys_297 (by decide) ?_
                  exact e_z B hr (by decide) hH hw dX5_obeys_298
                · replace hw := hw.2 c35
                  refine lv_aload_n B.1 B.2.1 dX5_obeys_277 rfl (lv_at hl 3 rfl) ?_
                  refine lv_iload_n B.1 B.2.1 dX5_obeys_278 rfl (lv_at hl 2 rfl) ?_
                  refine c_V_O (own := RX5) (As := [.int x1]) (rest := []) B hH (cy_X5_loopAt B.2.2.2.2.1) (ct_X5_loopAt B.2.2.2.2.2.2.2 l a0 x1 h _ _ (k0) hw) ⟨⟨rfl, rfl⟩, Nat.le_of_ble_eq_true rfl, Nat.le_of_ble_eq_true rfl, Nat.zero_le _, Nat.zero_le _⟩ (rv_2 B hH (k0)) (tw_495 B.2.2.2.2.1) rfl hl.1 rfl (Nat.le_of_ble_eq_true rfl) dX5_obeys_279 ?_
                  clear hw hH
                  intro r37 h36 H locs hw hH
                  have kr37 := hw.2
                  replace hw := hw.1
                  refine lv_iload_n B.1 B.2.1 dX5_obeys_282 rfl (lv_at hl 4 rfl) ?_
                  refine lv_sipush (v := 1000) B.1 B.2.1 dX5_obeys_283 (by decide) ?_
                  refine x_irem B dX5_obeys_286 (by decide) ?_
                  refine c_S_I (own := RX5) (As := [va_re (zA Z) r37, .int (jirem a1 1000)]) (rest := []) B hH (cy_X5_hasPhase B.2.2.2.2.1) (ct_X5_hasPhase B.2.2.2.2.2.2.2 l r37 (jirem a1 1000) h36 _ _ (kr37) hw) ⟨⟨rfl, rfl⟩, Nat.le_of_ble_eq_true rfl, Nat.le_of_ble_eq_true rfl, Nat.zero_le _, Nat.zero_le _⟩ (tw_913 B.2.2.2.2.1) rfl hl.1 rfl (Nat.le_of_ble_eq_true rfl) dX5_obeys_287 ?_
                  clear hw hH
                  intro r39 h38 H locs hw hH
                  refine lv_if_eq (tgt := 297) B.1 B.2.1 dX5_obeys_290 (by decide) (fun c40 => ?_) (fun c40 => ?_)
                  · replace hw := hw.1 c40
                    refine lv_iconst (v := 0) B.1 B.2.1 dX5_obeys_297 (by decide) ?_
                    exact e_z B hr (by decide) hH hw dX5_obeys_298
                  · replace hw := hw.2 c40
                    refine lv_iconst (v := 1) B.1 B.2.1 dX5_obeys_293 (by decide) ?_
                    refine lv_goto (tgt := 298) B.1 B.2.1 dX5_obeys_294 (by decide) ?_
                    exact e_z B hr (by decide) hH hw dX5_obeys_298
              · by_cases c41 : (x4 = 8)
                · replace hw := hw.2.2.2.2.2.2.2.1 c41
                  refine lv_tableIn (off := 268) (tgt := 299) B.1 B.2.1 dX5_obeys_31 (by rw [c41]; decide) (by rw [c41]; decide) (by rw [c41]; rfl) (by decide) ?_
                  refine lv_iload_n B.1 B.2.1 dX5_obeys_299 rfl (lv_at hl 4 rfl) ?_
                  refine lv_sipush (v := 10000) B.1 B.2.1 dX5_obeys_300 (by decide) ?_
                  refine x_irem B dX5_obeys_303 (by decide) ?_
                  refine lv_if_ne (tgt := 333) B.1 B.2.1 dX5_obeys_304 (by decide) (fun c42 => ?_) (fun c42 => ?_)
                  · replace hw := hw.1 c42
                    refine lv_iconst (v := 0) B.1 B.2.1 dX5_obeys_333 (by decide) ?_
                    exact e_z B hr (by decide) hH hw dX5_obeys_334
                  · replace hw := hw.2 c42
                    refine lv_aload_n B.1 B.2.1 dX5_obeys_307 rfl (lv_at hl 3 rfl) ?_
                    refine lv_iload_n B.1 B.2.1 dX5_obeys_308 rfl (lv_at hl 2 rfl) ?_
                    refine c_V_O (own := RX5) (As := [.int x1]) (rest := []) B hH (cy_X5_loopAt B.2.2.2.2.1) (ct_X5_loopAt B.2.2.2.2.2.2.2 l a0 x1 h _ _ (k0) hw) ⟨⟨rfl, rfl⟩, Nat.le_of_ble_eq_true rfl, Nat.le_of_ble_eq_true rfl, Nat.zero_le _, Nat.zero_le _⟩ (rv_2 B hH (k0)) (tw_495 B.2.2.2.2.1) rfl hl.1 rfl (Nat.le_of_ble_eq_true rfl) dX5_obeys_309 ?_
                    clear hw hH
                    intro r44 h43 H locs hw hH
                    have kr44 := hw.2
                    replace hw := hw.1
                    refine c_S_I (own := RX5) (As := [va_re (zA Z) r44]) (rest := []) B hH (cy_X5_isAtZero B.2.2.2.2.1) (ct_X5_isAtZero B.2.2.2.2.2.2.2 l r44 h43 _ _ (kr44) hw) ⟨⟨rfl, rfl⟩, Nat.le_of_ble_eq_true rfl, Nat.le_of_ble_eq_true rfl, Nat.zero_le _, Nat.zero_le _⟩ (tw_916 B.2.2.2.2.1) rfl hl.1 rfl (Nat.le_of_ble_eq_true rfl) dX5_obeys_312 ?_
                    clear hw hH
                    intro r46 h45 H locs hw hH
                    refine lv_if_eq (tgt := 333) B.1 B.2.1 dX5_obeys_315 (by decide) (fun c47 => ?_) (fun c47 => ?_)
                    · replace hw := hw.1 c47
                      refine lv_iconst (v := 0) B.1 B.2.1 dX5_obeys_333 (by decide) ?_
                      exact e_z B hr (by decide) hH hw dX5_obeys_334
                    · replace hw := hw.2 c47
                      refine lv_aload_n B.1 B.2.1 dX5_obeys_318 rfl (lv_at hl 3 rfl) ?_
                      refine lv_iload_n B.1 B.2.1 dX5_obeys_319 rfl (lv_at hl 1 rfl) ?_
                      refine c_V_O (own := RX5) (As := [.int x2]) (rest := []) B hH (cy_X5_loopAt B.2.2.2.2.1) (ct_X5_loopAt B.2.2.2.2.2.2.2 l a0 x2 h45 _ _ (k0) hw) ⟨⟨rfl, rfl⟩, Nat.le_of_ble_eq_true rfl, Nat.le_of_ble_eq_true rfl, Nat.zero_le _, Nat.zero_le _⟩ (rv_2 B hH (k0)) (tw_495 B.2.2.2.2.1) rfl hl.1 rfl (Nat.le_of_ble_eq_true rfl) dX5_obeys_320 ?_
                      clear hw hH
                      intro r49 h48 H locs hw hH
                      have kr49 := hw.2
                      replace hw := hw.1
                      refine c_S_I (own := RX5) (As := [va_re (zA Z) r49]) (rest := []) B hH (cy_X5_isAtZero B.2.2.2.2.1) (ct_X5_isAtZero B.2.2.2.2.2.2.2 l r49 h48 _ _ (kr49) hw) ⟨⟨rfl, rfl⟩, Nat.le_of_ble_eq_true rfl, Nat.le_of_ble_eq_true rfl, Nat.zero_le _, Nat.zero_le _⟩ (tw_916 B.2.2.2.2.1) rfl hl.1 rfl (Nat.le_of_ble_eq_true rfl) dX5_obeys_323 ?_
                      clear hw hH
                      intro r51 h50 H locs hw hH
                      refine lv_if_eq (tgt := 333) B.1 B.2.1 dX5_obeys_326 (by decide) (fun c52 => ?_) (fun c52 => ?_)
                      · replace hw := hw.1 c52
                        refine lv_iconst (v := 0) B.1 B.2.1 dX5_obeys_333 (by decide) ?_
                        exact e_z B hr (by decide) hH hw dX5_obeys_334
                      · replace hw := hw.2 c52
                        refine lv_iconst (v := 1) B.1 B.2.1 dX5_obeys_329 (by decide) ?_
                        refine lv_goto (tgt := 334) B.1 B.2.1 dX5_obeys_330 (by decide) ?_
                        exact e_z B hr (by decide) hH hw dX5_obeys_334
                · by_cases c53 : (x4 = 9)
                  · replace hw := hw.2.2.2.2.2.2.2.2.1 c53
                    refine lv_tableIn (off := 304) (tgt := 335) B.1 B.2.1 dX5_obeys_31 (by rw [c53]; decide) (by rw [c53]; decide) (by rw [c53]; rfl) (by decide) ?_
                    refine lv_iload_n B.1 B.2.1 dX5_obeys_335 rfl (lv_at hl 4 rfl) ?_
                    refine lv_sipush (v := 1000) B.1 B.2.1 dX5_obeys_336 (by decide) ?_
                    refine lv_idiv B.1 B.2.1 dX5_obeys_339 (by decide) ?_
                    refine lv_bipush (v := 100) B.1 B.2.1 dX5_obeys_340 (by decide) ?_
                    refine x_irem B dX5_obeys_342 (by decide) ?_
                    refine lv_if_ne (tgt := 372) B.1 B.2.1 dX5_obeys_343 (by decide) (fun c54 => ?_) (fun c54 => ?_)
                    · replace hw := hw.1 c54
                      refine lv_iconst (v := 0) B.1 B.2.1 dX5_obeys_372 (by decide) ?_
                      exact e_z B hr (by decide) hH hw dX5_obeys_373
                    · replace hw := hw.2 c54
                      refine lv_aload_n B.1 B.2.1 dX5_obeys_346 rfl (lv_at hl 3 rfl) ?_
                      refine lv_iload_n B.1 B.2.1 dX5_obeys_347 rfl (lv_at hl 2 rfl) ?_
                      refine c_V_O (own := RX5) (As := [.int x1]) (rest := []) B hH (cy_X5_reelAt B.2.2.2.2.1) (ct_X5_reelAt B.2.2.2.2.2.2.2 l a0 x1 h _ _ (k0) hw) ⟨⟨rfl, rfl⟩, Nat.le_of_ble_eq_true rfl, Nat.le_of_ble_eq_true rfl, Nat.zero_le _, Nat.zero_le _⟩ (rv_2 B hH (k0)) (tw_483 B.2.2.2.2.1) rfl hl.1 rfl (Nat.le_of_ble_eq_true rfl) dX5_obeys_348 ?_
                      clear hw hH
                      intro r56 h55 H locs hw hH
                      have kr56 := hw.2
                      replace hw := hw.1
                      refine lv_iload_n B.1 B.2.1 dX5_obeys_351 rfl (lv_at hl 4 rfl) ?_
                      refine lv_bipush (v := 10) B.1 B.2.1 dX5_obeys_352 (by decide) ?_
                      refine lv_idiv B.1 B.2.1 dX5_obeys_354 (by decide) ?_
                      refine lv_bipush (v := 100) B.1 B.2.1 dX5_obeys_355 (by decide) ?_
                      refine x_irem B dX5_obeys_357 (by decide) ?_
                      refine lv_iload_n B.1 B.2.1 dX5_obeys_358 rfl (lv_at hl 4 rfl) ?_
                      refine lv_bipush (v := 10) B.1 B.2.1 dX5_obeys_359 (by decide) ?_
                      refine x_irem B dX5_obeys_361 (by decide) ?_
                      refine c_S_I (own := RX5) (As := [va_re (zA Z) r56, .int (jirem (a1 / 10) 100), .int (jirem a1 10)]) (rest := []) B hH (cy_X5_hasSound B.2.2.2.2.1) (ct_X5_hasSound B.2.2.2.2.2.2.2 l r56 (jirem (a1 / 10) 100) (jirem a1 10) h55 _ _ (kr56) hw) ⟨⟨rfl, rfl⟩, Nat.le_of_ble_eq_true rfl, Nat.le_of_ble_eq_true rfl, Nat.zero_le _, Nat.zero_le _⟩ (tw_919 B.2.2.2.2.1) rfl hl.1 rfl (Nat.le_of_ble_eq_true rfl) dX5_obeys_362 ?_
                      clear hw hH
                      intro r58 h57 H locs hw hH
                      refine lv_if_eq (tgt := 372) B.1 B.2.1 dX5_obeys_365 (by decide) (fun c59 => ?_) (fun c59 => ?_)
                      · replace hw := hw.1 c59
                        refine lv_iconst (v := 0) B.1 B.2.1 dX5_obeys_372 (by decide) ?_
                        exact e_z B hr (by decide) hH hw dX5_obeys_373
                      · replace hw := hw.2 c59
                        refine lv_iconst (v := 1) B.1 B.2.1 dX5_obeys_368 (by decide) ?_
                        refine lv_goto (tgt := 373) B.1 B.2.1 dX5_obeys_369 (by decide) ?_
                        exact e_z B hr (by decide) hH hw dX5_obeys_373
                  · replace hw := hw.2.2.2.2.2.2.2.2.2 c5 c10 c13 c18 c24 c29 c34 c41 c53
                    have t1 := lv_neT (x := x4) (k := 1) (a := 1) c5 (by decide)
                    have t2 := lv_neT (x := x4) (k := 2) (a := 2) c10 (by decide)
                    have t3 := lv_neT (x := x4) (k := 3) (a := 3) c13 (by decide)
                    have t4 := lv_neT (x := x4) (k := 4) (a := 4) c18 (by decide)
                    have t5 := lv_neT (x := x4) (k := 5) (a := 5) c24 (by decide)
                    have t6 := lv_neT (x := x4) (k := 6) (a := 6) c29 (by decide)
                    have t7 := lv_neT (x := x4) (k := 7) (a := 7) c34 (by decide)
                    have t8 := lv_neT (x := x4) (k := 8) (a := 8) c41 (by decide)
                    have t9 := lv_neT (x := x4) (k := 9) (a := 9) c53 (by decide)
                    refine lv_tableOut (tgt := 374) B.1 B.2.1 dX5_obeys_31 (by omega) (by decide) ?_
                    refine lv_iconst (v := 0) B.1 B.2.1 dX5_obeys_374 (by decide) ?_
                    exact e_z B hr (by decide) hH hw dX5_obeys_375
theorem cy_X6_isFull {s : State} {args : Array Value} (hG : GG s) : CYV s args yX6_isFull cX6_isFull 1 (some .boolean) 0 := CYV.of hG (fun _ _ hG => tw_432 hG) (tw_7 hG) (tw_431 hG) (tp_12 hG) (by decide +kernel)
set_option maxRecDepth 100000 in
set_option maxHeartbeats 4000000 in
theorem ct_X6_isFull {Z : ZT} (hZ : ZO Z) (l : Launch) (a0 : Nat) (h : PH) (sz : Nat) (Q : Int32 → PH → Prop) (k0 : kd a0 = 7) (hw : wp_X6_isFull a0 h Q) : MI Z l yX6_isFull cX6_isFull 1 (some .boolean) ({ frames := 0, cells := 0, slots := 0, locals := 0 } : Room) h sz [.ref (zA Z a0)] Q := by
  refine open_M hZ (by decide +kernel) (by exact Nat.le_of_ble_eq_true rfl) ?_
  intro p e s m below meth c B hr hsz ls hl hH
  subst hsz
  have hl : lv_has ls 1 [(0, .ref (zA Z a0))] := hl
  unfold wp_X6_isFull at hw
  refine lv_aload_n B.1 B.2.1 dX6_isFull_0 rfl (lv_at hl 0 rfl) ?_
  refine r_get B hH (own := RX6) (kd_n B (k0) (by decide) (by decide)) (ct_7 (k0)) rfl (ul_7 B.2.2.2.2.1) 2 (by decide) rfl (tw_167 B.2.2.2.2.1) dX6_isFull_1 ?_
  refine lv_bipush (v := 120) B.1 B.2.1 dX6_isFull_4 (by decide) ?_
  refine lv_icmp_lt (tgt := 13) B.1 B.2.1 dX6_isFull_6 (by decide) (fun c1 => ?_) (fun c1 => ?_)
  · replace hw := hw.1 c1
    refine lv_iconst (v := 0) B.1 B.2.1 dX6_isFull_13 (by decide) ?_
    exact e_z B hr (by decide) hH hw dX6_isFull_14
  · replace hw := hw.2 c1
    refine lv_iconst (v := 1) B.1 B.2.1 dX6_isFull_9 (by decide) ?_
    refine lv_goto (tgt := 14) B.1 B.2.1 dX6_isFull_10 (by decide) ?_
    exact e_z B hr (by decide) hH hw dX6_isFull_14
theorem cy_X6_add {s : State} {args : Array Value} (hG : GG s) : CYV s args yX6_add cX6_add 2 (some .int) 1 := CYV.of hG (fun _ _ hG => tw_452 hG) (tw_7 hG) (tw_451 hG) (tp_13 hG) (by decide +kernel)
set_option maxRecDepth 100000 in
set_option maxHeartbeats 4000000 in
theorem ct_X6_add {Z : ZT} (hZ : ZO Z) (l : Launch) (a0 : Nat) (a1 : Int32) (h : PH) (sz : Nat) (Q : Int32 → PH → Prop) (k0 : kd a0 = 7) (hw : wp_X6_add a0 a1 h Q) : MI Z l yX6_add cX6_add 2 (some .int) ({ frames := 1, cells := 0, slots := 0, locals := 22 } : Room) h sz [.ref (zA Z a0), .int a1] Q := by
  refine open_M hZ (by decide +kernel) (by exact Nat.le_of_ble_eq_true rfl) ?_
  intro p e s m below meth c B hr hsz ls hl hH
  subst hsz
  have hl : lv_has ls 2 [(0, .ref (zA Z a0)), (1, .int a1)] := hl
  unfold wp_X6_add at hw
  refine lv_aload_n B.1 B.2.1 dX6_add_0 rfl (lv_at hl 0 rfl) ?_
  refine r_get B hH (own := RX6) (kd_n B (k0) (by decide) (by decide)) (ct_7 (k0)) rfl (ul_7 B.2.2.2.2.1) 0 (by decide) rfl (tw_165 B.2.2.2.2.1) dX6_add_1 ?_
  refine lv_aload_n B.1 B.2.1 dX6_add_4 rfl (lv_at hl 0 rfl) ?_
  refine r_get B hH (own := RX6) (kd_n B (k0) (by decide) (by decide)) (ct_7 (k0)) rfl (ul_7 B.2.2.2.2.1) 2 (by decide) rfl (tw_167 B.2.2.2.2.1) dX6_add_5 ?_
  refine lv_iload_n B.1 B.2.1 dX6_add_8 rfl (lv_at hl 1 rfl) ?_
  refine c_SN_V (own := RX6) (As := [.ref (zA Z (a0 + 1)), .int (h a0 2), .int a1]) (rest := []) B hH (cy_X7_put B.2.2.2.2.1) (ct_X7_put B.2.2.2.2.2.2.2 l (a0 + 1) (h a0 2) a1 h _ _ (kf_7_0 (k0)) hw) ⟨⟨rfl, rfl⟩, Nat.le_of_ble_eq_true rfl, Nat.le_of_ble_eq_true rfl, Nat.zero_le _, Nat.zero_le _⟩ (tw_307 B.2.2.2.2.1) rfl hl.1 rfl (Nat.le_of_ble_eq_true rfl) dX6_add_9 ?_
  clear hw hH
  intro h1 H locs hw hH
  refine lv_aload_n B.1 B.2.1 dX6_add_12 rfl (lv_at hl 0 rfl) ?_
  refine lv_dup B.1 B.2.1 dX6_add_13 rfl ?_
  refine r_get B hH (own := RX6) (kd_n B (k0) (by decide) (by decide)) (ct_7 (k0)) rfl (ul_7 B.2.2.2.2.1) 2 (by decide) rfl (tw_167 B.2.2.2.2.1) dX6_add_14 ?_
  refine lv_iconst (v := 1) B.1 B.2.1 dX6_add_17 (by decide) ?_
  refine lv_iadd B.1 B.2.1 dX6_add_18 ?_
  refine r_put B hH (own := RX6) (kd_n B (k0) (by decide) (by decide)) (ct_7 (k0)) rfl (ul_7 B.2.2.2.2.1) tyX6 tyX6_ok nmX6 2 (by decide) (ty := .int) rfl rfl rfl rfl (Nat.le_of_ble_eq_true rfl) (cs_7_2 (k0)) (tw_167 B.2.2.2.2.1) dX6_add_19 ?_
  clear hH
  intro H locs hH
  obtain ⟨h2, eh2⟩ : ∃ z : PH, z = up2 h1 a0 2 ((h1 a0 2) + 1) := ⟨_, rfl⟩
  rw [← eh2] at hH
  replace hw := hw h2 eh2
  refine lv_aload_n B.1 B.2.1 dX6_add_22 rfl (lv_at hl 0 rfl) ?_
  refine r_get B hH (own := RX6) (kd_n B (k0) (by decide) (by decide)) (ct_7 (k0)) rfl (ul_7 B.2.2.2.2.1) 2 (by decide) rfl (tw_167 B.2.2.2.2.1) dX6_add_23 ?_
  exact e_i B hr hH hw dX6_add_26
theorem cy_X6_empty {s : State} {args : Array Value} (hG : GG s) : CYV s args yX6_empty cX6_empty 2 (some .int) 0 := CYV.of hG (fun _ _ hG => tw_208 hG) (tw_7 hG) (tw_207 hG) (tp_0 hG) (by decide +kernel)
set_option maxRecDepth 100000 in
set_option maxHeartbeats 4000000 in
theorem ct_X6_empty {Z : ZT} (hZ : ZO Z) (l : Launch) (a0 : Nat) (h : PH) (sz : Nat) (Q : Int32 → PH → Prop) (k0 : kd a0 = 7) (hw : wp_X6_empty a0 h Q) : MI Z l yX6_empty cX6_empty 2 (some .int) ({ frames := 0, cells := 0, slots := 0, locals := 0 } : Room) h sz [.ref (zA Z a0)] Q := by
  refine open_M hZ (by decide +kernel) (by exact Nat.le_of_ble_eq_true rfl) ?_
  intro p e s m below meth c B hr hsz ls hl hH
  subst hsz
  have hl : lv_has ls 2 [(0, .ref (zA Z a0))] := hl
  unfold wp_X6_empty at hw
  refine lv_aload_n B.1 B.2.1 dX6_empty_0 rfl (lv_at hl 0 rfl) ?_
  refine r_get B hH (own := RX6) (kd_n B (k0) (by decide) (by decide)) (ct_7 (k0)) rfl (ul_7 B.2.2.2.2.1) 2 (by decide) rfl (tw_167 B.2.2.2.2.1) dX6_empty_1 ?_
  refine lv_topi (fun x1 ex1 => ?_)
  replace hw := hw x1 ex1
  refine lv_istore_n (lv' := [(1, .int x1), (0, .ref (zA Z a0))]) B.1 B.2.1 dX6_empty_4 rfl hl (by decide) (by first | rfl | simp [va_re_cat, Value.category]) ?_
  clear hl
  intro ls hl
  refine lv_aload_n B.1 B.2.1 dX6_empty_5 rfl (lv_at hl 1 rfl) ?_
  refine lv_iconst (v := 0) B.1 B.2.1 dX6_empty_6 (by decide) ?_
  refine r_put B hH (own := RX6) (kd_n B (k0) (by decide) (by decide)) (ct_7 (k0)) rfl (ul_7 B.2.2.2.2.1) tyX6 tyX6_ok nmX6 2 (by decide) (ty := .int) rfl rfl rfl rfl (Nat.le_of_ble_eq_true rfl) (cs_7_2 (k0)) (tw_167 B.2.2.2.2.1) dX6_empty_7 ?_
  clear hH
  intro H locs hH
  obtain ⟨h2, eh2⟩ : ∃ z : PH, z = up2 h a0 2 0 := ⟨_, rfl⟩
  rw [← eh2] at hH
  replace hw := hw h2 eh2
  refine lv_iload_n B.1 B.2.1 dX6_empty_10 rfl (lv_at hl 0 rfl) ?_
  exact e_i B hr hH hw dX6_empty_11
theorem cy_X6_signAt {s : State} {args : Array Value} (hG : GG s) : CYV s args yX6_signAt cX6_signAt 2 (some .int) 1 := CYV.of hG (fun _ _ hG => tw_220 hG) (tw_7 hG) (tw_219 hG) (tp_2 hG) (by decide +kernel)
set_option maxRecDepth 100000 in
set_option maxHeartbeats 4000000 in
theorem ct_X6_signAt {Z : ZT} (hZ : ZO Z) (l : Launch) (a0 : Nat) (a1 : Int32) (h : PH) (sz : Nat) (Q : Int32 → PH → Prop) (k0 : kd a0 = 7) (hw : wp_X6_signAt a0 a1 h Q) : MI Z l yX6_signAt cX6_signAt 2 (some .int) ({ frames := 1, cells := 0, slots := 0, locals := 22 } : Room) h sz [.ref (zA Z a0), .int a1] Q := by
  refine open_M hZ (by decide +kernel) (by exact Nat.le_of_ble_eq_true rfl) ?_
  intro p e s m below meth c B hr hsz ls hl hH
  subst hsz
  have hl : lv_has ls 2 [(0, .ref (zA Z a0)), (1, .int a1)] := hl
  unfold wp_X6_signAt at hw
  refine lv_iload_n B.1 B.2.1 dX6_signAt_0 rfl (lv_at hl 1 rfl) ?_
  refine lv_iconst (v := 0) B.1 B.2.1 dX6_signAt_1 (by decide) ?_
  refine lv_aload_n B.1 B.2.1 dX6_signAt_2 rfl (lv_at hl 0 rfl) ?_
  refine r_get B hH (own := RX6) (kd_n B (k0) (by decide) (by decide)) (ct_7 (k0)) rfl (ul_7 B.2.2.2.2.1) 2 (by decide) rfl (tw_167 B.2.2.2.2.1) dX6_signAt_3 ?_
  refine lv_iconst (v := 1) B.1 B.2.1 dX6_signAt_6 (by decide) ?_
  refine lv_isub B.1 B.2.1 dX6_signAt_7 ?_
  refine c_SN_I (own := RX6) (As := [.int a1, .int 0, .int ((h a0 2) - 1)]) (rest := []) B hH (cy_X7_outside B.2.2.2.2.1) (ct_X7_outside B.2.2.2.2.2.2.2 l a1 0 ((h a0 2) - 1) h _ _  hw) ⟨⟨rfl, rfl⟩, Nat.le_of_ble_eq_true rfl, Nat.le_of_ble_eq_true rfl, Nat.zero_le _, Nat.zero_le _⟩ (tw_221 B.2.2.2.2.1) rfl hl.1 rfl (Nat.le_of_ble_eq_true rfl) dX6_signAt_8 ?_
  clear hw hH
  intro r2 h1 H locs hw hH
  refine lv_if_eq (tgt := 18) B.1 B.2.1 dX6_signAt_11 (by decide) (fun c3 => ?_) (fun c3 => ?_)
  · replace hw := hw.1 c3
    refine lv_aload_n B.1 B.2.1 dX6_signAt_18 rfl (lv_at hl 0 rfl) ?_
    refine r_get B hH (own := RX6) (kd_n B (k0) (by decide) (by decide)) (ct_7 (k0)) rfl (ul_7 B.2.2.2.2.1) 0 (by decide) rfl (tw_165 B.2.2.2.2.1) dX6_signAt_19 ?_
    refine lv_iload_n B.1 B.2.1 dX6_signAt_22 rfl (lv_at hl 1 rfl) ?_
    refine c_SN_I (own := RX6) (As := [.ref (zA Z (a0 + 1)), .int a1]) (rest := []) B hH (cy_X7_get B.2.2.2.2.1) (ct_X7_get B.2.2.2.2.2.2.2 l (a0 + 1) a1 h1 _ _ (kf_7_0 (k0)) hw) ⟨⟨rfl, rfl⟩, Nat.le_of_ble_eq_true rfl, Nat.le_of_ble_eq_true rfl, Nat.zero_le _, Nat.zero_le _⟩ (tw_224 B.2.2.2.2.1) rfl hl.1 rfl (Nat.le_of_ble_eq_true rfl) dX6_signAt_23 ?_
    clear hw hH
    intro r5 h4 H locs hw hH
    exact e_i B hr hH hw dX6_signAt_26
  · replace hw := hw.2 c3
    refine lv_iconst (v := (-1)) B.1 B.2.1 dX6_signAt_14 (by decide) ?_
    refine lv_goto (tgt := 26) B.1 B.2.1 dX6_signAt_15 (by decide) ?_
    exact e_i B hr hH hw dX6_signAt_26
theorem cy_X6_number {s : State} {args : Array Value} (hG : GG s) : CYV s args yX6_number cX6_number 2 (some .int) 1 := CYV.of hG (fun _ _ hG => tw_474 hG) (tw_7 hG) (tw_473 hG) (tp_16 hG) (by decide +kernel)
set_option maxRecDepth 100000 in
set_option maxHeartbeats 4000000 in
theorem ct_X6_number {Z : ZT} (hZ : ZO Z) (l : Launch) (a0 : Nat) (a1 : Int32) (h : PH) (sz : Nat) (Q : Int32 → PH → Prop) (k0 : kd a0 = 7) (hw : wp_X6_number a0 a1 h Q) : MI Z l yX6_number cX6_number 2 (some .int) ({ frames := 1, cells := 0, slots := 0, locals := 21 } : Room) h sz [.ref (zA Z a0), .int a1] Q := by
  refine open_M hZ (by decide +kernel) (by exact Nat.le_of_ble_eq_true rfl) ?_
  intro p e s m below meth c B hr hsz ls hl hH
  subst hsz
  have hl : lv_has ls 2 [(0, .ref (zA Z a0)), (1, .int a1)] := hl
  unfold wp_X6_number at hw
  refine lv_aload_n B.1 B.2.1 dX6_number_0 rfl (lv_at hl 0 rfl) ?_
  refine r_get B hH (own := RX6) (kd_n B (k0) (by decide) (by decide)) (ct_7 (k0)) rfl (ul_7 B.2.2.2.2.1) 1 (by decide) rfl (tw_166 B.2.2.2.2.1) dX6_number_1 ?_
  refine lv_iload_n B.1 B.2.1 dX6_number_4 rfl (lv_at hl 1 rfl) ?_
  refine c_SN_I (own := RX6) (As := [.ref (zA Z (a0 + 2)), .int a1]) (rest := []) B hH (cy_X7_get B.2.2.2.2.1) (ct_X7_get B.2.2.2.2.2.2.2 l (a0 + 2) a1 h _ _ (kf_7_1 (k0)) hw) ⟨⟨rfl, rfl⟩, Nat.le_of_ble_eq_true rfl, Nat.le_of_ble_eq_true rfl, Nat.zero_le _, Nat.zero_le _⟩ (tw_224 B.2.2.2.2.1) rfl hl.1 rfl (Nat.le_of_ble_eq_true rfl) dX6_number_5 ?_
  clear hw hH
  intro r2 h1 H locs hw hH
  exact e_i B hr hH hw dX6_number_8
theorem cy_X6_begin {s : State} {args : Array Value} (hG : GG s) : CYV s args yX6_begin cX6_begin 1 none 0 := CYV.of hG (fun _ _ hG => tw_230 hG) (tw_7 hG) (tw_229 hG) (tp_3 hG) (by decide +kernel)
set_option maxRecDepth 100000 in
set_option maxHeartbeats 4000000 in
theorem ct_X6_begin {Z : ZT} (hZ : ZO Z) (l : Launch) (a0 : Nat) (h : PH) (sz : Nat) (Q : PH → Prop) (k0 : kd a0 = 7) (hw : wp_X6_begin a0 h Q) : MV Z l yX6_begin cX6_begin 1 none ({ frames := 0, cells := 0, slots := 0, locals := 0 } : Room) h sz [.ref (zA Z a0)] Q := by
  refine open_M hZ (by decide +kernel) (by exact Nat.le_of_ble_eq_true rfl) ?_
  intro p e s m below meth c B hr hsz ls hl hH
  subst hsz
  have hl : lv_has ls 1 [(0, .ref (zA Z a0))] := hl
  unfold wp_X6_begin at hw
  refine lv_aload_n B.1 B.2.1 dX6_begin_0 rfl (lv_at hl 0 rfl) ?_
  refine lv_iconst (v := 1) B.1 B.2.1 dX6_begin_1 (by decide) ?_
  refine r_put B hH (own := RX6) (kd_n B (k0) (by decide) (by decide)) (ct_7 (k0)) rfl (ul_7 B.2.2.2.2.1) tyX6 tyX6_ok nmX6 3 (by decide) (ty := .int) rfl rfl rfl rfl (Nat.le_of_ble_eq_true rfl) (cs_7_3 (k0)) (tw_168 B.2.2.2.2.1) dX6_begin_2 ?_
  clear hH
  intro H locs hH
  obtain ⟨h1, eh1⟩ : ∃ z : PH, z = up2 h a0 3 1 := ⟨_, rfl⟩
  rw [← eh1] at hH
  replace hw := hw h1 eh1
  exact e_v B hr hH hw dX6_begin_5
theorem cy_X6_isCommand {s : State} {args : Array Value} (hG : GG s) : CYS s args yX6_isCommand cX6_isCommand 1 (some .boolean) 1 := CYS.of hG (fun _ _ hG => tw_237 hG) (tw_7 hG) (tw_236 hG) (by decide +kernel)
set_option maxRecDepth 100000 in
set_option maxHeartbeats 4000000 in
theorem ct_X6_isCommand {Z : ZT} (hZ : ZO Z) (l : Launch) (a0 : Int32) (h : PH) (sz : Nat) (Q : Int32 → PH → Prop)  (hw : wp_X6_isCommand a0 h Q) : MI Z l yX6_isCommand cX6_isCommand 1 (some .boolean) ({ frames := 0, cells := 0, slots := 0, locals := 0 } : Room) h sz [.int a0] Q := by
  refine open_M hZ (by decide +kernel) (by exact Nat.le_of_ble_eq_true rfl) ?_
  intro p e s m below meth c B hr hsz ls hl hH
  subst hsz
  have hl : lv_has ls 1 [(0, .int a0)] := hl
  unfold wp_X6_isCommand at hw
  refine lv_iload_n B.1 B.2.1 dX6_isCommand_0 rfl (lv_at hl 0 rfl) ?_
  by_cases c1 : (a0 = 99 ∨ a0 = 108 ∨ a0 = 109 ∨ a0 = 112 ∨ a0 = 114 ∨ a0 = 116 ∨ a0 = 118 ∨ a0 = 119)
  · replace hw := hw.1 c1
    refine lv_tableIn (off := 99) (tgt := 100) B.1 B.2.1 dX6_isCommand_1 (by rcases c1 with e9 | e9 | e9 | e9 | e9 | e9 | e9 | e9 <;> rw [e9] <;> decide) (by rcases c1 with e9 | e9 | e9 | e9 | e9 | e9 | e9 | e9 <;> rw [e9] <;> decide) (by rcases c1 with e9 | e9 | e9 | e9 | e9 | e9 | e9 | e9 <;> rw [e9] <;> rfl) (by decide) ?_
    refine lv_iconst (v := 1) B.1 B.2.1 dX6_isCommand_100 (by decide) ?_
    exact e_z B hr (by decide) hH hw dX6_isCommand_101
  · by_cases c2 : (a0 = 100 ∨ a0 = 101 ∨ a0 = 102 ∨ a0 = 103 ∨ a0 = 104 ∨ a0 = 105 ∨ a0 = 106 ∨ a0 = 107 ∨ a0 = 110 ∨ a0 = 111 ∨ a0 = 113 ∨ a0 = 115 ∨ a0 = 117)
    · replace hw := hw.2.1 c2
      refine lv_tableIn (off := 101) (tgt := 102) B.1 B.2.1 dX6_isCommand_1 (by rcases c2 with e9 | e9 | e9 | e9 | e9 | e9 | e9 | e9 | e9 | e9 | e9 | e9 | e9 <;> rw [e9] <;> decide) (by rcases c2 with e9 | e9 | e9 | e9 | e9 | e9 | e9 | e9 | e9 | e9 | e9 | e9 | e9 <;> rw [e9] <;> decide) (by rcases c2 with e9 | e9 | e9 | e9 | e9 | e9 | e9 | e9 | e9 | e9 | e9 | e9 | e9 <;> rw [e9] <;> rfl) (by decide) ?_
      refine lv_iconst (v := 0) B.1 B.2.1 dX6_isCommand_102 (by decide) ?_
      exact e_z B hr (by decide) hH hw dX6_isCommand_103
    · replace hw := hw.2.2 (fun z => c1 (Or.inl z)) (fun z => c2 (Or.inl z)) (fun z => c2 (Or.inr (Or.inl z))) (fun z => c2 (Or.inr (Or.inr (Or.inl z)))) (fun z => c2 (Or.inr (Or.inr (Or.inr (Or.inl z))))) (fun z => c2 (Or.inr (Or.inr (Or.inr (Or.inr (Or.inl z)))))) (fun z => c2 (Or.inr (Or.inr (Or.inr (Or.inr (Or.inr (Or.inl z))))))) (fun z => c2 (Or.inr (Or.inr (Or.inr (Or.inr (Or.inr (Or.inr (Or.inl z)))))))) (fun z => c2 (Or.inr (Or.inr (Or.inr (Or.inr (Or.inr (Or.inr (Or.inr (Or.inl z))))))))) (fun z => c1 (Or.inr (Or.inl z))) (fun z => c1 (Or.inr (Or.inr (Or.inl z)))) (fun z => c2 (Or.inr (Or.inr (Or.inr (Or.inr (Or.inr (Or.inr (Or.inr (Or.inr (Or.inl z)))))))))) (fun z => c2 (Or.inr (Or.inr (Or.inr (Or.inr (Or.inr (Or.inr (Or.inr (Or.inr (Or.inr (Or.inl z))))))))))) (fun z => c1 (Or.inr (Or.inr (Or.inr (Or.inl z))))) (fun z => c2 (Or.inr (Or.inr (Or.inr (Or.inr (Or.inr (Or.inr (Or.inr (Or.inr (Or.inr (Or.inr (Or.inl z)))))))))))) (fun z => c1 (Or.inr (Or.inr (Or.inr (Or.inr (Or.inl z)))))) (fun z => c2 (Or.inr (Or.inr (Or.inr (Or.inr (Or.inr (Or.inr (Or.inr (Or.inr (Or.inr (Or.inr (Or.inr (Or.inl z))))))))))))) (fun z => c1 (Or.inr (Or.inr (Or.inr (Or.inr (Or.inr (Or.inl z))))))) (fun z => c2 (Or.inr (Or.inr (Or.inr (Or.inr (Or.inr (Or.inr (Or.inr (Or.inr (Or.inr (Or.inr (Or.inr (Or.inr z))))))))))))) (fun z => c1 (Or.inr (Or.inr (Or.inr (Or.inr (Or.inr (Or.inr (Or.inl z)))))))) (fun z => c1 (Or.inr (Or.inr (Or.inr (Or.inr (Or.inr (Or.inr (Or.inr z))))))))
      have t99 := lv_neT (x := a0) (k := 99) (a := 99) (fun z => c1 (Or.inl z)) (by decide)
      have t100 := lv_neT (x := a0) (k := 100) (a := 100) (fun z => c2 (Or.inl z)) (by decide)
      have t101 := lv_neT (x := a0) (k := 101) (a := 101) (fun z => c2 (Or.inr (Or.inl z))) (by decide)
      have t102 := lv_neT (x := a0) (k := 102) (a := 102) (fun z => c2 (Or.inr (Or.inr (Or.inl z)))) (by decide)
      have t103 := lv_neT (x := a0) (k := 103) (a := 103) (fun z => c2 (Or.inr (Or.inr (Or.inr (Or.inl z))))) (by decide)
      have t104 := lv_neT (x := a0) (k := 104) (a := 104) (fun z => c2 (Or.inr (Or.inr (Or.inr (Or.inr (Or.inl z)))))) (by decide)
      have t105 := lv_neT (x := a0) (k := 105) (a := 105) (fun z => c2 (Or.inr (Or.inr (Or.inr (Or.inr (Or.inr (Or.inl z))))))) (by decide)
      have t106 := lv_neT (x := a0) (k := 106) (a := 106) (fun z => c2 (Or.inr (Or.inr (Or.inr (Or.inr (Or.inr (Or.inr (Or.inl z)))))))) (by decide)
      have t107 := lv_neT (x := a0) (k := 107) (a := 107) (fun z => c2 (Or.inr (Or.inr (Or.inr (Or.inr (Or.inr (Or.inr (Or.inr (Or.inl z))))))))) (by decide)
      have t108 := lv_neT (x := a0) (k := 108) (a := 108) (fun z => c1 (Or.inr (Or.inl z))) (by decide)
      have t109 := lv_neT (x := a0) (k := 109) (a := 109) (fun z => c1 (Or.inr (Or.inr (Or.inl z)))) (by decide)
      have t110 := lv_neT (x := a0) (k := 110) (a := 110) (fun z => c2 (Or.inr (Or.inr (Or.inr (Or.inr (Or.inr (Or.inr (Or.inr (Or.inr (Or.inl z)))))))))) (by decide)
      have t111 := lv_neT (x := a0) (k := 111) (a := 111) (fun z => c2 (Or.inr (Or.inr (Or.inr (Or.inr (Or.inr (Or.inr (Or.inr (Or.inr (Or.inr (Or.inl z))))))))))) (by decide)
      have t112 := lv_neT (x := a0) (k := 112) (a := 112) (fun z => c1 (Or.inr (Or.inr (Or.inr (Or.inl z))))) (by decide)
      have t113 := lv_neT (x := a0) (k := 113) (a := 113) (fun z => c2 (Or.inr (Or.inr (Or.inr (Or.inr (Or.inr (Or.inr (Or.inr (Or.inr (Or.inr (Or.inr (Or.inl z)))))))))))) (by decide)
      have t114 := lv_neT (x := a0) (k := 114) (a := 114) (fun z => c1 (Or.inr (Or.inr (Or.inr (Or.inr (Or.inl z)))))) (by decide)
      have t115 := lv_neT (x := a0) (k := 115) (a := 115) (fun z => c2 (Or.inr (Or.inr (Or.inr (Or.inr (Or.inr (Or.inr (Or.inr (Or.inr (Or.inr (Or.inr (Or.inr (Or.inl z))))))))))))) (by decide)
      have t116 := lv_neT (x := a0) (k := 116) (a := 116) (fun z => c1 (Or.inr (Or.inr (Or.inr (Or.inr (Or.inr (Or.inl z))))))) (by decide)
      have t117 := lv_neT (x := a0) (k := 117) (a := 117) (fun z => c2 (Or.inr (Or.inr (Or.inr (Or.inr (Or.inr (Or.inr (Or.inr (Or.inr (Or.inr (Or.inr (Or.inr (Or.inr z))))))))))))) (by decide)
      have t118 := lv_neT (x := a0) (k := 118) (a := 118) (fun z => c1 (Or.inr (Or.inr (Or.inr (Or.inr (Or.inr (Or.inr (Or.inl z)))))))) (by decide)
      have t119 := lv_neT (x := a0) (k := 119) (a := 119) (fun z => c1 (Or.inr (Or.inr (Or.inr (Or.inr (Or.inr (Or.inr (Or.inr z)))))))) (by decide)
      refine lv_tableOut (tgt := 102) B.1 B.2.1 dX6_isCommand_1 (by omega) (by decide) ?_
      refine lv_iconst (v := 0) B.1 B.2.1 dX6_isCommand_102 (by decide) ?_
      exact e_z B hr (by decide) hH hw dX6_isCommand_103
