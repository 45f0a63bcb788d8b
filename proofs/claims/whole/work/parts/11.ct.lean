theorem cy_X0_begin {s : State} {args : Array Value} (hG : GG s) : CYV s args yX0_begin cX0_begin 1 none 0 := CYV.of hG (fun _ _ hG => tw_545 hG) (tw_4 hG) (tw_544 hG) (tp_28 hG) (by decide +kernel)
set_option maxRecDepth 100000 in
set_option maxHeartbeats 4000000 in
theorem ct_X0_begin {Z : ZT} (hZ : ZO Z) (l : Launch) (a0 : Nat) (h : PH) (sz : Nat) (Q : PH → Prop) (k0 : kd a0 = 4) (hw : wp_X0_begin a0 h Q) : MV Z l yX0_begin cX0_begin 1 none ({ frames := 0, cells := 0, slots := 0, locals := 0 } : Room) h sz [.ref (zA Z a0)] Q := by
  refine open_M hZ (by decide +kernel) (by exact Nat.le_of_ble_eq_true rfl) ?_
  intro p e s m below meth c B hr hsz ls hl hH
  subst hsz
  have hl : lv_has ls 1 [(0, .ref (zA Z a0))] := hl
  unfold wp_X0_begin at hw
  refine lv_aload_n B.1 B.2.1 dX0_begin_0 rfl (lv_at hl 0 rfl) ?_
  refine lv_iconst (v := 0) B.1 B.2.1 dX0_begin_1 (by decide) ?_
  refine r_put B hH (own := RX0) (kd_n B (k0) (by decide) (by decide)) (ct_4 (k0)) rfl (ul_4 B.2.2.2.2.1) tyX0 tyX0_ok nmX0 2 (by decide) (ty := .int) rfl rfl rfl rfl (Nat.le_of_ble_eq_true rfl) (cs_4_2 (k0)) (tw_66 B.2.2.2.2.1) dX0_begin_2 ?_
  clear hH
  intro H locs hH
  obtain ⟨h1, eh1⟩ : ∃ z : PH, z = up2 h a0 2 0 := ⟨_, rfl⟩
  rw [← eh1] at hH
  replace hw := hw h1 eh1
  refine lv_aload_n B.1 B.2.1 dX0_begin_5 rfl (lv_at hl 0 rfl) ?_
  refine lv_iconst (v := 0) B.1 B.2.1 dX0_begin_6 (by decide) ?_
  refine r_put B hH (own := RX0) (kd_n B (k0) (by decide) (by decide)) (ct_4 (k0)) rfl (ul_4 B.2.2.2.2.1) tyX0 tyX0_ok nmX0 3 (by decide) (ty := .int) rfl rfl rfl rfl (Nat.le_of_ble_eq_true rfl) (cs_4_3 (k0)) (tw_69 B.2.2.2.2.1) dX0_begin_7 ?_
  clear hH
  intro H locs hH
  obtain ⟨h2, eh2⟩ : ∃ z : PH, z = up2 h1 a0 3 0 := ⟨_, rfl⟩
  rw [← eh2] at hH
  replace hw := hw h2 eh2
  refine lv_aload_n B.1 B.2.1 dX0_begin_10 rfl (lv_at hl 0 rfl) ?_
  refine lv_iconst (v := 1) B.1 B.2.1 dX0_begin_11 (by decide) ?_
  refine r_put B hH (own := RX0) (kd_n B (k0) (by decide) (by decide)) (ct_4 (k0)) rfl (ul_4 B.2.2.2.2.1) tyX0 tyX0_ok nmX0 4 (by decide) (ty := .int) rfl rfl rfl rfl (Nat.le_of_ble_eq_true rfl) (cs_4_4 (k0)) (tw_72 B.2.2.2.2.1) dX0_begin_12 ?_
  clear hH
  intro H locs hH
  obtain ⟨h3, eh3⟩ : ∃ z : PH, z = up2 h2 a0 4 1 := ⟨_, rfl⟩
  rw [← eh3] at hH
  replace hw := hw h3 eh3
  refine lv_aload_n B.1 B.2.1 dX0_begin_15 rfl (lv_at hl 0 rfl) ?_
  refine lv_iconst (v := 1) B.1 B.2.1 dX0_begin_16 (by decide) ?_
  refine r_put B hH (own := RX0) (kd_n B (k0) (by decide) (by decide)) (ct_4 (k0)) rfl (ul_4 B.2.2.2.2.1) tyX0 tyX0_ok nmX0 5 (by decide) (ty := .int) rfl rfl rfl rfl (Nat.le_of_ble_eq_true rfl) (cs_4_5 (k0)) (tw_74 B.2.2.2.2.1) dX0_begin_17 ?_
  clear hH
  intro H locs hH
  obtain ⟨h4, eh4⟩ : ∃ z : PH, z = up2 h3 a0 5 1 := ⟨_, rfl⟩
  rw [← eh4] at hH
  replace hw := hw h4 eh4
  refine lv_aload_n B.1 B.2.1 dX0_begin_20 rfl (lv_at hl 0 rfl) ?_
  refine lv_iconst (v := 0) B.1 B.2.1 dX0_begin_21 (by decide) ?_
  refine r_put B hH (own := RX0) (kd_n B (k0) (by decide) (by decide)) (ct_4 (k0)) rfl (ul_4 B.2.2.2.2.1) tyX0 tyX0_ok nmX0 6 (by decide) (ty := .int) rfl rfl rfl rfl (Nat.le_of_ble_eq_true rfl) (cs_4_6 (k0)) (tw_76 B.2.2.2.2.1) dX0_begin_22 ?_
  clear hH
  intro H locs hH
  obtain ⟨h5, eh5⟩ : ∃ z : PH, z = up2 h4 a0 6 0 := ⟨_, rfl⟩
  rw [← eh5] at hH
  replace hw := hw h5 eh5
  refine lv_aload_n B.1 B.2.1 dX0_begin_25 rfl (lv_at hl 0 rfl) ?_
  refine lv_iconst (v := 0) B.1 B.2.1 dX0_begin_26 (by decide) ?_
  refine r_put B hH (own := RX0) (kd_n B (k0) (by decide) (by decide)) (ct_4 (k0)) rfl (ul_4 B.2.2.2.2.1) tyX0 tyX0_ok nmX0 7 (by decide) (ty := .boolean) rfl (nz_b (by decide)) (fz_b (by decide)) rfl (Nat.le_of_ble_eq_true rfl) (cs_4_7 (k0)) (tw_79 B.2.2.2.2.1) dX0_begin_27 ?_
  clear hH
  intro H locs hH
  obtain ⟨h6, eh6⟩ : ∃ z : PH, z = up2 h5 a0 7 0 := ⟨_, rfl⟩
  rw [← eh6] at hH
  replace hw := hw h6 eh6
  exact e_v B hr hH hw dX0_begin_30
theorem cy_J9_max_7cf53 {s : State} {args : Array Value} (hG : GG s) : CYS s args yJ9_max_7cf53 cJ9_max_7cf53 2 (some .int) 2 := CYS.of hG (fun _ _ hG => tw_329 hG) (tw_18 hG) (tw_328 hG) (by decide +kernel)
set_option maxRecDepth 100000 in
set_option maxHeartbeats 4000000 in
theorem ct_J9_max_7cf53 {Z : ZT} (hZ : ZO Z) (l : Launch) (a0 : Int32) (a1 : Int32) (h : PH) (sz : Nat) (Q : Int32 → PH → Prop)  (hw : wp_J9_max_7cf53 a0 a1 h Q) : MI Z l yJ9_max_7cf53 cJ9_max_7cf53 2 (some .int) ({ frames := 0, cells := 0, slots := 0, locals := 0 } : Room) h sz [.int a0, .int a1] Q := by
  refine open_MF hZ (by decide +kernel) (by exact Nat.le_of_ble_eq_true rfl) ?_
  intro p e s m below meth c B hr hsz ls hl hH
  subst hsz
  have hl : lv_has ls 2 [(0, .int a0), (1, .int a1)] := hl
  unfold wp_J9_max_7cf53 at hw
  refine lv_iload_n B.1 B.2.1 dJ9_max_7cf53_0 rfl (lv_at hl 0 rfl) ?_
  refine lv_iload_n B.1 B.2.1 dJ9_max_7cf53_1 rfl (lv_at hl 1 rfl) ?_
  refine lv_icmp_lt (tgt := 9) B.1 B.2.1 dJ9_max_7cf53_2 (by decide) (fun c1 => ?_) (fun c1 => ?_)
  · replace hw := hw.1 c1
    refine lv_iload_n B.1 B.2.1 dJ9_max_7cf53_9 rfl (lv_at hl 1 rfl) ?_
    exact e_i B hr hH hw dJ9_max_7cf53_10
  · replace hw := hw.2 c1
    refine lv_iload_n B.1 B.2.1 dJ9_max_7cf53_5 rfl (lv_at hl 0 rfl) ?_
    refine lv_goto (tgt := 10) B.1 B.2.1 dJ9_max_7cf53_6 (by decide) ?_
    exact e_i B hr hH hw dJ9_max_7cf53_10
theorem cy_J9_min_7cf53 {s : State} {args : Array Value} (hG : GG s) : CYS s args yJ9_min_7cf53 cJ9_min_7cf53 2 (some .int) 2 := CYS.of hG (fun _ _ hG => tw_597 hG) (tw_18 hG) (tw_596 hG) (by decide +kernel)
set_option maxRecDepth 100000 in
set_option maxHeartbeats 4000000 in
theorem ct_J9_min_7cf53 {Z : ZT} (hZ : ZO Z) (l : Launch) (a0 : Int32) (a1 : Int32) (h : PH) (sz : Nat) (Q : Int32 → PH → Prop)  (hw : wp_J9_min_7cf53 a0 a1 h Q) : MI Z l yJ9_min_7cf53 cJ9_min_7cf53 2 (some .int) ({ frames := 0, cells := 0, slots := 0, locals := 0 } : Room) h sz [.int a0, .int a1] Q := by
  refine open_MF hZ (by decide +kernel) (by exact Nat.le_of_ble_eq_true rfl) ?_
  intro p e s m below meth c B hr hsz ls hl hH
  subst hsz
  have hl : lv_has ls 2 [(0, .int a0), (1, .int a1)] := hl
  unfold wp_J9_min_7cf53 at hw
  refine lv_iload_n B.1 B.2.1 dJ9_min_7cf53_0 rfl (lv_at hl 0 rfl) ?_
  refine lv_iload_n B.1 B.2.1 dJ9_min_7cf53_1 rfl (lv_at hl 1 rfl) ?_
  refine lv_icmp_gt (tgt := 9) B.1 B.2.1 dJ9_min_7cf53_2 (by decide) (fun c1 => ?_) (fun c1 => ?_)
  · replace hw := hw.1 c1
    refine lv_iload_n B.1 B.2.1 dJ9_min_7cf53_9 rfl (lv_at hl 1 rfl) ?_
    exact e_i B hr hH hw dJ9_min_7cf53_10
  · replace hw := hw.2 c1
    refine lv_iload_n B.1 B.2.1 dJ9_min_7cf53_5 rfl (lv_at hl 0 rfl) ?_
    refine lv_goto (tgt := 10) B.1 B.2.1 dJ9_min_7cf53_6 (by decide) ?_
    exact e_i B hr hH hw dJ9_min_7cf53_10
theorem cy_X7_copyRow {s : State} {args : Array Value} (hG : GG s) : CYS s args yX7_copyRow cX7_copyRow 4 none 3 := CYS.of hG (fun _ _ hG => tw_766 hG) (tw_1 hG) (tw_765 hG) (by decide +kernel)
set_option maxRecDepth 100000 in
set_option maxHeartbeats 4000000 in
theorem ct_X7_copyRow {Z : ZT} (hZ : ZO Z) (l : Launch) (a0 : Nat) (a1 : Nat) (a2 : Int32) (h : PH) (sz : Nat) (Q : PH → Prop) (k0 : kd a0 = 10) (k1 : kd a1 = 10) (hw : wp_X7_copyRow a0 a1 a2 h Q) : MV Z l yX7_copyRow cX7_copyRow 4 none ({ frames := 1, cells := 0, slots := 0, locals := 26 } : Room) h sz [.ref (zA Z a0), .ref (zA Z a1), .int a2] Q := by
  refine open_M hZ (by decide +kernel) (by exact Nat.le_of_ble_eq_true rfl) ?_
  intro p e s m below meth c B hr hsz ls hl hH
  subst hsz
  have hl : lv_has ls 4 [(0, .ref (zA Z a0)), (1, .ref (zA Z a1)), (2, .int a2)] := hl
  unfold wp_X7_copyRow at hw
  refine lv_aload_n B.1 B.2.1 dX7_copyRow_0 rfl (lv_at hl 0 rfl) ?_
  refine r_alen B hH (k0) dX7_copyRow_1 ?_
  refine lv_aload_n B.1 B.2.1 dX7_copyRow_2 rfl (lv_at hl 1 rfl) ?_
  refine r_alen B hH (k1) dX7_copyRow_3 ?_
  refine c_S_I (own := RX7) (As := [.int (nI (al a0)), .int (nI (al a1))]) (rest := []) B hH (cy_J9_min_7cf53 B.2.2.2.2.1) (ct_J9_min_7cf53 B.2.2.2.2.2.2.2 l (nI (al a0)) (nI (al a1)) h _ _  hw) ⟨⟨rfl, rfl⟩, Nat.le_of_ble_eq_true rfl, Nat.le_of_ble_eq_true rfl, Nat.zero_le _, Nat.zero_le _⟩ (tw_767 B.2.2.2.2.1) rfl hl.1 rfl (Nat.le_of_ble_eq_true rfl) dX7_copyRow_4 ?_
  clear hw hH
  intro r2 h1 H locs hw hH
  refine lv_istore_n (lv' := [(3, .int r2), (0, .ref (zA Z a0)), (1, .ref (zA Z a1)), (2, .int a2)]) B.1 B.2.1 dX7_copyRow_7 rfl hl (by decide) (by first | rfl | simp [va_re_cat, Value.category]) ?_
  clear hl
  intro ls hl
  refine lv_aload_n B.1 B.2.1 dX7_copyRow_8 rfl (lv_at hl 1 rfl) ?_
  refine lv_iconst (v := 0) B.1 B.2.1 dX7_copyRow_9 (by decide) ?_
  refine lv_aload_n B.1 B.2.1 dX7_copyRow_10 rfl (lv_at hl 2 rfl) ?_
  refine lv_iconst (v := 0) B.1 B.2.1 dX7_copyRow_11 (by decide) ?_
  refine lv_iconst (v := 0) B.1 B.2.1 dX7_copyRow_12 (by decide) ?_
  refine lv_iload_n B.1 B.2.1 dX7_copyRow_13 rfl (lv_at hl 3 rfl) ?_
  refine lv_iload_n B.1 B.2.1 dX7_copyRow_14 rfl (lv_at hl 0 rfl) ?_
  refine c_S_I (own := RX7) (As := [.int a2, .int r2]) (rest := [.int 0, .int 0, .ref (zA Z a1), .int 0, .ref (zA Z a0)]) B hH (cy_J9_min_7cf53 B.2.2.2.2.1) (ct_J9_min_7cf53 B.2.2.2.2.2.2.2 l a2 r2 h1 _ _  hw) ⟨⟨rfl, rfl⟩, Nat.le_of_ble_eq_true rfl, Nat.le_of_ble_eq_true rfl, Nat.zero_le _, Nat.zero_le _⟩ (tw_767 B.2.2.2.2.1) rfl hl.1 rfl (Nat.le_of_ble_eq_true rfl) dX7_copyRow_15 ?_
  clear hw hH
  intro r4 h3 H locs hw hH
  refine c_S_I (own := RX7) (As := [.int 0, .int r4]) (rest := [.int 0, .ref (zA Z a1), .int 0, .ref (zA Z a0)]) B hH (cy_J9_max_7cf53 B.2.2.2.2.1) (ct_J9_max_7cf53 B.2.2.2.2.2.2.2 l 0 r4 h3 _ _  hw) ⟨⟨rfl, rfl⟩, Nat.le_of_ble_eq_true rfl, Nat.le_of_ble_eq_true rfl, Nat.zero_le _, Nat.zero_le _⟩ (tw_768 B.2.2.2.2.1) rfl hl.1 rfl (Nat.le_of_ble_eq_true rfl) dX7_copyRow_18 ?_
  clear hw hH
  intro r6 h5 H locs hw hH
  have q7 := hw.1
  replace hw := hw.2
  refine r_copy B hH (own := RX7) (k0) (k1) (tw_771 B.2.2.2.2.1) (tw_770 B.2.2.2.2.1) (tw_21 B.2.2.2.2.1) (tw_769 B.2.2.2.2.1) q7 hl.1 (by decide) (Nat.le_of_ble_eq_true rfl) dX7_copyRow_21 ?_
  clear hH
  intro H locs hH
  obtain ⟨h8, eh8⟩ : ∃ z : PH, z = cp2 h5 a0 0 a1 0 r6 := ⟨_, rfl⟩
  rw [← eh8] at hH
  replace hw := hw h8 eh8
  exact e_v B hr hH hw dX7_copyRow_24
theorem cy_X0_copyFrom {s : State} {args : Array Value} (hG : GG s) : CYV s args yX0_copyFrom cX0_copyFrom 2 none 1 := CYV.of hG (fun _ _ hG => tw_775 hG) (tw_4 hG) (tw_774 hG) (tp_56 hG) (by decide +kernel)
set_option maxRecDepth 100000 in
set_option maxHeartbeats 4000000 in
theorem ct_X0_copyFrom {Z : ZT} (hZ : ZO Z) (l : Launch) (a0 : Nat) (a1 : Nat) (h : PH) (sz : Nat) (Q : PH → Prop) (k0 : kd a0 = 4) (k1 : kd a1 = 4) (hw : wp_X0_copyFrom a0 a1 h Q) : MV Z l yX0_copyFrom cX0_copyFrom 2 none ({ frames := 2, cells := 0, slots := 0, locals := 49 } : Room) h sz [.ref (zA Z a0), .ref (zA Z a1)] Q := by
  refine open_M hZ (by decide +kernel) (by exact Nat.le_of_ble_eq_true rfl) ?_
  intro p e s m below meth c B hr hsz ls hl hH
  subst hsz
  have hl : lv_has ls 2 [(0, .ref (zA Z a0)), (1, .ref (zA Z a1))] := hl
  unfold wp_X0_copyFrom at hw
  refine lv_aload_n B.1 B.2.1 dX0_copyFrom_0 rfl (lv_at hl 1 rfl) ?_
  refine r_get B hH (own := RX0) (kd_n B (k1) (by decide) (by decide)) (ct_4 (k1)) rfl (ul_4 B.2.2.2.2.1) 0 (by decide) rfl (tw_63 B.2.2.2.2.1) dX0_copyFrom_1 ?_
  refine lv_aload_n B.1 B.2.1 dX0_copyFrom_4 rfl (lv_at hl 0 rfl) ?_
  refine r_get B hH (own := RX0) (kd_n B (k0) (by decide) (by decide)) (ct_4 (k0)) rfl (ul_4 B.2.2.2.2.1) 0 (by decide) rfl (tw_63 B.2.2.2.2.1) dX0_copyFrom_5 ?_
  refine lv_aload_n B.1 B.2.1 dX0_copyFrom_8 rfl (lv_at hl 1 rfl) ?_
  refine r_get B hH (own := RX0) (kd_n B (k1) (by decide) (by decide)) (ct_4 (k1)) rfl (ul_4 B.2.2.2.2.1) 2 (by decide) rfl (tw_66 B.2.2.2.2.1) dX0_copyFrom_9 ?_
  refine c_SN_V (own := RX0) (As := [.ref (zA Z (a1 + 1)), .ref (zA Z (a0 + 1)), .int (h a1 2)]) (rest := []) B hH (cy_X7_copyRow B.2.2.2.2.1) (ct_X7_copyRow B.2.2.2.2.2.2.2 l (a1 + 1) (a0 + 1) (h a1 2) h _ _ (kf_4_0 (k1)) (kf_4_0 (k0)) hw) ⟨⟨rfl, rfl⟩, Nat.le_of_ble_eq_true rfl, Nat.le_of_ble_eq_true rfl, Nat.zero_le _, Nat.zero_le _⟩ (tw_776 B.2.2.2.2.1) rfl hl.1 rfl (Nat.le_of_ble_eq_true rfl) dX0_copyFrom_12 ?_
  clear hw hH
  intro h1 H locs hw hH
  refine lv_aload_n B.1 B.2.1 dX0_copyFrom_15 rfl (lv_at hl 1 rfl) ?_
  refine r_get B hH (own := RX0) (kd_n B (k1) (by decide) (by decide)) (ct_4 (k1)) rfl (ul_4 B.2.2.2.2.1) 1 (by decide) rfl (tw_65 B.2.2.2.2.1) dX0_copyFrom_16 ?_
  refine lv_aload_n B.1 B.2.1 dX0_copyFrom_19 rfl (lv_at hl 0 rfl) ?_
  refine r_get B hH (own := RX0) (kd_n B (k0) (by decide) (by decide)) (ct_4 (k0)) rfl (ul_4 B.2.2.2.2.1) 1 (by decide) rfl (tw_65 B.2.2.2.2.1) dX0_copyFrom_20 ?_
  refine lv_aload_n B.1 B.2.1 dX0_copyFrom_23 rfl (lv_at hl 1 rfl) ?_
  refine r_get B hH (own := RX0) (kd_n B (k1) (by decide) (by decide)) (ct_4 (k1)) rfl (ul_4 B.2.2.2.2.1) 3 (by decide) rfl (tw_69 B.2.2.2.2.1) dX0_copyFrom_24 ?_
  refine c_SN_V (own := RX0) (As := [.ref (zA Z (a1 + 2)), .ref (zA Z (a0 + 2)), .int (h1 a1 3)]) (rest := []) B hH (cy_X7_copyRow B.2.2.2.2.1) (ct_X7_copyRow B.2.2.2.2.2.2.2 l (a1 + 2) (a0 + 2) (h1 a1 3) h1 _ _ (kf_4_1 (k1)) (kf_4_1 (k0)) hw) ⟨⟨rfl, rfl⟩, Nat.le_of_ble_eq_true rfl, Nat.le_of_ble_eq_true rfl, Nat.zero_le _, Nat.zero_le _⟩ (tw_776 B.2.2.2.2.1) rfl hl.1 rfl (Nat.le_of_ble_eq_true rfl) dX0_copyFrom_27 ?_
  clear hw hH
  intro h2 H locs hw hH
  refine lv_aload_n B.1 B.2.1 dX0_copyFrom_30 rfl (lv_at hl 0 rfl) ?_
  refine lv_aload_n B.1 B.2.1 dX0_copyFrom_31 rfl (lv_at hl 1 rfl) ?_
  refine r_get B hH (own := RX0) (kd_n B (k1) (by decide) (by decide)) (ct_4 (k1)) rfl (ul_4 B.2.2.2.2.1) 2 (by decide) rfl (tw_66 B.2.2.2.2.1) dX0_copyFrom_32 ?_
  refine r_put B hH (own := RX0) (kd_n B (k0) (by decide) (by decide)) (ct_4 (k0)) rfl (ul_4 B.2.2.2.2.1) tyX0 tyX0_ok nmX0 2 (by decide) (ty := .int) rfl rfl rfl rfl (Nat.le_of_ble_eq_true rfl) (cs_4_2 (k0)) (tw_66 B.2.2.2.2.1) dX0_copyFrom_35 ?_
  clear hH
  intro H locs hH
  obtain ⟨h3, eh3⟩ : ∃ z : PH, z = up2 h2 a0 2 (h2 a1 2) := ⟨_, rfl⟩
  rw [← eh3] at hH
  replace hw := hw h3 eh3
  refine lv_aload_n B.1 B.2.1 dX0_copyFrom_38 rfl (lv_at hl 0 rfl) ?_
  refine lv_aload_n B.1 B.2.1 dX0_copyFrom_39 rfl (lv_at hl 1 rfl) ?_
  refine r_get B hH (own := RX0) (kd_n B (k1) (by decide) (by decide)) (ct_4 (k1)) rfl (ul_4 B.2.2.2.2.1) 3 (by decide) rfl (tw_69 B.2.2.2.2.1) dX0_copyFrom_40 ?_
  refine r_put B hH (own := RX0) (kd_n B (k0) (by decide) (by decide)) (ct_4 (k0)) rfl (ul_4 B.2.2.2.2.1) tyX0 tyX0_ok nmX0 3 (by decide) (ty := .int) rfl rfl rfl rfl (Nat.le_of_ble_eq_true rfl) (cs_4_3 (k0)) (tw_69 B.2.2.2.2.1) dX0_copyFrom_43 ?_
  clear hH
  intro H locs hH
  obtain ⟨h4, eh4⟩ : ∃ z : PH, z = up2 h3 a0 3 (h3 a1 3) := ⟨_, rfl⟩
  rw [← eh4] at hH
  replace hw := hw h4 eh4
  refine lv_aload_n B.1 B.2.1 dX0_copyFrom_46 rfl (lv_at hl 0 rfl) ?_
  refine lv_aload_n B.1 B.2.1 dX0_copyFrom_47 rfl (lv_at hl 1 rfl) ?_
  refine r_get B hH (own := RX0) (kd_n B (k1) (by decide) (by decide)) (ct_4 (k1)) rfl (ul_4 B.2.2.2.2.1) 4 (by decide) rfl (tw_72 B.2.2.2.2.1) dX0_copyFrom_48 ?_
  refine r_put B hH (own := RX0) (kd_n B (k0) (by decide) (by decide)) (ct_4 (k0)) rfl (ul_4 B.2.2.2.2.1) tyX0 tyX0_ok nmX0 4 (by decide) (ty := .int) rfl rfl rfl rfl (Nat.le_of_ble_eq_true rfl) (cs_4_4 (k0)) (tw_72 B.2.2.2.2.1) dX0_copyFrom_51 ?_
  clear hH
  intro H locs hH
  obtain ⟨h5, eh5⟩ : ∃ z : PH, z = up2 h4 a0 4 (h4 a1 4) := ⟨_, rfl⟩
  rw [← eh5] at hH
  replace hw := hw h5 eh5
  refine lv_aload_n B.1 B.2.1 dX0_copyFrom_54 rfl (lv_at hl 0 rfl) ?_
  refine lv_aload_n B.1 B.2.1 dX0_copyFrom_55 rfl (lv_at hl 1 rfl) ?_
  refine r_get B hH (own := RX0) (kd_n B (k1) (by decide) (by decide)) (ct_4 (k1)) rfl (ul_4 B.2.2.2.2.1) 5 (by decide) rfl (tw_74 B.2.2.2.2.1) dX0_copyFrom_56 ?_
  refine r_put B hH (own := RX0) (kd_n B (k0) (by decide) (by decide)) (ct_4 (k0)) rfl (ul_4 B.2.2.2.2.1) tyX0 tyX0_ok nmX0 5 (by decide) (ty := .int) rfl rfl rfl rfl (Nat.le_of_ble_eq_true rfl) (cs_4_5 (k0)) (tw_74 B.2.2.2.2.1) dX0_copyFrom_59 ?_
  clear hH
  intro H locs hH
  obtain ⟨h6, eh6⟩ : ∃ z : PH, z = up2 h5 a0 5 (h5 a1 5) := ⟨_, rfl⟩
  rw [← eh6] at hH
  replace hw := hw h6 eh6
  refine lv_aload_n B.1 B.2.1 dX0_copyFrom_62 rfl (lv_at hl 0 rfl) ?_
  refine lv_aload_n B.1 B.2.1 dX0_copyFrom_63 rfl (lv_at hl 1 rfl) ?_
  refine r_get B hH (own := RX0) (kd_n B (k1) (by decide) (by decide)) (ct_4 (k1)) rfl (ul_4 B.2.2.2.2.1) 6 (by decide) rfl (tw_76 B.2.2.2.2.1) dX0_copyFrom_64 ?_
  refine r_put B hH (own := RX0) (kd_n B (k0) (by decide) (by decide)) (ct_4 (k0)) rfl (ul_4 B.2.2.2.2.1) tyX0 tyX0_ok nmX0 6 (by decide) (ty := .int) rfl rfl rfl rfl (Nat.le_of_ble_eq_true rfl) (cs_4_6 (k0)) (tw_76 B.2.2.2.2.1) dX0_copyFrom_67 ?_
  clear hH
  intro H locs hH
  obtain ⟨h7, eh7⟩ : ∃ z : PH, z = up2 h6 a0 6 (h6 a1 6) := ⟨_, rfl⟩
  rw [← eh7] at hH
  replace hw := hw h7 eh7
  refine lv_aload_n B.1 B.2.1 dX0_copyFrom_70 rfl (lv_at hl 0 rfl) ?_
  refine lv_aload_n B.1 B.2.1 dX0_copyFrom_71 rfl (lv_at hl 1 rfl) ?_
  refine r_get B hH (own := RX0) (kd_n B (k1) (by decide) (by decide)) (ct_4 (k1)) rfl (ul_4 B.2.2.2.2.1) 7 (by decide) rfl (tw_79 B.2.2.2.2.1) dX0_copyFrom_72 ?_
  have q8 := hw.1
  replace hw := hw.2
  refine r_put B hH (own := RX0) (kd_n B (k0) (by decide) (by decide)) (ct_4 (k0)) rfl (ul_4 B.2.2.2.2.1) tyX0 tyX0_ok nmX0 7 (by decide) (ty := .boolean) rfl (nz_b q8) (fz_b q8) rfl (Nat.le_of_ble_eq_true rfl) (cs_4_7 (k0)) (tw_79 B.2.2.2.2.1) dX0_copyFrom_75 ?_
  clear hH
  intro H locs hH
  obtain ⟨h9, eh9⟩ : ∃ z : PH, z = up2 h7 a0 7 (h7 a1 7) := ⟨_, rfl⟩
  rw [← eh9] at hH
  replace hw := hw h9 eh9
  exact e_v B hr hH hw dX0_copyFrom_78
theorem cy_X0_isEmpty {s : State} {args : Array Value} (hG : GG s) : CYV s args yX0_isEmpty cX0_isEmpty 1 (some .boolean) 0 := CYV.of hG (fun _ _ hG => tw_326 hG) (tw_4 hG) (tw_325 hG) (tp_7 hG) (by decide +kernel)
set_option maxRecDepth 100000 in
set_option maxHeartbeats 4000000 in
theorem ct_X0_isEmpty {Z : ZT} (hZ : ZO Z) (l : Launch) (a0 : Nat) (h : PH) (sz : Nat) (Q : Int32 → PH → Prop) (k0 : kd a0 = 4) (hw : wp_X0_isEmpty a0 h Q) : MI Z l yX0_isEmpty cX0_isEmpty 1 (some .boolean) ({ frames := 0, cells := 0, slots := 0, locals := 0 } : Room) h sz [.ref (zA Z a0)] Q := by
  refine open_M hZ (by decide +kernel) (by exact Nat.le_of_ble_eq_true rfl) ?_
  intro p e s m below meth c B hr hsz ls hl hH
  subst hsz
  have hl : lv_has ls 1 [(0, .ref (zA Z a0))] := hl
  unfold wp_X0_isEmpty at hw
  refine lv_aload_n B.1 B.2.1 dX0_isEmpty_0 rfl (lv_at hl 0 rfl) ?_
  refine r_get B hH (own := RX0) (kd_n B (k0) (by decide) (by decide)) (ct_4 (k0)) rfl (ul_4 B.2.2.2.2.1) 2 (by decide) rfl (tw_66 B.2.2.2.2.1) dX0_isEmpty_1 ?_
  refine lv_if_ne (tgt := 11) B.1 B.2.1 dX0_isEmpty_4 (by decide) (fun c1 => ?_) (fun c1 => ?_)
  · replace hw := hw.1 c1
    refine lv_iconst (v := 0) B.1 B.2.1 dX0_isEmpty_11 (by decide) ?_
    exact e_z B hr (by decide) hH hw dX0_isEmpty_12
  · replace hw := hw.2 c1
    refine lv_iconst (v := 1) B.1 B.2.1 dX0_isEmpty_7 (by decide) ?_
    refine lv_goto (tgt := 12) B.1 B.2.1 dX0_isEmpty_8 (by decide) ?_
    exact e_z B hr (by decide) hH hw dX0_isEmpty_12
theorem cy_X0_phaseBehind {s : State} {args : Array Value} (hG : GG s) : CYV s args yX0_phaseBehind cX0_phaseBehind 3 (some .int) 1 := CYV.of hG (fun _ _ hG => tw_346 hG) (tw_4 hG) (tw_345 hG) (tp_10 hG) (by decide +kernel)
set_option maxRecDepth 100000 in
set_option maxHeartbeats 4000000 in
theorem ct_X0_phaseBehind {Z : ZT} (hZ : ZO Z) (l : Launch) (a0 : Nat) (a1 : Int32) (h : PH) (sz : Nat) (Q : Int32 → PH → Prop) (k0 : kd a0 = 4) (hw : wp_X0_phaseBehind a0 a1 h Q) : MI Z l yX0_phaseBehind cX0_phaseBehind 3 (some .int) ({ frames := 0, cells := 0, slots := 0, locals := 0 } : Room) h sz [.ref (zA Z a0), .int a1] Q := by
  refine open_M hZ (by decide +kernel) (by exact Nat.le_of_ble_eq_true rfl) ?_
  intro p e s m below meth c B hr hsz ls hl hH
  subst hsz
  have hl : lv_has ls 3 [(0, .ref (zA Z a0)), (1, .int a1)] := hl
  unfold wp_X0_phaseBehind at hw
  refine lv_aload_n B.1 B.2.1 dX0_phaseBehind_0 rfl (lv_at hl 0 rfl) ?_
  refine r_get B hH (own := RX0) (kd_n B (k0) (by decide) (by decide)) (ct_4 (k0)) rfl (ul_4 B.2.2.2.2.1) 2 (by decide) rfl (tw_66 B.2.2.2.2.1) dX0_phaseBehind_1 ?_
  refine lv_aload_n B.1 B.2.1 dX0_phaseBehind_4 rfl (lv_at hl 0 rfl) ?_
  refine r_get B hH (own := RX0) (kd_n B (k0) (by decide) (by decide)) (ct_4 (k0)) rfl (ul_4 B.2.2.2.2.1) 5 (by decide) rfl (tw_74 B.2.2.2.2.1) dX0_phaseBehind_5 ?_
  refine lv_imul B.1 B.2.1 dX0_phaseBehind_8 ?_
  refine lv_topi (fun x1 ex1 => ?_)
  replace hw := hw x1 ex1
  refine lv_istore_n (lv' := [(2, .int x1), (0, .ref (zA Z a0)), (1, .int a1)]) B.1 B.2.1 dX0_phaseBehind_9 rfl hl (by decide) (by first | rfl | simp [va_re_cat, Value.category]) ?_
  clear hl
  intro ls hl
  refine lv_iload_n B.1 B.2.1 dX0_phaseBehind_10 rfl (lv_at hl 0 rfl) ?_
  refine lv_if_gt (tgt := 18) B.1 B.2.1 dX0_phaseBehind_11 (by decide) (fun c2 => ?_) (fun c2 => ?_)
  · replace hw := hw.1 c2
    refine lv_aload_n B.1 B.2.1 dX0_phaseBehind_18 rfl (lv_at hl 1 rfl) ?_
    refine r_get B hH (own := RX0) (kd_n B (k0) (by decide) (by decide)) (ct_4 (k0)) rfl (ul_4 B.2.2.2.2.1) 6 (by decide) rfl (tw_76 B.2.2.2.2.1) dX0_phaseBehind_19 ?_
    refine lv_iload_n B.1 B.2.1 dX0_phaseBehind_22 rfl (lv_at hl 2 rfl) ?_
    refine lv_aload_n B.1 B.2.1 dX0_phaseBehind_23 rfl (lv_at hl 1 rfl) ?_
    refine r_get B hH (own := RX0) (kd_n B (k0) (by decide) (by decide)) (ct_4 (k0)) rfl (ul_4 B.2.2.2.2.1) 4 (by decide) rfl (tw_72 B.2.2.2.2.1) dX0_phaseBehind_24 ?_
    refine lv_imul B.1 B.2.1 dX0_phaseBehind_27 ?_
    refine lv_iadd B.1 B.2.1 dX0_phaseBehind_28 ?_
    refine lv_iload_n B.1 B.2.1 dX0_phaseBehind_29 rfl (lv_at hl 0 rfl) ?_
    have q3 := hw.1
    replace hw := hw.2
    refine x_irem B dX0_phaseBehind_30 q3 ?_
    exact e_i B hr hH hw dX0_phaseBehind_31
  · replace hw := hw.2 c2
    refine lv_iconst (v := 0) B.1 B.2.1 dX0_phaseBehind_14 (by decide) ?_
    refine lv_goto (tgt := 31) B.1 B.2.1 dX0_phaseBehind_15 (by decide) ?_
    exact e_i B hr hH hw dX0_phaseBehind_31
theorem cy_X0_headIn {s : State} {args : Array Value} (hG : GG s) : CYV s args yX0_headIn cX0_headIn 2 (some .int) 1 := CYV.of hG (fun _ _ hG => tw_573 hG) (tw_4 hG) (tw_572 hG) (tp_33 hG) (by decide +kernel)
set_option maxRecDepth 100000 in
set_option maxHeartbeats 4000000 in
theorem ct_X0_headIn {Z : ZT} (hZ : ZO Z) (l : Launch) (a0 : Nat) (a1 : Int32) (h : PH) (sz : Nat) (Q : Int32 → PH → Prop) (k0 : kd a0 = 4) (hw : wp_X0_headIn a0 a1 h Q) : MI Z l yX0_headIn cX0_headIn 2 (some .int) ({ frames := 0, cells := 0, slots := 0, locals := 0 } : Room) h sz [.ref (zA Z a0), .int a1] Q := by
  refine open_M hZ (by decide +kernel) (by exact Nat.le_of_ble_eq_true rfl) ?_
  intro p e s m below meth c B hr hsz ls hl hH
  subst hsz
  have hl : lv_has ls 2 [(0, .ref (zA Z a0)), (1, .int a1)] := hl
  unfold wp_X0_headIn at hw
  refine lv_aload_n B.1 B.2.1 dX0_headIn_0 rfl (lv_at hl 0 rfl) ?_
  refine r_get B hH (own := RX0) (kd_n B (k0) (by decide) (by decide)) (ct_4 (k0)) rfl (ul_4 B.2.2.2.2.1) 2 (by decide) rfl (tw_66 B.2.2.2.2.1) dX0_headIn_1 ?_
  refine lv_if_eq (tgt := 14) B.1 B.2.1 dX0_headIn_4 (by decide) (fun c1 => ?_) (fun c1 => ?_)
  · replace hw := hw.1 c1
    refine lv_iconst (v := (-1)) B.1 B.2.1 dX0_headIn_14 (by decide) ?_
    refine lv_goto (tgt := 24) B.1 B.2.1 dX0_headIn_15 (by decide) ?_
    exact e_i B hr hH hw dX0_headIn_24
  · replace hw := hw.2 c1
    refine lv_aload_n B.1 B.2.1 dX0_headIn_7 rfl (lv_at hl 0 rfl) ?_
    refine r_get B hH (own := RX0) (kd_n B (k0) (by decide) (by decide)) (ct_4 (k0)) rfl (ul_4 B.2.2.2.2.1) 5 (by decide) rfl (tw_74 B.2.2.2.2.1) dX0_headIn_8 ?_
    refine lv_if_gt (tgt := 18) B.1 B.2.1 dX0_headIn_11 (by decide) (fun c2 => ?_) (fun c2 => ?_)
    · replace hw := hw.1 c2
      refine lv_iload_n B.1 B.2.1 dX0_headIn_18 rfl (lv_at hl 1 rfl) ?_
      refine lv_aload_n B.1 B.2.1 dX0_headIn_19 rfl (lv_at hl 0 rfl) ?_
      refine r_get B hH (own := RX0) (kd_n B (k0) (by decide) (by decide)) (ct_4 (k0)) rfl (ul_4 B.2.2.2.2.1) 5 (by decide) rfl (tw_74 B.2.2.2.2.1) dX0_headIn_20 ?_
      have q3 := hw.1
      replace hw := hw.2
      refine lv_idiv B.1 B.2.1 dX0_headIn_23 q3 ?_
      exact e_i B hr hH hw dX0_headIn_24
    · replace hw := hw.2 c2
      refine lv_iconst (v := (-1)) B.1 B.2.1 dX0_headIn_14 (by decide) ?_
      refine lv_goto (tgt := 24) B.1 B.2.1 dX0_headIn_15 (by decide) ?_
      exact e_i B hr hH hw dX0_headIn_24
theorem cy_X7_get {s : State} {args : Array Value} (hG : GG s) : CYS s args yX7_get cX7_get 2 (some .int) 2 := CYS.of hG (fun _ _ hG => tw_226 hG) (tw_1 hG) (tw_225 hG) (by decide +kernel)
set_option maxRecDepth 100000 in
set_option maxHeartbeats 4000000 in
theorem ct_X7_get {Z : ZT} (hZ : ZO Z) (l : Launch) (a0 : Nat) (a1 : Int32) (h : PH) (sz : Nat) (Q : Int32 → PH → Prop) (k0 : kd a0 = 10) (hw : wp_X7_get a0 a1 h Q) : MI Z l yX7_get cX7_get 2 (some .int) ({ frames := 0, cells := 0, slots := 0, locals := 0 } : Room) h sz [.ref (zA Z a0), .int a1] Q := by
  refine open_M hZ (by decide +kernel) (by exact Nat.le_of_ble_eq_true rfl) ?_
  intro p e s m below meth c B hr hsz ls hl hH
  subst hsz
  have hl : lv_has ls 2 [(0, .ref (zA Z a0)), (1, .int a1)] := hl
  unfold wp_X7_get at hw
  refine lv_iload_n B.1 B.2.1 dX7_get_0 rfl (lv_at hl 1 rfl) ?_
  refine lv_if_lt (tgt := 10) B.1 B.2.1 dX7_get_1 (by decide) (fun c1 => ?_) (fun c1 => ?_)
  · replace hw := hw.1 c1
    refine lv_iconst (v := 0) B.1 B.2.1 dX7_get_10 (by decide) ?_
    refine lv_goto (tgt := 17) B.1 B.2.1 dX7_get_11 (by decide) ?_
    exact e_i B hr hH hw dX7_get_17
  · replace hw := hw.2 c1
    refine lv_iload_n B.1 B.2.1 dX7_get_4 rfl (lv_at hl 1 rfl) ?_
    refine lv_aload_n B.1 B.2.1 dX7_get_5 rfl (lv_at hl 0 rfl) ?_
    refine r_alen B hH (k0) dX7_get_6 ?_
    refine lv_icmp_lt (tgt := 14) B.1 B.2.1 dX7_get_7 (by decide) (fun c2 => ?_) (fun c2 => ?_)
    · replace hw := hw.1 c2
      refine lv_aload_n B.1 B.2.1 dX7_get_14 rfl (lv_at hl 0 rfl) ?_
      refine lv_iload_n B.1 B.2.1 dX7_get_15 rfl (lv_at hl 1 rfl) ?_
      have q3 := hw.1
      replace hw := hw.2
      refine r_iald B hH (k0) q3 dX7_get_16 ?_
      exact e_i B hr hH hw dX7_get_17
    · replace hw := hw.2 c2
      refine lv_iconst (v := 0) B.1 B.2.1 dX7_get_10 (by decide) ?_
      refine lv_goto (tgt := 17) B.1 B.2.1 dX7_get_11 (by decide) ?_
      exact e_i B hr hH hw dX7_get_17
theorem cy_X0_heardBehind {s : State} {args : Array Value} (hG : GG s) : CYV s args yX0_heardBehind cX0_heardBehind 2 (some .int) 1 := CYV.of hG (fun _ _ hG => tw_585 hG) (tw_4 hG) (tw_584 hG) (tp_36 hG) (by decide +kernel)
set_option maxRecDepth 100000 in
set_option maxHeartbeats 4000000 in
theorem ct_X0_heardBehind {Z : ZT} (hZ : ZO Z) (l : Launch) (a0 : Nat) (a1 : Int32) (h : PH) (sz : Nat) (Q : Int32 → PH → Prop) (k0 : kd a0 = 4) (hw : wp_X0_heardBehind a0 a1 h Q) : MI Z l yX0_heardBehind cX0_heardBehind 2 (some .int) ({ frames := 1, cells := 0, slots := 0, locals := 22 } : Room) h sz [.ref (zA Z a0), .int a1] Q := by
  refine open_M hZ (by decide +kernel) (by exact Nat.le_of_ble_eq_true rfl) ?_
  intro p e s m below meth c B hr hsz ls hl hH
  subst hsz
  have hl : lv_has ls 2 [(0, .ref (zA Z a0)), (1, .int a1)] := hl
  unfold wp_X0_heardBehind at hw
  refine lv_aload_n B.1 B.2.1 dX0_heardBehind_0 rfl (lv_at hl 0 rfl) ?_
  refine r_get B hH (own := RX0) (kd_n B (k0) (by decide) (by decide)) (ct_4 (k0)) rfl (ul_4 B.2.2.2.2.1) 7 (by decide) rfl (tw_79 B.2.2.2.2.1) dX0_heardBehind_1 ?_
  refine lv_if_eq (tgt := 11) B.1 B.2.1 dX0_heardBehind_4 (by decide) (fun c1 => ?_) (fun c1 => ?_)
  · replace hw := hw.1 c1
    refine lv_aload_n B.1 B.2.1 dX0_heardBehind_11 rfl (lv_at hl 0 rfl) ?_
    refine r_get B hH (own := RX0) (kd_n B (k0) (by decide) (by decide)) (ct_4 (k0)) rfl (ul_4 B.2.2.2.2.1) 0 (by decide) rfl (tw_63 B.2.2.2.2.1) dX0_heardBehind_12 ?_
    refine lv_aload_n B.1 B.2.1 dX0_heardBehind_15 rfl (lv_at hl 0 rfl) ?_
    refine lv_aload_n B.1 B.2.1 dX0_heardBehind_16 rfl (lv_at hl 0 rfl) ?_
    refine lv_iload_n B.1 B.2.1 dX0_heardBehind_17 rfl (lv_at hl 1 rfl) ?_
    refine c_V_I (own := RX0) (As := [.int a1]) (rest := [.ref (zA Z a0), .ref (zA Z (a0 + 1))]) B hH (cy_X0_phaseBehind B.2.2.2.2.1) (ct_X0_phaseBehind B.2.2.2.2.2.2.2 l a0 a1 h _ _ (k0) hw) ⟨⟨rfl, rfl⟩, Nat.le_of_ble_eq_true rfl, Nat.le_of_ble_eq_true rfl, Nat.zero_le _, Nat.zero_le _⟩ (rv_4 B hH (k0)) (tw_343 B.2.2.2.2.1) rfl hl.1 rfl (Nat.le_of_ble_eq_true rfl) dX0_heardBehind_18 ?_
    clear hw hH
    intro r3 h2 H locs hw hH
    refine c_V_I (own := RX0) (As := [.int r3]) (rest := [.ref (zA Z (a0 + 1))]) B hH (cy_X0_headIn B.2.2.2.2.1) (ct_X0_headIn B.2.2.2.2.2.2.2 l a0 r3 h2 _ _ (k0) hw) ⟨⟨rfl, rfl⟩, Nat.le_of_ble_eq_true rfl, Nat.le_of_ble_eq_true rfl, Nat.zero_le _, Nat.zero_le _⟩ (rv_4 B hH (k0)) (tw_570 B.2.2.2.2.1) rfl hl.1 rfl (Nat.le_of_ble_eq_true rfl) dX0_heardBehind_21 ?_
    clear hw hH
    intro r5 h4 H locs hw hH
    refine c_SN_I (own := RX0) (As := [.ref (zA Z (a0 + 1)), .int r5]) (rest := []) B hH (cy_X7_get B.2.2.2.2.1) (ct_X7_get B.2.2.2.2.2.2.2 l (a0 + 1) r5 h4 _ _ (kf_4_0 (k0)) hw) ⟨⟨rfl, rfl⟩, Nat.le_of_ble_eq_true rfl, Nat.le_of_ble_eq_true rfl, Nat.zero_le _, Nat.zero_le _⟩ (tw_554 B.2.2.2.2.1) rfl hl.1 rfl (Nat.le_of_ble_eq_true rfl) dX0_heardBehind_24 ?_
    clear hw hH
    intro r7 h6 H locs hw hH
    exact e_i B hr hH hw dX0_heardBehind_27
  · replace hw := hw.2 c1
    refine lv_iconst (v := 0) B.1 B.2.1 dX0_heardBehind_7 (by decide) ?_
    refine lv_goto (tgt := 27) B.1 B.2.1 dX0_heardBehind_8 (by decide) ?_
    exact e_i B hr hH hw dX0_heardBehind_27
theorem cy_X1_greatestDivisor {s : State} {args : Array Value} (hG : GG s) : CYS s args yX1_greatestDivisor cX1_greatestDivisor 11 (some .long) 2 := CYS.of hG (fun _ _ hG => tw_340 hG) (tw_20 hG) (tw_339 hG) (by decide +kernel)
set_option maxRecDepth 100000 in
set_option maxHeartbeats 4000000 in
theorem ct_X1_greatestDivisor {Z : ZT} (hZ : ZO Z) (l : Launch) (a0 : Int64) (a2 : Int64) (h : PH) (sz : Nat) (Q : Int64 → PH → Prop)  (hw : wp_X1_greatestDivisor a0 a2 h Q) : ML Z l yX1_greatestDivisor cX1_greatestDivisor 11 (some .long) ({ frames := 0, cells := 0, slots := 0, locals := 0 } : Room) h sz [.long a0, .long a2] Q := by
  refine open_M hZ (by decide +kernel) (by exact Nat.le_of_ble_eq_true rfl) ?_
  intro p e s m below meth c B hr hsz ls hl hH
  subst hsz
  have hl : lv_has ls 11 [(0, .long a0), (2, .long a2)] := hl
  unfold wp_X1_greatestDivisor at hw
  have L9 : ∀ (n : Nat) (b4 : Int64) (b6 : Int64) (b8 : Int32) (h : PH), ∀ (H : Heap) (locs : List Loc) (ls : Array Slot), wp_X1_greatestDivisor_b9 Q n b4 b6 b8 h → HH Z s h H locs → lv_has ls 11 [(4, .long b4), (6, .long b6), (8, .int b8)] → W p l e ({ frames := 0, cells := 0, slots := 0, locals := 0 } : Room) s m ([.long a0, .long a2]).toArray below meth c H locs 0 0 (MQ below (va_Ql Q (BZ Z) (fr Z s.heap.size)) ([.long a0, .long a2]).toArray s 0 0 (fr Z s.heap.size)) (F0 m 9 ls []) := by
    intro n
    induction n with
    | zero => intro b4 b6 b8 h H locs ls hw hH hl; exact absurd hw id
    | succ n ih =>
      intro b4 b6 b8 h H locs ls hw hH hl
      unfold wp_X1_greatestDivisor_b9 at hw
      refine lv_iload B.1 B.2.1 dX1_greatestDivisor_9 (lv_at hl 2 rfl) ?_
      refine lv_sipush (v := 200) B.1 B.2.1 dX1_greatestDivisor_11 (by decide) ?_
      refine lv_icmp_ge (tgt := 45) B.1 B.2.1 dX1_greatestDivisor_14 (by decide) (fun c1 => ?_) (fun c1 => ?_)
      · replace hw := hw.1 c1
        refine lv_lload B.1 B.2.1 dX1_greatestDivisor_45 (lv_at hl 0 rfl) ?_
        exact e_l B hr hH hw dX1_greatestDivisor_47
      · replace hw := hw.2 c1
        refine lv_lload B.1 B.2.1 dX1_greatestDivisor_17 (lv_at hl 1 rfl) ?_
        refine lv_lconst (v := 0) B.1 B.2.1 dX1_greatestDivisor_19 (by decide) ?_
        refine W.lcmp B.1 B.2.1 dX1_greatestDivisor_20 ?_
        refine lv_if_eq (tgt := 45) B.1 B.2.1 dX1_greatestDivisor_21 (by decide) (fun c2 => ?_) (fun c2 => ?_)
        · replace hw := hw.1 c2
          refine lv_lload B.1 B.2.1 dX1_greatestDivisor_45 (lv_at hl 0 rfl) ?_
          exact e_l B hr hH hw dX1_greatestDivisor_47
        · replace hw := hw.2 c2
          refine lv_lload B.1 B.2.1 dX1_greatestDivisor_24 (lv_at hl 0 rfl) ?_
          refine lv_lload B.1 B.2.1 dX1_greatestDivisor_26 (lv_at hl 1 rfl) ?_
          have q3 := hw.1
          replace hw := hw.2
          refine x_lrem B dX1_greatestDivisor_28 q3 ?_
          refine lv_topl (fun x4 ex4 => ?_)
          replace hw := hw x4 ex4
          refine lv_lstore (lv' := [(9, .long x4), (4, .long b4), (6, .long b6), (8, .int b8)]) B.1 B.2.1 dX1_greatestDivisor_29 hl (by decide) (by first | rfl | simp [va_re_cat, Value.category]) ?_
          clear hl
          intro ls hl
          refine lv_lload B.1 B.2.1 dX1_greatestDivisor_31 (lv_at hl 2 rfl) ?_
          refine lv_lstore (lv' := [(4, .long b6), (9, .long x4), (6, .long b6), (8, .int b8)]) B.1 B.2.1 dX1_greatestDivisor_33 hl (by decide) (by first | rfl | simp [va_re_cat, Value.category]) ?_
          clear hl
          intro ls hl
          refine lv_lload B.1 B.2.1 dX1_greatestDivisor_35 (lv_at hl 1 rfl) ?_
          refine lv_lstore (lv' := [(6, .long x4), (4, .long b6), (9, .long x4), (8, .int b8)]) B.1 B.2.1 dX1_greatestDivisor_37 hl (by decide) (by first | rfl | simp [va_re_cat, Value.category]) ?_
          clear hl
          intro ls hl
          obtain ⟨x5, ex5⟩ : ∃ y : Int32, y = b8 + 1 := ⟨_, rfl⟩
          replace hw := hw x5 ex5
          refine lv_iinc (v := x5) (lv' := [(8, .int x5), (6, .long x4), (4, .long b6), (9, .long x4)]) B.1 B.2.1 dX1_greatestDivisor_39 hl (k := 3) rfl (by rw [ex5]; rfl) (by decide) (by first | rfl | simp [va_re_cat, Value.category]) ?_
          clear hl
          intro ls hl
          refine lv_goto (tgt := 9) B.1 B.2.1 dX1_greatestDivisor_42 (by decide) ?_
          exact ih b6 x4 x5 h  _ _ _ hw hH (lv_sub hl [2, 1, 0] rfl)
  refine lv_lload_n B.1 B.2.1 dX1_greatestDivisor_0 rfl (lv_at hl 0 rfl) ?_
  refine lv_lstore (lv' := [(4, .long a0), (0, .long a0), (2, .long a2)]) B.1 B.2.1 dX1_greatestDivisor_1 hl (by decide) (by first | rfl | simp [va_re_cat, Value.category]) ?_
  clear hl
  intro ls hl
  refine lv_lload_n B.1 B.2.1 dX1_greatestDivisor_3 rfl (lv_at hl 2 rfl) ?_
  refine lv_lstore (lv' := [(6, .long a2), (4, .long a0), (0, .long a0), (2, .long a2)]) B.1 B.2.1 dX1_greatestDivisor_4 hl (by decide) (by first | rfl | simp [va_re_cat, Value.category]) ?_
  clear hl
  intro ls hl
  refine lv_iconst (v := 0) B.1 B.2.1 dX1_greatestDivisor_6 (by decide) ?_
  refine lv_istore (lv' := [(8, .int 0), (6, .long a2), (4, .long a0), (0, .long a0), (2, .long a2)]) B.1 B.2.1 dX1_greatestDivisor_7 hl (by decide) (by first | rfl | simp [va_re_cat, Value.category]) ?_
  clear hl
  intro ls hl
  obtain ⟨n6, hw⟩ := hw
  exact L9   n6 a0 a2 0 h  _ _ _ hw hH (lv_sub hl [2, 1, 0] rfl)
theorem cy_X0_period {s : State} {args : Array Value} (hG : GG s) : CYV s args yX0_period cX0_period 3 (some .int) 0 := CYV.of hG (fun _ _ hG => tw_337 hG) (tw_4 hG) (tw_336 hG) (tp_9 hG) (by decide +kernel)
set_option maxRecDepth 100000 in
set_option maxHeartbeats 4000000 in
theorem ct_X0_period {Z : ZT} (hZ : ZO Z) (l : Launch) (a0 : Nat) (h : PH) (sz : Nat) (Q : Int32 → PH → Prop) (k0 : kd a0 = 4) (hw : wp_X0_period a0 h Q) : MI Z l yX0_period cX0_period 3 (some .int) ({ frames := 1, cells := 0, slots := 0, locals := 30 } : Room) h sz [.ref (zA Z a0)] Q := by
  refine open_M hZ (by decide +kernel) (by exact Nat.le_of_ble_eq_true rfl) ?_
  intro p e s m below meth c B hr hsz ls hl hH
  subst hsz
  have hl : lv_has ls 3 [(0, .ref (zA Z a0))] := hl
  unfold wp_X0_period at hw
  refine lv_aload_n B.1 B.2.1 dX0_period_0 rfl (lv_at hl 0 rfl) ?_
  refine r_get B hH (own := RX0) (kd_n B (k0) (by decide) (by decide)) (ct_4 (k0)) rfl (ul_4 B.2.2.2.2.1) 2 (by decide) rfl (tw_66 B.2.2.2.2.1) dX0_period_1 ?_
  refine lv_aload_n B.1 B.2.1 dX0_period_4 rfl (lv_at hl 0 rfl) ?_
  refine r_get B hH (own := RX0) (kd_n B (k0) (by decide) (by decide)) (ct_4 (k0)) rfl (ul_4 B.2.2.2.2.1) 5 (by decide) rfl (tw_74 B.2.2.2.2.1) dX0_period_5 ?_
  refine lv_imul B.1 B.2.1 dX0_period_8 ?_
  refine lv_topi (fun x1 ex1 => ?_)
  replace hw := hw x1 ex1
  refine lv_istore_n (lv' := [(1, .int x1), (0, .ref (zA Z a0))]) B.1 B.2.1 dX0_period_9 rfl hl (by decide) (by first | rfl | simp [va_re_cat, Value.category]) ?_
  clear hl
  intro ls hl
  refine lv_iload_n B.1 B.2.1 dX0_period_10 rfl (lv_at hl 0 rfl) ?_
  refine lv_i2l B.1 B.2.1 dX0_period_11 rfl ?_
  refine lv_aload_n B.1 B.2.1 dX0_period_12 rfl (lv_at hl 1 rfl) ?_
  refine r_get B hH (own := RX0) (kd_n B (k0) (by decide) (by decide)) (ct_4 (k0)) rfl (ul_4 B.2.2.2.2.1) 4 (by decide) rfl (tw_72 B.2.2.2.2.1) dX0_period_13 ?_
  refine lv_i2l B.1 B.2.1 dX0_period_16 rfl ?_
  refine c_SN_L (own := RX0) (As := [.long (x1.toInt64), .long ((h a0 4).toInt64)]) (rest := []) B hH (cy_X1_greatestDivisor B.2.2.2.2.1) (ct_X1_greatestDivisor B.2.2.2.2.2.2.2 l (x1.toInt64) ((h a0 4).toInt64) h _ _  hw) ⟨⟨rfl, rfl⟩, Nat.le_of_ble_eq_true rfl, Nat.le_of_ble_eq_true rfl, Nat.zero_le _, Nat.zero_le _⟩ (tw_338 B.2.2.2.2.1) rfl hl.1 rfl (Nat.le_of_ble_eq_true rfl) dX0_period_17 ?_
  clear hw hH
  intro r3 h2 H locs hw hH
  refine lv_l2i B.1 B.2.1 dX0_period_20 rfl ?_
  refine lv_topi (fun x4 ex4 => ?_)
  replace hw := hw x4 ex4
  refine lv_istore_n (lv' := [(2, .int x4), (1, .int x1), (0, .ref (zA Z a0))]) B.1 B.2.1 dX0_period_21 rfl hl (by decide) (by first | rfl | simp [va_re_cat, Value.category]) ?_
  clear hl
  intro ls hl
  refine lv_aload_n B.1 B.2.1 dX0_period_22 rfl (lv_at hl 2 rfl) ?_
  refine c_V_I (own := RX0) (As := []) (rest := []) B hH (cy_X0_isEmpty B.2.2.2.2.1) (ct_X0_isEmpty B.2.2.2.2.2.2.2 l a0 h2 _ _ (k0) hw) ⟨⟨rfl, rfl⟩, Nat.le_of_ble_eq_true rfl, Nat.le_of_ble_eq_true rfl, Nat.zero_le _, Nat.zero_le _⟩ (rv_4 B hH (k0)) (tw_341 B.2.2.2.2.1) rfl hl.1 rfl (Nat.le_of_ble_eq_true rfl) dX0_period_23 ?_
  clear hw hH
  intro r6 h5 H locs hw hH
  refine lv_if_ne (tgt := 33) B.1 B.2.1 dX0_period_26 (by decide) (fun c7 => ?_) (fun c7 => ?_)
  · replace hw := hw.1 c7
    refine lv_iconst (v := (-1)) B.1 B.2.1 dX0_period_33 (by decide) ?_
    refine lv_goto (tgt := 40) B.1 B.2.1 dX0_period_34 (by decide) ?_
    exact e_i B hr hH hw dX0_period_40
  · replace hw := hw.2 c7
    refine lv_iload_n B.1 B.2.1 dX0_period_29 rfl (lv_at hl 0 rfl) ?_
    refine lv_if_gt (tgt := 37) B.1 B.2.1 dX0_period_30 (by decide) (fun c8 => ?_) (fun c8 => ?_)
    · replace hw := hw.1 c8
      refine lv_iload_n B.1 B.2.1 dX0_period_37 rfl (lv_at hl 1 rfl) ?_
      refine lv_iload_n B.1 B.2.1 dX0_period_38 rfl (lv_at hl 0 rfl) ?_
      have q9 := hw.1
      replace hw := hw.2
      refine lv_idiv B.1 B.2.1 dX0_period_39 q9 ?_
      exact e_i B hr hH hw dX0_period_40
    · replace hw := hw.2 c8
      refine lv_iconst (v := (-1)) B.1 B.2.1 dX0_period_33 (by decide) ?_
      refine lv_goto (tgt := 40) B.1 B.2.1 dX0_period_34 (by decide) ?_
      exact e_i B hr hH hw dX0_period_40
theorem cy_X0_zeroFrom {s : State} {args : Array Value} (hG : GG s) : CYV s args yX0_zeroFrom cX0_zeroFrom 9 (some .int) 2 := CYV.of hG (fun _ _ hG => tw_333 hG) (tw_4 hG) (tw_332 hG) (tp_8 hG) (by decide +kernel)
set_option maxRecDepth 100000 in
set_option maxHeartbeats 4000000 in
theorem ct_X0_zeroFrom {Z : ZT} (hZ : ZO Z) (l : Launch) (a0 : Nat) (a1 : Int64) (a3 : Int64) (h : PH) (sz : Nat) (Q : Int32 → PH → Prop) (k0 : kd a0 = 4) (hw : wp_X0_zeroFrom a0 a1 a3 h Q) : MI Z l yX0_zeroFrom cX0_zeroFrom 9 (some .int) ({ frames := 2, cells := 0, slots := 0, locals := 52 } : Room) h sz [.ref (zA Z a0), .long a1, .long a3] Q := by
  refine open_M hZ (by decide +kernel) (by exact Nat.le_of_ble_eq_true rfl) ?_
  intro p e s m below meth c B hr hsz ls hl hH
  subst hsz
  have hl : lv_has ls 9 [(0, .ref (zA Z a0)), (1, .long a1), (3, .long a3)] := hl
  unfold wp_X0_zeroFrom at hw
  have L12 : ∀ (b0 : Nat) (b3 : Int64) (b5 : Int32), kd b0 = 4 → ∀ (n : Nat) (b6 : Int64) (b8 : Int32) (h : PH), ∀ (H : Heap) (locs : List Loc) (ls : Array Slot), wp_X0_zeroFrom_b12 b0 b3 b5 Q n b6 b8 h → HH Z s h H locs → lv_has ls 9 [(0, .ref (zA Z b0)), (3, .long b3), (5, .int b5), (6, .long b6), (8, .int b8)] → W p l e ({ frames := 2, cells := 0, slots := 0, locals := 52 } : Room) s m ([.ref (zA Z a0), .long a1, .long a3]).toArray below meth c H locs 0 0 (MQ below (va_Qi Q (BZ Z) (fr Z s.heap.size)) ([.ref (zA Z a0), .long a1, .long a3]).toArray s 0 0 (fr Z s.heap.size)) (F0 m 12 ls []) := by
    intro b0 b3 b5 kb0 n
    induction n with
    | zero => intro b6 b8 h H locs ls hw hH hl; exact absurd hw id
    | succ n ih =>
      intro b6 b8 h H locs ls hw hH hl
      unfold wp_X0_zeroFrom_b12 at hw
      refine lv_iload B.1 B.2.1 dX0_zeroFrom_12 (lv_at hl 4 rfl) ?_
      refine lv_iload B.1 B.2.1 dX0_zeroFrom_14 (lv_at hl 2 rfl) ?_
      refine lv_icmp_ge (tgt := 54) B.1 B.2.1 dX0_zeroFrom_16 (by decide) (fun c3 => ?_) (fun c3 => ?_)
      · replace hw := hw.1 c3
        refine lv_iconst (v := (-1)) B.1 B.2.1 dX0_zeroFrom_54 (by decide) ?_
        exact e_i B hr hH hw dX0_zeroFrom_55
      · replace hw := hw.2 c3
        refine lv_lload B.1 B.2.1 dX0_zeroFrom_19 (lv_at hl 3 rfl) ?_
        refine lv_ldc2 (own := RX0) B.1 B.2.1 B.2.2.2.1 (tw_342 B.2.2.2.2.1) dX0_zeroFrom_21 ?_
        refine W.lcmp B.1 B.2.1 dX0_zeroFrom_24 ?_
        refine lv_if_gt (tgt := 54) B.1 B.2.1 dX0_zeroFrom_25 (by decide) (fun c4 => ?_) (fun c4 => ?_)
        · replace hw := hw.1 c4
          refine lv_iconst (v := (-1)) B.1 B.2.1 dX0_zeroFrom_54 (by decide) ?_
          exact e_i B hr hH hw dX0_zeroFrom_55
        · replace hw := hw.2 c4
          refine lv_aload_n B.1 B.2.1 dX0_zeroFrom_28 rfl (lv_at hl 0 rfl) ?_
          refine lv_lload B.1 B.2.1 dX0_zeroFrom_29 (lv_at hl 3 rfl) ?_
          refine lv_l2i B.1 B.2.1 dX0_zeroFrom_31 rfl ?_
          refine c_V_I (own := RX0) (As := [.int (b6.toInt32)]) (rest := []) B hH (cy_X0_phaseBehind B.2.2.2.2.1) (ct_X0_phaseBehind B.2.2.2.2.2.2.2 l b0 (b6.toInt32) h _ _ (kb0) hw) ⟨⟨rfl, rfl⟩, Nat.le_of_ble_eq_true rfl, Nat.le_of_ble_eq_true rfl, Nat.zero_le _, Nat.zero_le _⟩ (rv_4 B hH (kb0)) (tw_343 B.2.2.2.2.1) rfl hl.1 rfl (Nat.le_of_ble_eq_true rfl) dX0_zeroFrom_32 ?_
          clear hw hH
          intro r6 h5 H locs hw hH
          refine lv_if_ne (tgt := 42) B.1 B.2.1 dX0_zeroFrom_35 (by decide) (fun c7 => ?_) (fun c7 => ?_)
          · replace hw := hw.1 c7
            refine lv_lload B.1 B.2.1 dX0_zeroFrom_42 (lv_at hl 3 rfl) ?_
            refine lv_lload_n B.1 B.2.1 dX0_zeroFrom_44 rfl (lv_at hl 1 rfl) ?_
            refine lv_ladd B.1 B.2.1 dX0_zeroFrom_45 ?_
            refine lv_topl (fun x8 ex8 => ?_)
            replace hw := hw x8 ex8
            refine lv_lstore (lv' := [(6, .long x8), (0, .ref (zA Z b0)), (3, .long b3), (5, .int b5), (8, .int b8)]) B.1 B.2.1 dX0_zeroFrom_46 hl (by decide) (by first | rfl | simp [va_re_cat, Value.category]) ?_
            clear hl
            intro ls hl
            obtain ⟨x9, ex9⟩ : ∃ y : Int32, y = b8 + 1 := ⟨_, rfl⟩
            replace hw := hw x9 ex9
            refine lv_iinc (v := x9) (lv' := [(8, .int x9), (6, .long x8), (0, .ref (zA Z b0)), (3, .long b3), (5, .int b5)]) B.1 B.2.1 dX0_zeroFrom_48 hl (k := 4) rfl (by rw [ex9]; rfl) (by decide) (by first | rfl | simp [va_re_cat, Value.category]) ?_
            clear hl
            intro ls hl
            refine lv_goto (tgt := 12) B.1 B.2.1 dX0_zeroFrom_51 (by decide) ?_
            exact ih x8 x9 h5  _ _ _ hw hH (lv_sub hl [2, 3, 4, 1, 0] rfl)
          · replace hw := hw.2 c7
            refine lv_lload B.1 B.2.1 dX0_zeroFrom_38 (lv_at hl 3 rfl) ?_
            refine lv_l2i B.1 B.2.1 dX0_zeroFrom_40 rfl ?_
            exact e_i B hr hH hw dX0_zeroFrom_41
  refine lv_aload_n B.1 B.2.1 dX0_zeroFrom_0 rfl (lv_at hl 0 rfl) ?_
  refine c_V_I (own := RX0) (As := []) (rest := []) B hH (cy_X0_period B.2.2.2.2.1) (ct_X0_period B.2.2.2.2.2.2.2 l a0 h _ _ (k0) hw) ⟨⟨rfl, rfl⟩, Nat.le_of_ble_eq_true rfl, Nat.le_of_ble_eq_true rfl, Nat.zero_le _, Nat.zero_le _⟩ (rv_4 B hH (k0)) (tw_334 B.2.2.2.2.1) rfl hl.1 rfl (Nat.le_of_ble_eq_true rfl) dX0_zeroFrom_1 ?_
  clear hw hH
  intro r2 h1 H locs hw hH
  refine lv_istore (lv' := [(5, .int r2), (0, .ref (zA Z a0)), (1, .long a1), (3, .long a3)]) B.1 B.2.1 dX0_zeroFrom_4 hl (by decide) (by first | rfl | simp [va_re_cat, Value.category]) ?_
  clear hl
  intro ls hl
  refine lv_lload_n B.1 B.2.1 dX0_zeroFrom_6 rfl (lv_at hl 2 rfl) ?_
  refine lv_lstore (lv' := [(6, .long a1), (5, .int r2), (0, .ref (zA Z a0)), (1, .long a1), (3, .long a3)]) B.1 B.2.1 dX0_zeroFrom_7 hl (by decide) (by first | rfl | simp [va_re_cat, Value.category]) ?_
  clear hl
  intro ls hl
  refine lv_iconst (v := 0) B.1 B.2.1 dX0_zeroFrom_9 (by decide) ?_
  refine lv_istore (lv' := [(8, .int 0), (6, .long a1), (5, .int r2), (0, .ref (zA Z a0)), (1, .long a1), (3, .long a3)]) B.1 B.2.1 dX0_zeroFrom_10 hl (by decide) (by first | rfl | simp [va_re_cat, Value.category]) ?_
  clear hl
  intro ls hl
  obtain ⟨n10, hw⟩ := hw
  exact L12 a0 a3 r2 (k0) n10 a1 0 h1  _ _ _ hw hH (lv_sub hl [3, 5, 2, 1, 0] rfl)
theorem cy_X0_isTurned {s : State} {args : Array Value} (hG : GG s) : CYV s args yX0_isTurned cX0_isTurned 5 (some .boolean) 2 := CYV.of hG (fun _ _ hG => tw_894 hG) (tw_4 hG) (tw_893 hG) (tp_58 hG) (by decide +kernel)
set_option maxRecDepth 100000 in
set_option maxHeartbeats 4000000 in
theorem ct_X0_isTurned {Z : ZT} (hZ : ZO Z) (l : Launch) (a0 : Nat) (a1 : Nat) (a2 : Int32) (h : PH) (sz : Nat) (Q : Int32 → PH → Prop) (k0 : kd a0 = 4) (k1 : kd a1 = 4) (hw : wp_X0_isTurned a0 a1 a2 h Q) : MI Z l yX0_isTurned cX0_isTurned 5 (some .boolean) ({ frames := 1, cells := 0, slots := 0, locals := 21 } : Room) h sz [.ref (zA Z a0), .ref (zA Z a1), .int a2] Q := by
  refine open_M hZ (by decide +kernel) (by exact Nat.le_of_ble_eq_true rfl) ?_
  intro p e s m below meth c B hr hsz ls hl hH
  subst hsz
  have hl : lv_has ls 5 [(0, .ref (zA Z a0)), (1, .ref (zA Z a1)), (2, .int a2)] := hl
  unfold wp_X0_isTurned at hw
  have L2 : ∀ (b0 : Nat) (b1 : Nat) (b2 : Int32), kd b0 = 4 → kd b1 = 4 → ∀ (n : Nat) (b3 : Int32) (h : PH), ∀ (H : Heap) (locs : List Loc) (ls : Array Slot), wp_X0_isTurned_b2 b0 b1 b2 Q n b3 h → HH Z s h H locs → lv_has ls 5 [(0, .ref (zA Z b0)), (1, .ref (zA Z b1)), (2, .int b2), (3, .int b3)] → W p l e ({ frames := 1, cells := 0, slots := 0, locals := 21 } : Room) s m ([.ref (zA Z a0), .ref (zA Z a1), .int a2]).toArray below meth c H locs 0 0 (MQ below (va_Qi Q (BZ Z) (fr Z s.heap.size)) ([.ref (zA Z a0), .ref (zA Z a1), .int a2]).toArray s 0 0 (fr Z s.heap.size)) (F0 m 2 ls []) := by
    intro b0 b1 b2 kb0 kb1 n
    induction n with
    | zero => intro b3 h H locs ls hw hH hl; exact absurd hw id
    | succ n ih =>
      intro b3 h H locs ls hw hH hl
      unfold wp_X0_isTurned_b2 at hw
      refine lv_iload_n B.1 B.2.1 dX0_isTurned_2 rfl (lv_at hl 3 rfl) ?_
      refine lv_aload_n B.1 B.2.1 dX0_isTurned_3 rfl (lv_at hl 0 rfl) ?_
      refine r_get B hH (own := RX0) (kd_n B (kb0) (by decide) (by decide)) (ct_4 (kb0)) rfl (ul_4 B.2.2.2.2.1) 2 (by decide) rfl (tw_66 B.2.2.2.2.1) dX0_isTurned_4 ?_
      refine lv_icmp_ge (tgt := 64) B.1 B.2.1 dX0_isTurned_7 (by decide) (fun c1 => ?_) (fun c1 => ?_)
      · replace hw := hw.1 c1
        refine lv_iconst (v := 1) B.1 B.2.1 dX0_isTurned_64 (by decide) ?_
        exact e_z B hr (by decide) hH hw dX0_isTurned_65
      · replace hw := hw.2 c1
        refine lv_iload_n B.1 B.2.1 dX0_isTurned_10 rfl (lv_at hl 3 rfl) ?_
        refine lv_iload_n B.1 B.2.1 dX0_isTurned_11 rfl (lv_at hl 2 rfl) ?_
        refine lv_iadd B.1 B.2.1 dX0_isTurned_12 ?_
        refine lv_aload_n B.1 B.2.1 dX0_isTurned_13 rfl (lv_at hl 0 rfl) ?_
        refine r_get B hH (own := RX0) (kd_n B (kb0) (by decide) (by decide)) (ct_4 (kb0)) rfl (ul_4 B.2.2.2.2.1) 2 (by decide) rfl (tw_66 B.2.2.2.2.1) dX0_isTurned_14 ?_
        refine lv_icmp_ge (tgt := 26) B.1 B.2.1 dX0_isTurned_17 (by decide) (fun c2 => ?_) (fun c2 => ?_)
        · replace hw := hw.1 c2
          refine lv_iload_n B.1 B.2.1 dX0_isTurned_26 rfl (lv_at hl 3 rfl) ?_
          refine lv_iload_n B.1 B.2.1 dX0_isTurned_27 rfl (lv_at hl 2 rfl) ?_
          refine lv_iadd B.1 B.2.1 dX0_isTurned_28 ?_
          refine lv_aload_n B.1 B.2.1 dX0_isTurned_29 rfl (lv_at hl 0 rfl) ?_
          refine r_get B hH (own := RX0) (kd_n B (kb0) (by decide) (by decide)) (ct_4 (kb0)) rfl (ul_4 B.2.2.2.2.1) 2 (by decide) rfl (tw_66 B.2.2.2.2.1) dX0_isTurned_30 ?_
          refine lv_isub B.1 B.2.1 dX0_isTurned_33 ?_
          refine lv_topi (fun x3 ex3 => ?_)
          replace hw := hw x3 ex3
          refine lv_istore (lv' := [(4, .int x3), (0, .ref (zA Z b0)), (1, .ref (zA Z b1)), (2, .int b2), (3, .int b3)]) B.1 B.2.1 dX0_isTurned_34 hl (by decide) (by first | rfl | simp [va_re_cat, Value.category]) ?_
          clear hl
          intro ls hl
          refine lv_aload_n B.1 B.2.1 dX0_isTurned_36 rfl (lv_at hl 1 rfl) ?_
          refine r_get B hH (own := RX0) (kd_n B (kb0) (by decide) (by decide)) (ct_4 (kb0)) rfl (ul_4 B.2.2.2.2.1) 0 (by decide) rfl (tw_63 B.2.2.2.2.1) dX0_isTurned_37 ?_
          refine lv_iload_n B.1 B.2.1 dX0_isTurned_40 rfl (lv_at hl 4 rfl) ?_
          refine c_SN_I (own := RX0) (As := [.ref (zA Z (b0 + 1)), .int b3]) (rest := []) B hH (cy_X7_get B.2.2.2.2.1) (ct_X7_get B.2.2.2.2.2.2.2 l (b0 + 1) b3 h _ _ (kf_4_0 (kb0)) hw) ⟨⟨rfl, rfl⟩, Nat.le_of_ble_eq_true rfl, Nat.le_of_ble_eq_true rfl, Nat.zero_le _, Nat.zero_le _⟩ (tw_554 B.2.2.2.2.1) rfl hl.1 rfl (Nat.le_of_ble_eq_true rfl) dX0_isTurned_41 ?_
          clear hw hH
          intro r5 h4 H locs hw hH
          refine lv_aload_n B.1 B.2.1 dX0_isTurned_44 rfl (lv_at hl 2 rfl) ?_
          refine r_get B hH (own := RX0) (kd_n B (kb1) (by decide) (by decide)) (ct_4 (kb1)) rfl (ul_4 B.2.2.2.2.1) 0 (by decide) rfl (tw_63 B.2.2.2.2.1) dX0_isTurned_45 ?_
          refine lv_iload B.1 B.2.1 dX0_isTurned_48 (lv_at hl 0 rfl) ?_
          refine c_SN_I (own := RX0) (As := [.ref (zA Z (b1 + 1)), .int x3]) (rest := [.int r5]) B hH (cy_X7_get B.2.2.2.2.1) (ct_X7_get B.2.2.2.2.2.2.2 l (b1 + 1) x3 h4 _ _ (kf_4_0 (kb1)) hw) ⟨⟨rfl, rfl⟩, Nat.le_of_ble_eq_true rfl, Nat.le_of_ble_eq_true rfl, Nat.zero_le _, Nat.zero_le _⟩ (tw_554 B.2.2.2.2.1) rfl hl.1 rfl (Nat.le_of_ble_eq_true rfl) dX0_isTurned_50 ?_
          clear hw hH
          intro r7 h6 H locs hw hH
          refine lv_icmp_eq (tgt := 58) B.1 B.2.1 dX0_isTurned_53 (by decide) (fun c8 => ?_) (fun c8 => ?_)
          · replace hw := hw.1 c8
            obtain ⟨x9, ex9⟩ : ∃ y : Int32, y = b3 + 1 := ⟨_, rfl⟩
            replace hw := hw x9 ex9
            refine lv_iinc (v := x9) (lv' := [(3, .int x9), (4, .int x3), (0, .ref (zA Z b0)), (1, .ref (zA Z b1)), (2, .int b2)]) B.1 B.2.1 dX0_isTurned_58 hl (k := 4) rfl (by rw [ex9]; rfl) (by decide) (by first | rfl | simp [va_re_cat, Value.category]) ?_
            clear hl
            intro ls hl
            refine lv_goto (tgt := 2) B.1 B.2.1 dX0_isTurned_61 (by decide) ?_
            exact ih x9 h6  _ _ _ hw hH (lv_sub hl [2, 3, 4, 0] rfl)
          · replace hw := hw.2 c8
            refine lv_iconst (v := 0) B.1 B.2.1 dX0_isTurned_56 (by decide) ?_
            exact e_z B hr (by decide) hH hw dX0_isTurned_57
        · replace hw := hw.2 c2
          refine lv_iload_n B.1 B.2.1 dX0_isTurned_20 rfl (lv_at hl 3 rfl) ?_
          refine lv_iload_n B.1 B.2.1 dX0_isTurned_21 rfl (lv_at hl 2 rfl) ?_
          refine lv_iadd B.1 B.2.1 dX0_isTurned_22 ?_
          refine lv_goto (tgt := 34) B.1 B.2.1 dX0_isTurned_23 (by decide) ?_
          refine lv_topi (fun x10 ex10 => ?_)
          replace hw := hw x10 ex10
          refine lv_istore (lv' := [(4, .int x10), (0, .ref (zA Z b0)), (1, .ref (zA Z b1)), (2, .int b2), (3, .int b3)]) B.1 B.2.1 dX0_isTurned_34 hl (by decide) (by first | rfl | simp [va_re_cat, Value.category]) ?_
          clear hl
          intro ls hl
          refine lv_aload_n B.1 B.2.1 dX0_isTurned_36 rfl (lv_at hl 1 rfl) ?_
          refine r_get B hH (own := RX0) (kd_n B (kb0) (by decide) (by decide)) (ct_4 (kb0)) rfl (ul_4 B.2.2.2.2.1) 0 (by decide) rfl (tw_63 B.2.2.2.2.1) dX0_isTurned_37 ?_
          refine lv_iload_n B.1 B.2.1 dX0_isTurned_40 rfl (lv_at hl 4 rfl) ?_
          refine c_SN_I (own := RX0) (As := [.ref (zA Z (b0 + 1)), .int b3]) (rest := []) B hH (cy_X7_get B.2.2.2.2.1) (ct_X7_get B.2.2.2.2.2.2.2 l (b0 + 1) b3 h _ _ (kf_4_0 (kb0)) hw) ⟨⟨rfl, rfl⟩, Nat.le_of_ble_eq_true rfl, Nat.le_of_ble_eq_true rfl, Nat.zero_le _, Nat.zero_le _⟩ (tw_554 B.2.2.2.2.1) rfl hl.1 rfl (Nat.le_of_ble_eq_true rfl) dX0_isTurned_41 ?_
          clear hw hH
          intro r12 h11 H locs hw hH
          refine lv_aload_n B.1 B.2.1 dX0_isTurned_44 rfl (lv_at hl 2 rfl) ?_
          refine r_get B hH (own := RX0) (kd_n B (kb1) (by decide) (by decide)) (ct_4 (kb1)) rfl (ul_4 B.2.2.2.2.1) 0 (by decide) rfl (tw_63 B.2.2.2.2.1) dX0_isTurned_45 ?_
          refine lv_iload B.1 B.2.1 dX0_isTurned_48 (lv_at hl 0 rfl) ?_
          refine c_SN_I (own := RX0) (As := [.ref (zA Z (b1 + 1)), .int x10]) (rest := [.int r12]) B hH (cy_X7_get B.2.2.2.2.1) (ct_X7_get B.2.2.2.2.2.2.2 l (b1 + 1) x10 h11 _ _ (kf_4_0 (kb1)) hw) ⟨⟨rfl, rfl⟩, Nat.le_of_ble_eq_true rfl, Nat.le_of_ble_eq_true rfl, Nat.zero_le _, Nat.zero_le _⟩ (tw_554 B.2.2.2.2.1) rfl hl.1 rfl (Nat.le_of_ble_eq_true rfl) dX0_isTurned_50 ?_
          clear hw hH
          intro r14 h13 H locs hw hH
          refine lv_icmp_eq (tgt := 58) B.1 B.2.1 dX0_isTurned_53 (by decide) (fun c15 => ?_) (fun c15 => ?_)
          · replace hw := hw.1 c15
            obtain ⟨x16, ex16⟩ : ∃ y : Int32, y = b3 + 1 := ⟨_, rfl⟩
            replace hw := hw x16 ex16
            refine lv_iinc (v := x16) (lv' := [(3, .int x16), (4, .int x10), (0, .ref (zA Z b0)), (1, .ref (zA Z b1)), (2, .int b2)]) B.1 B.2.1 dX0_isTurned_58 hl (k := 4) rfl (by rw [ex16]; rfl) (by decide) (by first | rfl | simp [va_re_cat, Value.category]) ?_
            clear hl
            intro ls hl
            refine lv_goto (tgt := 2) B.1 B.2.1 dX0_isTurned_61 (by decide) ?_
            exact ih x16 h13  _ _ _ hw hH (lv_sub hl [2, 3, 4, 0] rfl)
          · replace hw := hw.2 c15
            refine lv_iconst (v := 0) B.1 B.2.1 dX0_isTurned_56 (by decide) ?_
            exact e_z B hr (by decide) hH hw dX0_isTurned_57
  refine lv_iconst (v := 0) B.1 B.2.1 dX0_isTurned_0 (by decide) ?_
  refine lv_istore_n (lv' := [(3, .int 0), (0, .ref (zA Z a0)), (1, .ref (zA Z a1)), (2, .int a2)]) B.1 B.2.1 dX0_isTurned_1 rfl hl (by decide) (by first | rfl | simp [va_re_cat, Value.category]) ?_
  clear hl
  intro ls hl
  obtain ⟨n17, hw⟩ := hw
  exact L2 a0 a1 a2 (k0) (k1) n17 0 h  _ _ _ hw hH (lv_sub hl [1, 2, 3, 0] rfl)
theorem cy_X7_put {s : State} {args : Array Value} (hG : GG s) : CYS s args yX7_put cX7_put 3 none 3 := CYS.of hG (fun _ _ hG => tw_309 hG) (tw_1 hG) (tw_308 hG) (by decide +kernel)
set_option maxRecDepth 100000 in
set_option maxHeartbeats 4000000 in
theorem ct_X7_put {Z : ZT} (hZ : ZO Z) (l : Launch) (a0 : Nat) (a1 : Int32) (a2 : Int32) (h : PH) (sz : Nat) (Q : PH → Prop) (k0 : kd a0 = 10) (hw : wp_X7_put a0 a1 a2 h Q) : MV Z l yX7_put cX7_put 3 none ({ frames := 0, cells := 0, slots := 0, locals := 0 } : Room) h sz [.ref (zA Z a0), .int a1, .int a2] Q := by
  refine open_M hZ (by decide +kernel) (by exact Nat.le_of_ble_eq_true rfl) ?_
  intro p e s m below meth c B hr hsz ls hl hH
  subst hsz
  have hl : lv_has ls 3 [(0, .ref (zA Z a0)), (1, .int a1), (2, .int a2)] := hl
  unfold wp_X7_put at hw
  refine lv_iload_n B.1 B.2.1 dX7_put_0 rfl (lv_at hl 1 rfl) ?_
  refine lv_if_lt (tgt := 14) B.1 B.2.1 dX7_put_1 (by decide) (fun c1 => ?_) (fun c1 => ?_)
  · replace hw := hw.1 c1
    exact e_v B hr hH hw dX7_put_14
  · replace hw := hw.2 c1
    refine lv_iload_n B.1 B.2.1 dX7_put_4 rfl (lv_at hl 1 rfl) ?_
    refine lv_aload_n B.1 B.2.1 dX7_put_5 rfl (lv_at hl 0 rfl) ?_
    refine r_alen B hH (k0) dX7_put_6 ?_
    refine lv_icmp_ge (tgt := 14) B.1 B.2.1 dX7_put_7 (by decide) (fun c2 => ?_) (fun c2 => ?_)
    · replace hw := hw.1 c2
      exact e_v B hr hH hw dX7_put_14
    · replace hw := hw.2 c2
      refine lv_aload_n B.1 B.2.1 dX7_put_10 rfl (lv_at hl 0 rfl) ?_
      refine lv_iload_n B.1 B.2.1 dX7_put_11 rfl (lv_at hl 1 rfl) ?_
      refine lv_iload_n B.1 B.2.1 dX7_put_12 rfl (lv_at hl 2 rfl) ?_
      have q3 := hw.1
      replace hw := hw.2
      refine r_iast B hH (k0) q3 dX7_put_13 ?_
      clear hH
      intro H locs hH
      obtain ⟨h4, eh4⟩ : ∃ z : PH, z = up2 h a0 a1.toNatClampNeg a2 := ⟨_, rfl⟩
      rw [← eh4] at hH
      replace hw := hw h4 eh4
      exact e_v B hr hH hw dX7_put_14
theorem cy_X0_join {s : State} {args : Array Value} (hG : GG s) : CYV s args yX0_join cX0_join 5 none 3 := CYV.of hG (fun _ _ hG => tw_553 hG) (tw_4 hG) (tw_552 hG) (tp_30 hG) (by decide +kernel)
set_option maxRecDepth 100000 in
set_option maxHeartbeats 4000000 in
theorem ct_X0_join {Z : ZT} (hZ : ZO Z) (l : Launch) (a0 : Nat) (a1 : Nat) (a2 : Int32) (a3 : Int32) (h : PH) (sz : Nat) (Q : PH → Prop) (k0 : kd a0 = 4) (k1 : kd a1 = 3) (hw : wp_X0_join a0 a1 a2 a3 h Q) : MV Z l yX0_join cX0_join 5 none ({ frames := 1, cells := 0, slots := 0, locals := 22 } : Room) h sz [.ref (zA Z a0), .ref (zA Z a1), .int a2, .int a3] Q := by
  refine open_M hZ (by decide +kernel) (by exact Nat.le_of_ble_eq_true rfl) ?_
  intro p e s m below meth c B hr hsz ls hl hH
  subst hsz
  have hl : lv_has ls 5 [(0, .ref (zA Z a0)), (1, .ref (zA Z a1)), (2, .int a2), (3, .int a3)] := hl
  unfold wp_X0_join at hw
  have L3 : ∀ (b0 : Nat) (b1 : Nat) (b2 : Int32) (b3 : Int32), kd b0 = 4 → kd b1 = 3 → ∀ (n : Nat) (b4 : Int32) (h : PH), ∀ (H : Heap) (locs : List Loc) (ls : Array Slot), wp_X0_join_b3 b0 b1 b2 b3 Q n b4 h → HH Z s h H locs → lv_has ls 5 [(0, .ref (zA Z b0)), (1, .ref (zA Z b1)), (2, .int b2), (3, .int b3), (4, .int b4)] → W p l e ({ frames := 1, cells := 0, slots := 0, locals := 22 } : Room) s m ([.ref (zA Z a0), .ref (zA Z a1), .int a2, .int a3]).toArray below meth c H locs 0 0 (MQ below (va_Qv Q (BZ Z) (fr Z s.heap.size)) ([.ref (zA Z a0), .ref (zA Z a1), .int a2, .int a3]).toArray s 0 0 (fr Z s.heap.size)) (F0 m 3 ls []) := by
    intro b0 b1 b2 b3 kb0 kb1 n
    induction n with
    | zero => intro b4 h H locs ls hw hH hl; exact absurd hw id
    | succ n ih =>
      intro b4 h H locs ls hw hH hl
      unfold wp_X0_join_b3 at hw
      refine lv_iload B.1 B.2.1 dX0_join_3 (lv_at hl 4 rfl) ?_
      refine lv_iload_n B.1 B.2.1 dX0_join_5 rfl (lv_at hl 3 rfl) ?_
      refine lv_icmp_ge (tgt := 40) B.1 B.2.1 dX0_join_6 (by decide) (fun c1 => ?_) (fun c1 => ?_)
      · replace hw := hw.1 c1
        refine lv_aload_n B.1 B.2.1 dX0_join_40 rfl (lv_at hl 0 rfl) ?_
        refine r_get B hH (own := RX0) (kd_n B (kb0) (by decide) (by decide)) (ct_4 (kb0)) rfl (ul_4 B.2.2.2.2.1) 1 (by decide) rfl (tw_65 B.2.2.2.2.1) dX0_join_41 ?_
        refine lv_aload_n B.1 B.2.1 dX0_join_44 rfl (lv_at hl 0 rfl) ?_
        refine r_get B hH (own := RX0) (kd_n B (kb0) (by decide) (by decide)) (ct_4 (kb0)) rfl (ul_4 B.2.2.2.2.1) 3 (by decide) rfl (tw_69 B.2.2.2.2.1) dX0_join_45 ?_
        refine lv_iload_n B.1 B.2.1 dX0_join_48 rfl (lv_at hl 3 rfl) ?_
        refine lv_iload_n B.1 B.2.1 dX0_join_49 rfl (lv_at hl 2 rfl) ?_
        refine lv_isub B.1 B.2.1 dX0_join_50 ?_
        refine c_SN_V (own := RX0) (As := [.ref (zA Z (b0 + 2)), .int (h b0 3), .int (b3 - b2)]) (rest := []) B hH (cy_X7_put B.2.2.2.2.1) (ct_X7_put B.2.2.2.2.2.2.2 l (b0 + 2) (h b0 3) (b3 - b2) h _ _ (kf_4_1 (kb0)) hw) ⟨⟨rfl, rfl⟩, Nat.le_of_ble_eq_true rfl, Nat.le_of_ble_eq_true rfl, Nat.zero_le _, Nat.zero_le _⟩ (tw_555 B.2.2.2.2.1) rfl hl.1 rfl (Nat.le_of_ble_eq_true rfl) dX0_join_51 ?_
        clear hw hH
        intro h2 H locs hw hH
        refine lv_aload_n B.1 B.2.1 dX0_join_54 rfl (lv_at hl 0 rfl) ?_
        refine lv_dup B.1 B.2.1 dX0_join_55 rfl ?_
        refine r_get B hH (own := RX0) (kd_n B (kb0) (by decide) (by decide)) (ct_4 (kb0)) rfl (ul_4 B.2.2.2.2.1) 2 (by decide) rfl (tw_66 B.2.2.2.2.1) dX0_join_56 ?_
        refine lv_iload_n B.1 B.2.1 dX0_join_59 rfl (lv_at hl 3 rfl) ?_
        refine lv_iload_n B.1 B.2.1 dX0_join_60 rfl (lv_at hl 2 rfl) ?_
        refine lv_isub B.1 B.2.1 dX0_join_61 ?_
        refine lv_iadd B.1 B.2.1 dX0_join_62 ?_
        refine r_put B hH (own := RX0) (kd_n B (kb0) (by decide) (by decide)) (ct_4 (kb0)) rfl (ul_4 B.2.2.2.2.1) tyX0 tyX0_ok nmX0 2 (by decide) (ty := .int) rfl rfl rfl rfl (Nat.le_of_ble_eq_true rfl) (cs_4_2 (kb0)) (tw_66 B.2.2.2.2.1) dX0_join_63 ?_
        clear hH
        intro H locs hH
        obtain ⟨h3, eh3⟩ : ∃ z : PH, z = up2 h2 b0 2 ((h2 b0 2) + (b3 - b2)) := ⟨_, rfl⟩
        rw [← eh3] at hH
        replace hw := hw h3 eh3
        refine lv_aload_n B.1 B.2.1 dX0_join_66 rfl (lv_at hl 0 rfl) ?_
        refine lv_dup B.1 B.2.1 dX0_join_67 rfl ?_
        refine r_get B hH (own := RX0) (kd_n B (kb0) (by decide) (by decide)) (ct_4 (kb0)) rfl (ul_4 B.2.2.2.2.1) 3 (by decide) rfl (tw_69 B.2.2.2.2.1) dX0_join_68 ?_
        refine lv_iconst (v := 1) B.1 B.2.1 dX0_join_71 (by decide) ?_
        refine lv_iadd B.1 B.2.1 dX0_join_72 ?_
        refine r_put B hH (own := RX0) (kd_n B (kb0) (by decide) (by decide)) (ct_4 (kb0)) rfl (ul_4 B.2.2.2.2.1) tyX0 tyX0_ok nmX0 3 (by decide) (ty := .int) rfl rfl rfl rfl (Nat.le_of_ble_eq_true rfl) (cs_4_3 (kb0)) (tw_69 B.2.2.2.2.1) dX0_join_73 ?_
        clear hH
        intro H locs hH
        obtain ⟨h4, eh4⟩ : ∃ z : PH, z = up2 h3 b0 3 ((h3 b0 3) + 1) := ⟨_, rfl⟩
        rw [← eh4] at hH
        replace hw := hw h4 eh4
        refine lv_aload_n B.1 B.2.1 dX0_join_76 rfl (lv_at hl 0 rfl) ?_
        refine lv_iconst (v := 0) B.1 B.2.1 dX0_join_77 (by decide) ?_
        refine r_put B hH (own := RX0) (kd_n B (kb0) (by decide) (by decide)) (ct_4 (kb0)) rfl (ul_4 B.2.2.2.2.1) tyX0 tyX0_ok nmX0 6 (by decide) (ty := .int) rfl rfl rfl rfl (Nat.le_of_ble_eq_true rfl) (cs_4_6 (kb0)) (tw_76 B.2.2.2.2.1) dX0_join_78 ?_
        clear hH
        intro H locs hH
        obtain ⟨h5, eh5⟩ : ∃ z : PH, z = up2 h4 b0 6 0 := ⟨_, rfl⟩
        rw [← eh5] at hH
        replace hw := hw h5 eh5
        exact e_v B hr hH hw dX0_join_81
      · replace hw := hw.2 c1
        refine lv_aload_n B.1 B.2.1 dX0_join_9 rfl (lv_at hl 0 rfl) ?_
        refine r_get B hH (own := RX0) (kd_n B (kb0) (by decide) (by decide)) (ct_4 (kb0)) rfl (ul_4 B.2.2.2.2.1) 0 (by decide) rfl (tw_63 B.2.2.2.2.1) dX0_join_10 ?_
        refine lv_aload_n B.1 B.2.1 dX0_join_13 rfl (lv_at hl 0 rfl) ?_
        refine r_get B hH (own := RX0) (kd_n B (kb0) (by decide) (by decide)) (ct_4 (kb0)) rfl (ul_4 B.2.2.2.2.1) 2 (by decide) rfl (tw_66 B.2.2.2.2.1) dX0_join_14 ?_
        refine lv_iload B.1 B.2.1 dX0_join_17 (lv_at hl 4 rfl) ?_
        refine lv_iadd B.1 B.2.1 dX0_join_19 ?_
        refine lv_iload_n B.1 B.2.1 dX0_join_20 rfl (lv_at hl 2 rfl) ?_
        refine lv_isub B.1 B.2.1 dX0_join_21 ?_
        refine lv_aload_n B.1 B.2.1 dX0_join_22 rfl (lv_at hl 1 rfl) ?_
        refine r_getN B hH (own := RX0) (kd_n B (kb1) (by decide) (by decide)) (ct_3 (kb1)) rfl (ul_3 B.2.2.2.2.1) 0 (by decide) rfl (tw_45 B.2.2.2.2.1) dX0_join_23 ?_
        refine lv_iload B.1 B.2.1 dX0_join_26 (lv_at hl 4 rfl) ?_
        refine c_SN_I (own := RX0) (As := [.ref (zA Z (b1 + 1)), .int b4]) (rest := [.int (((h b0 2) + b4) - b2), .ref (zA Z (b0 + 1))]) B hH (cy_X7_get B.2.2.2.2.1) (ct_X7_get B.2.2.2.2.2.2.2 l (b1 + 1) b4 h _ _ (kf_3_0 (kb1)) hw) ⟨⟨rfl, rfl⟩, Nat.le_of_ble_eq_true rfl, Nat.le_of_ble_eq_true rfl, Nat.zero_le _, Nat.zero_le _⟩ (tw_554 B.2.2.2.2.1) rfl hl.1 rfl (Nat.le_of_ble_eq_true rfl) dX0_join_28 ?_
        clear hw hH
        intro r7 h6 H locs hw hH
        refine c_SN_V (own := RX0) (As := [.ref (zA Z (b0 + 1)), .int (((h b0 2) + b4) - b2), .int r7]) (rest := []) B hH (cy_X7_put B.2.2.2.2.1) (ct_X7_put B.2.2.2.2.2.2.2 l (b0 + 1) (((h b0 2) + b4) - b2) r7 h6 _ _ (kf_4_0 (kb0)) hw) ⟨⟨rfl, rfl⟩, Nat.le_of_ble_eq_true rfl, Nat.le_of_ble_eq_true rfl, Nat.zero_le _, Nat.zero_le _⟩ (tw_555 B.2.2.2.2.1) rfl hl.1 rfl (Nat.le_of_ble_eq_true rfl) dX0_join_31 ?_
        clear hw hH
        intro h8 H locs hw hH
        obtain ⟨x9, ex9⟩ : ∃ y : Int32, y = b4 + 1 := ⟨_, rfl⟩
        replace hw := hw x9 ex9
        refine lv_iinc (v := x9) (lv' := [(4, .int x9), (0, .ref (zA Z b0)), (1, .ref (zA Z b1)), (2, .int b2), (3, .int b3)]) B.1 B.2.1 dX0_join_34 hl (k := 4) rfl (by rw [ex9]; rfl) (by decide) (by first | rfl | simp [va_re_cat, Value.category]) ?_
        clear hl
        intro ls hl
        refine lv_goto (tgt := 3) B.1 B.2.1 dX0_join_37 (by decide) ?_
        exact ih x9 h8  _ _ _ hw hH (lv_sub hl [1, 2, 3, 4, 0] rfl)
  refine lv_iload_n B.1 B.2.1 dX0_join_0 rfl (lv_at hl 2 rfl) ?_
  refine lv_istore (lv' := [(4, .int a2), (0, .ref (zA Z a0)), (1, .ref (zA Z a1)), (2, .int a2), (3, .int a3)]) B.1 B.2.1 dX0_join_1 hl (by decide) (by first | rfl | simp [va_re_cat, Value.category]) ?_
  clear hl
  intro ls hl
  obtain ⟨n10, hw⟩ := hw
  exact L3 a0 a1 a2 a3 (k0) (k1) n10 a2 h  _ _ _ hw hH (lv_sub hl [1, 2, 3, 4, 0] rfl)
theorem cy_X0_takeOff {s : State} {args : Array Value} (hG : GG s) : CYV s args yX0_takeOff cX0_takeOff 1 (some .int) 0 := CYV.of hG (fun _ _ hG => tw_562 hG) (tw_4 hG) (tw_561 hG) (tp_31 hG) (by decide +kernel)
set_option maxRecDepth 100000 in
set_option maxHeartbeats 4000000 in
theorem ct_X0_takeOff {Z : ZT} (hZ : ZO Z) (l : Launch) (a0 : Nat) (h : PH) (sz : Nat) (Q : Int32 → PH → Prop) (k0 : kd a0 = 4) (hw : wp_X0_takeOff a0 h Q) : MI Z l yX0_takeOff cX0_takeOff 1 (some .int) ({ frames := 1, cells := 0, slots := 0, locals := 21 } : Room) h sz [.ref (zA Z a0)] Q := by
  refine open_M hZ (by decide +kernel) (by exact Nat.le_of_ble_eq_true rfl) ?_
  intro p e s m below meth c B hr hsz ls hl hH
  subst hsz
  have hl : lv_has ls 1 [(0, .ref (zA Z a0))] := hl
  unfold wp_X0_takeOff at hw
  refine lv_aload_n B.1 B.2.1 dX0_takeOff_0 rfl (lv_at hl 0 rfl) ?_
  refine lv_dup B.1 B.2.1 dX0_takeOff_1 rfl ?_
  refine r_get B hH (own := RX0) (kd_n B (k0) (by decide) (by decide)) (ct_4 (k0)) rfl (ul_4 B.2.2.2.2.1) 3 (by decide) rfl (tw_69 B.2.2.2.2.1) dX0_takeOff_2 ?_
  refine lv_iconst (v := 1) B.1 B.2.1 dX0_takeOff_5 (by decide) ?_
  refine lv_isub B.1 B.2.1 dX0_takeOff_6 ?_
  refine r_put B hH (own := RX0) (kd_n B (k0) (by decide) (by decide)) (ct_4 (k0)) rfl (ul_4 B.2.2.2.2.1) tyX0 tyX0_ok nmX0 3 (by decide) (ty := .int) rfl rfl rfl rfl (Nat.le_of_ble_eq_true rfl) (cs_4_3 (k0)) (tw_69 B.2.2.2.2.1) dX0_takeOff_7 ?_
  clear hH
  intro H locs hH
  obtain ⟨h1, eh1⟩ : ∃ z : PH, z = up2 h a0 3 ((h a0 3) - 1) := ⟨_, rfl⟩
  rw [← eh1] at hH
  replace hw := hw h1 eh1
  refine lv_aload_n B.1 B.2.1 dX0_takeOff_10 rfl (lv_at hl 0 rfl) ?_
  refine lv_dup B.1 B.2.1 dX0_takeOff_11 rfl ?_
  refine r_get B hH (own := RX0) (kd_n B (k0) (by decide) (by decide)) (ct_4 (k0)) rfl (ul_4 B.2.2.2.2.1) 2 (by decide) rfl (tw_66 B.2.2.2.2.1) dX0_takeOff_12 ?_
  refine lv_aload_n B.1 B.2.1 dX0_takeOff_15 rfl (lv_at hl 0 rfl) ?_
  refine r_get B hH (own := RX0) (kd_n B (k0) (by decide) (by decide)) (ct_4 (k0)) rfl (ul_4 B.2.2.2.2.1) 1 (by decide) rfl (tw_65 B.2.2.2.2.1) dX0_takeOff_16 ?_
  refine lv_aload_n B.1 B.2.1 dX0_takeOff_19 rfl (lv_at hl 0 rfl) ?_
  refine r_get B hH (own := RX0) (kd_n B (k0) (by decide) (by decide)) (ct_4 (k0)) rfl (ul_4 B.2.2.2.2.1) 3 (by decide) rfl (tw_69 B.2.2.2.2.1) dX0_takeOff_20 ?_
  refine c_SN_I (own := RX0) (As := [.ref (zA Z (a0 + 2)), .int (h1 a0 3)]) (rest := [.int (h1 a0 2), .ref (zA Z a0)]) B hH (cy_X7_get B.2.2.2.2.1) (ct_X7_get B.2.2.2.2.2.2.2 l (a0 + 2) (h1 a0 3) h1 _ _ (kf_4_1 (k0)) hw) ⟨⟨rfl, rfl⟩, Nat.le_of_ble_eq_true rfl, Nat.le_of_ble_eq_true rfl, Nat.zero_le _, Nat.zero_le _⟩ (tw_554 B.2.2.2.2.1) rfl hl.1 rfl (Nat.le_of_ble_eq_true rfl) dX0_takeOff_23 ?_
  clear hw hH
  intro r3 h2 H locs hw hH
  refine lv_isub B.1 B.2.1 dX0_takeOff_26 ?_
  refine r_put B hH (own := RX0) (kd_n B (k0) (by decide) (by decide)) (ct_4 (k0)) rfl (ul_4 B.2.2.2.2.1) tyX0 tyX0_ok nmX0 2 (by decide) (ty := .int) rfl rfl rfl rfl (Nat.le_of_ble_eq_true rfl) (cs_4_2 (k0)) (tw_66 B.2.2.2.2.1) dX0_takeOff_27 ?_
  clear hH
  intro H locs hH
  obtain ⟨h4, eh4⟩ : ∃ z : PH, z = up2 h2 a0 2 ((h1 a0 2) - r3) := ⟨_, rfl⟩
  rw [← eh4] at hH
  replace hw := hw h4 eh4
  refine lv_aload_n B.1 B.2.1 dX0_takeOff_30 rfl (lv_at hl 0 rfl) ?_
  refine lv_iconst (v := 0) B.1 B.2.1 dX0_takeOff_31 (by decide) ?_
  refine r_put B hH (own := RX0) (kd_n B (k0) (by decide) (by decide)) (ct_4 (k0)) rfl (ul_4 B.2.2.2.2.1) tyX0 tyX0_ok nmX0 6 (by decide) (ty := .int) rfl rfl rfl rfl (Nat.le_of_ble_eq_true rfl) (cs_4_6 (k0)) (tw_76 B.2.2.2.2.1) dX0_takeOff_32 ?_
  clear hH
  intro H locs hH
  obtain ⟨h5, eh5⟩ : ∃ z : PH, z = up2 h4 a0 6 0 := ⟨_, rfl⟩
  rw [← eh5] at hH
  replace hw := hw h5 eh5
  refine lv_aload_n B.1 B.2.1 dX0_takeOff_35 rfl (lv_at hl 0 rfl) ?_
  refine r_get B hH (own := RX0) (kd_n B (k0) (by decide) (by decide)) (ct_4 (k0)) rfl (ul_4 B.2.2.2.2.1) 2 (by decide) rfl (tw_66 B.2.2.2.2.1) dX0_takeOff_36 ?_
  exact e_i B hr hH hw dX0_takeOff_39
theorem cy_X0_changeSpeed {s : State} {args : Array Value} (hG : GG s) : CYV s args yX0_changeSpeed cX0_changeSpeed 3 (some .int) 2 := CYV.of hG (fun _ _ hG => tw_569 hG) (tw_4 hG) (tw_568 hG) (tp_32 hG) (by decide +kernel)
set_option maxRecDepth 100000 in
set_option maxHeartbeats 4000000 in
theorem ct_X0_changeSpeed {Z : ZT} (hZ : ZO Z) (l : Launch) (a0 : Nat) (a1 : Int32) (a2 : Int32) (h : PH) (sz : Nat) (Q : Int32 → PH → Prop) (k0 : kd a0 = 4) (hw : wp_X0_changeSpeed a0 a1 a2 h Q) : MI Z l yX0_changeSpeed cX0_changeSpeed 3 (some .int) ({ frames := 1, cells := 0, slots := 0, locals := 21 } : Room) h sz [.ref (zA Z a0), .int a1, .int a2] Q := by
  refine open_M hZ (by decide +kernel) (by exact Nat.le_of_ble_eq_true rfl) ?_
  intro p e s m below meth c B hr hsz ls hl hH
  subst hsz
  have hl : lv_has ls 3 [(0, .ref (zA Z a0)), (1, .int a1), (2, .int a2)] := hl
  unfold wp_X0_changeSpeed at hw
  refine lv_aload_n B.1 B.2.1 dX0_changeSpeed_0 rfl (lv_at hl 0 rfl) ?_
  refine lv_aload_n B.1 B.2.1 dX0_changeSpeed_1 rfl (lv_at hl 0 rfl) ?_
  refine c_V_I (own := RX0) (As := []) (rest := [.ref (zA Z a0)]) B hH (cy_X0_isEmpty B.2.2.2.2.1) (ct_X0_isEmpty B.2.2.2.2.2.2.2 l a0 h _ _ (k0) hw) ⟨⟨rfl, rfl⟩, Nat.le_of_ble_eq_true rfl, Nat.le_of_ble_eq_true rfl, Nat.zero_le _, Nat.zero_le _⟩ (rv_4 B hH (k0)) (tw_341 B.2.2.2.2.1) rfl hl.1 rfl (Nat.le_of_ble_eq_true rfl) dX0_changeSpeed_2 ?_
  clear hw hH
  intro r2 h1 H locs hw hH
  refine lv_if_eq (tgt := 12) B.1 B.2.1 dX0_changeSpeed_5 (by decide) (fun c3 => ?_) (fun c3 => ?_)
  · replace hw := hw.1 c3
    refine lv_aload_n B.1 B.2.1 dX0_changeSpeed_12 rfl (lv_at hl 0 rfl) ?_
    refine lv_aload_n B.1 B.2.1 dX0_changeSpeed_13 rfl (lv_at hl 0 rfl) ?_
    refine r_get B hH (own := RX0) (kd_n B (k0) (by decide) (by decide)) (ct_4 (k0)) rfl (ul_4 B.2.2.2.2.1) 6 (by decide) rfl (tw_76 B.2.2.2.2.1) dX0_changeSpeed_14 ?_
    refine c_V_I (own := RX0) (As := [.int (h1 a0 6)]) (rest := [.ref (zA Z a0)]) B hH (cy_X0_headIn B.2.2.2.2.1) (ct_X0_headIn B.2.2.2.2.2.2.2 l a0 (h1 a0 6) h1 _ _ (k0) hw) ⟨⟨rfl, rfl⟩, Nat.le_of_ble_eq_true rfl, Nat.le_of_ble_eq_true rfl, Nat.zero_le _, Nat.zero_le _⟩ (rv_4 B hH (k0)) (tw_570 B.2.2.2.2.1) rfl hl.1 rfl (Nat.le_of_ble_eq_true rfl) dX0_changeSpeed_17 ?_
    clear hw hH
    intro r5 h4 H locs hw hH
    refine lv_iload_n B.1 B.2.1 dX0_changeSpeed_20 rfl (lv_at hl 2 rfl) ?_
    refine lv_imul B.1 B.2.1 dX0_changeSpeed_21 ?_
    refine r_put B hH (own := RX0) (kd_n B (k0) (by decide) (by decide)) (ct_4 (k0)) rfl (ul_4 B.2.2.2.2.1) tyX0 tyX0_ok nmX0 6 (by decide) (ty := .int) rfl rfl rfl rfl (Nat.le_of_ble_eq_true rfl) (cs_4_6 (k0)) (tw_76 B.2.2.2.2.1) dX0_changeSpeed_22 ?_
    clear hH
    intro H locs hH
    obtain ⟨h6, eh6⟩ : ∃ z : PH, z = up2 h4 a0 6 (r5 * a2) := ⟨_, rfl⟩
    rw [← eh6] at hH
    replace hw := hw h6 eh6
    refine lv_aload_n B.1 B.2.1 dX0_changeSpeed_25 rfl (lv_at hl 0 rfl) ?_
    refine lv_iload_n B.1 B.2.1 dX0_changeSpeed_26 rfl (lv_at hl 1 rfl) ?_
    refine r_put B hH (own := RX0) (kd_n B (k0) (by decide) (by decide)) (ct_4 (k0)) rfl (ul_4 B.2.2.2.2.1) tyX0 tyX0_ok nmX0 4 (by decide) (ty := .int) rfl rfl rfl rfl (Nat.le_of_ble_eq_true rfl) (cs_4_4 (k0)) (tw_72 B.2.2.2.2.1) dX0_changeSpeed_27 ?_
    clear hH
    intro H locs hH
    obtain ⟨h7, eh7⟩ : ∃ z : PH, z = up2 h6 a0 4 a1 := ⟨_, rfl⟩
    rw [← eh7] at hH
    replace hw := hw h7 eh7
    refine lv_aload_n B.1 B.2.1 dX0_changeSpeed_30 rfl (lv_at hl 0 rfl) ?_
    refine lv_iload_n B.1 B.2.1 dX0_changeSpeed_31 rfl (lv_at hl 2 rfl) ?_
    refine r_put B hH (own := RX0) (kd_n B (k0) (by decide) (by decide)) (ct_4 (k0)) rfl (ul_4 B.2.2.2.2.1) tyX0 tyX0_ok nmX0 5 (by decide) (ty := .int) rfl rfl rfl rfl (Nat.le_of_ble_eq_true rfl) (cs_4_5 (k0)) (tw_74 B.2.2.2.2.1) dX0_changeSpeed_32 ?_
    clear hH
    intro H locs hH
    obtain ⟨h8, eh8⟩ : ∃ z : PH, z = up2 h7 a0 5 a2 := ⟨_, rfl⟩
    rw [← eh8] at hH
    replace hw := hw h8 eh8
    refine lv_aload_n B.1 B.2.1 dX0_changeSpeed_35 rfl (lv_at hl 0 rfl) ?_
    refine r_get B hH (own := RX0) (kd_n B (k0) (by decide) (by decide)) (ct_4 (k0)) rfl (ul_4 B.2.2.2.2.1) 6 (by decide) rfl (tw_76 B.2.2.2.2.1) dX0_changeSpeed_36 ?_
    exact e_i B hr hH hw dX0_changeSpeed_39
  · replace hw := hw.2 c3
    refine lv_iconst (v := 0) B.1 B.2.1 dX0_changeSpeed_8 (by decide) ?_
    refine lv_goto (tgt := 22) B.1 B.2.1 dX0_changeSpeed_9 (by decide) ?_
    refine r_put B hH (own := RX0) (kd_n B (k0) (by decide) (by decide)) (ct_4 (k0)) rfl (ul_4 B.2.2.2.2.1) tyX0 tyX0_ok nmX0 6 (by decide) (ty := .int) rfl rfl rfl rfl (Nat.le_of_ble_eq_true rfl) (cs_4_6 (k0)) (tw_76 B.2.2.2.2.1) dX0_changeSpeed_22 ?_
    clear hH
    intro H locs hH
    obtain ⟨h9, eh9⟩ : ∃ z : PH, z = up2 h1 a0 6 0 := ⟨_, rfl⟩
    rw [← eh9] at hH
    replace hw := hw h9 eh9
    refine lv_aload_n B.1 B.2.1 dX0_changeSpeed_25 rfl (lv_at hl 0 rfl) ?_
    refine lv_iload_n B.1 B.2.1 dX0_changeSpeed_26 rfl (lv_at hl 1 rfl) ?_
    refine r_put B hH (own := RX0) (kd_n B (k0) (by decide) (by decide)) (ct_4 (k0)) rfl (ul_4 B.2.2.2.2.1) tyX0 tyX0_ok nmX0 4 (by decide) (ty := .int) rfl rfl rfl rfl (Nat.le_of_ble_eq_true rfl) (cs_4_4 (k0)) (tw_72 B.2.2.2.2.1) dX0_changeSpeed_27 ?_
    clear hH
    intro H locs hH
    obtain ⟨h10, eh10⟩ : ∃ z : PH, z = up2 h9 a0 4 a1 := ⟨_, rfl⟩
    rw [← eh10] at hH
    replace hw := hw h10 eh10
    refine lv_aload_n B.1 B.2.1 dX0_changeSpeed_30 rfl (lv_at hl 0 rfl) ?_
    refine lv_iload_n B.1 B.2.1 dX0_changeSpeed_31 rfl (lv_at hl 2 rfl) ?_
    refine r_put B hH (own := RX0) (kd_n B (k0) (by decide) (by decide)) (ct_4 (k0)) rfl (ul_4 B.2.2.2.2.1) tyX0 tyX0_ok nmX0 5 (by decide) (ty := .int) rfl rfl rfl rfl (Nat.le_of_ble_eq_true rfl) (cs_4_5 (k0)) (tw_74 B.2.2.2.2.1) dX0_changeSpeed_32 ?_
    clear hH
    intro H locs hH
    obtain ⟨h11, eh11⟩ : ∃ z : PH, z = up2 h10 a0 5 a2 := ⟨_, rfl⟩
    rw [← eh11] at hH
    replace hw := hw h11 eh11
    refine lv_aload_n B.1 B.2.1 dX0_changeSpeed_35 rfl (lv_at hl 0 rfl) ?_
    refine r_get B hH (own := RX0) (kd_n B (k0) (by decide) (by decide)) (ct_4 (k0)) rfl (ul_4 B.2.2.2.2.1) 6 (by decide) rfl (tw_76 B.2.2.2.2.1) dX0_changeSpeed_36 ?_
    exact e_i B hr hH hw dX0_changeSpeed_39
theorem cy_X1_byGoing {s : State} {args : Array Value} (hG : GG s) : CYS s args yX1_byGoing cX1_byGoing 3 (some .int) 2 := CYS.of hG (fun _ _ hG => tw_866 hG) (tw_20 hG) (tw_865 hG) (by decide +kernel)
set_option maxRecDepth 100000 in
set_option maxHeartbeats 4000000 in
theorem ct_X1_byGoing {Z : ZT} (hZ : ZO Z) (l : Launch) (a0 : Nat) (a1 : Nat) (h : PH) (sz : Nat) (Q : Int32 → PH → Prop) (k0 : kd a0 = 4) (k1 : kd a1 = 4) (hw : wp_X1_byGoing a0 a1 h Q) : MI Z l yX1_byGoing cX1_byGoing 3 (some .int) ({ frames := 3, cells := 0, slots := 0, locals := 80 } : Room) h sz [.ref (zA Z a0), .ref (zA Z a1)] Q := by
  refine open_M hZ (by decide +kernel) (by exact Nat.le_of_ble_eq_true rfl) ?_
  intro p e s m below meth c B hr hsz ls hl hH
  subst hsz
  have hl : lv_has ls 3 [(0, .ref (zA Z a0)), (1, .ref (zA Z a1))] := hl
  unfold wp_X1_byGoing at hw
  refine lv_aload_n B.1 B.2.1 dX1_byGoing_0 rfl (lv_at hl 0 rfl) ?_
  refine lv_lconst (v := 0) B.1 B.2.1 dX1_byGoing_1 (by decide) ?_
  refine lv_lconst (v := 1) B.1 B.2.1 dX1_byGoing_2 (by decide) ?_
  refine c_VN_I (own := RX1) (As := [.long 0, .long 1]) (rest := []) B hH (cy_X0_zeroFrom B.2.2.2.2.1) (ct_X0_zeroFrom B.2.2.2.2.2.2.2 l a0 0 1 h _ _ (k0) hw) ⟨⟨rfl, rfl⟩, Nat.le_of_ble_eq_true rfl, Nat.le_of_ble_eq_true rfl, Nat.zero_le _, Nat.zero_le _⟩ (rv_4 B hH (k0)) (tw_330 B.2.2.2.2.1) rfl hl.1 rfl (Nat.le_of_ble_eq_true rfl) dX1_byGoing_3 ?_
  clear hw hH
  intro r2 h1 H locs hw hH
  refine lv_istore_n (lv' := [(2, .int r2), (0, .ref (zA Z a0)), (1, .ref (zA Z a1))]) B.1 B.2.1 dX1_byGoing_6 rfl hl (by decide) (by first | rfl | simp [va_re_cat, Value.category]) ?_
  clear hl
  intro ls hl
  refine lv_iload_n B.1 B.2.1 dX1_byGoing_7 rfl (lv_at hl 0 rfl) ?_
  refine lv_iconst (v := (-1)) B.1 B.2.1 dX1_byGoing_8 (by decide) ?_
  refine lv_icmp_ne (tgt := 16) B.1 B.2.1 dX1_byGoing_9 (by decide) (fun c3 => ?_) (fun c3 => ?_)
  · replace hw := hw.1 c3
    refine lv_aload_n B.1 B.2.1 dX1_byGoing_16 rfl (lv_at hl 2 rfl) ?_
    refine lv_iload_n B.1 B.2.1 dX1_byGoing_17 rfl (lv_at hl 0 rfl) ?_
    refine lv_i2l B.1 B.2.1 dX1_byGoing_18 rfl ?_
    refine lv_aload_n B.1 B.2.1 dX1_byGoing_19 rfl (lv_at hl 1 rfl) ?_
    refine c_VN_I (own := RX1) (As := []) (rest := [.long (r2.toInt64), .ref (zA Z a1)]) B hH (cy_X0_period B.2.2.2.2.1) (ct_X0_period B.2.2.2.2.2.2.2 l a0 h1 _ _ (k0) hw) ⟨⟨rfl, rfl⟩, Nat.le_of_ble_eq_true rfl, Nat.le_of_ble_eq_true rfl, Nat.zero_le _, Nat.zero_le _⟩ (rv_4 B hH (k0)) (tw_347 B.2.2.2.2.1) rfl hl.1 rfl (Nat.le_of_ble_eq_true rfl) dX1_byGoing_20 ?_
    clear hw hH
    intro r5 h4 H locs hw hH
    refine lv_i2l B.1 B.2.1 dX1_byGoing_23 rfl ?_
    refine c_VN_I (own := RX1) (As := [.long (r2.toInt64), .long (r5.toInt64)]) (rest := []) B hH (cy_X0_zeroFrom B.2.2.2.2.1) (ct_X0_zeroFrom B.2.2.2.2.2.2.2 l a1 (r2.toInt64) (r5.toInt64) h4 _ _ (k1) hw) ⟨⟨rfl, rfl⟩, Nat.le_of_ble_eq_true rfl, Nat.le_of_ble_eq_true rfl, Nat.zero_le _, Nat.zero_le _⟩ (rv_4 B hH (k1)) (tw_330 B.2.2.2.2.1) rfl hl.1 rfl (Nat.le_of_ble_eq_true rfl) dX1_byGoing_24 ?_
    clear hw hH
    intro r7 h6 H locs hw hH
    exact e_i B hr hH hw dX1_byGoing_27
  · replace hw := hw.2 c3
    refine lv_iconst (v := (-1)) B.1 B.2.1 dX1_byGoing_12 (by decide) ?_
    refine lv_goto (tgt := 27) B.1 B.2.1 dX1_byGoing_13 (by decide) ?_
    exact e_i B hr hH hw dX1_byGoing_27
theorem cy_J9_floorMod_7cf53 {s : State} {args : Array Value} (hG : GG s) : CYS s args yJ9_floorMod_7cf53 cJ9_floorMod_7cf53 3 (some .int) 2 := CYS.of hG (fun _ _ hG => tw_872 hG) (tw_18 hG) (tw_871 hG) (by decide +kernel)
set_option maxRecDepth 100000 in
set_option maxHeartbeats 4000000 in
theorem ct_J9_floorMod_7cf53 {Z : ZT} (hZ : ZO Z) (l : Launch) (a0 : Int32) (a1 : Int32) (h : PH) (sz : Nat) (Q : Int32 → PH → Prop)  (hw : wp_J9_floorMod_7cf53 a0 a1 h Q) : MI Z l yJ9_floorMod_7cf53 cJ9_floorMod_7cf53 3 (some .int) ({ frames := 0, cells := 0, slots := 0, locals := 0 } : Room) h sz [.int a0, .int a1] Q := by
  refine open_MF hZ (by decide +kernel) (by exact Nat.le_of_ble_eq_true rfl) ?_
  intro p e s m below meth c B hr hsz ls hl hH
  subst hsz
  have hl : lv_has ls 3 [(0, .int a0), (1, .int a1)] := hl
  unfold wp_J9_floorMod_7cf53 at hw
  refine lv_iload_n B.1 B.2.1 dJ9_floorMod_7cf53_0 rfl (lv_at hl 0 rfl) ?_
  refine lv_iload_n B.1 B.2.1 dJ9_floorMod_7cf53_1 rfl (lv_at hl 1 rfl) ?_
  have q1 := hw.1
  replace hw := hw.2
  refine x_irem B dJ9_floorMod_7cf53_2 q1 ?_
  refine lv_topi (fun x2 ex2 => ?_)
  replace hw := hw x2 ex2
  refine lv_istore_n (lv' := [(2, .int x2), (0, .int a0), (1, .int a1)]) B.1 B.2.1 dJ9_floorMod_7cf53_3 rfl hl (by decide) (by first | rfl | simp [va_re_cat, Value.category]) ?_
  clear hl
  intro ls hl
  refine lv_iload_n B.1 B.2.1 dJ9_floorMod_7cf53_4 rfl (lv_at hl 1 rfl) ?_
  refine lv_iload_n B.1 B.2.1 dJ9_floorMod_7cf53_5 rfl (lv_at hl 2 rfl) ?_
  refine lv_ixor B.1 B.2.1 dJ9_floorMod_7cf53_6 ?_
  refine lv_if_ge (tgt := 18) B.1 B.2.1 dJ9_floorMod_7cf53_7 (by decide) (fun c3 => ?_) (fun c3 => ?_)
  · replace hw := hw.1 c3
    refine lv_iload_n B.1 B.2.1 dJ9_floorMod_7cf53_18 rfl (lv_at hl 0 rfl) ?_
    exact e_i B hr hH hw dJ9_floorMod_7cf53_19
  · replace hw := hw.2 c3
    refine lv_iload_n B.1 B.2.1 dJ9_floorMod_7cf53_10 rfl (lv_at hl 0 rfl) ?_
    refine lv_if_eq (tgt := 18) B.1 B.2.1 dJ9_floorMod_7cf53_11 (by decide) (fun c4 => ?_) (fun c4 => ?_)
    · replace hw := hw.1 c4
      refine lv_iload_n B.1 B.2.1 dJ9_floorMod_7cf53_18 rfl (lv_at hl 0 rfl) ?_
      exact e_i B hr hH hw dJ9_floorMod_7cf53_19
    · replace hw := hw.2 c4
      refine lv_iload_n B.1 B.2.1 dJ9_floorMod_7cf53_14 rfl (lv_at hl 0 rfl) ?_
      refine lv_iload_n B.1 B.2.1 dJ9_floorMod_7cf53_15 rfl (lv_at hl 2 rfl) ?_
      refine lv_iadd B.1 B.2.1 dJ9_floorMod_7cf53_16 ?_
      exact e_i B hr hH hw dJ9_floorMod_7cf53_17
