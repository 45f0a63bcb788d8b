theorem cy_X6_greatestOf {s : State} {args : Array Value} (hG : GG s) : CYS s args yX6_greatestOf cX6_greatestOf 1 (some .int) 1 := CYS.of hG (fun _ _ hG => tw_306 hG) (tw_7 hG) (tw_305 hG) (by decide +kernel)
set_option maxRecDepth 100000 in
set_option maxHeartbeats 4000000 in
theorem ct_X6_greatestOf {Z : ZT} (hZ : ZO Z) (l : Launch) (a0 : Int32) (h : PH) (sz : Nat) (Q : Int32 → PH → Prop)  (hw : wp_X6_greatestOf a0 h Q) : MI Z l yX6_greatestOf cX6_greatestOf 1 (some .int) ({ frames := 0, cells := 0, slots := 0, locals := 0 } : Room) h sz [.int a0] Q := by
  refine open_M hZ (by decide +kernel) (by exact Nat.le_of_ble_eq_true rfl) ?_
  intro p e s m below meth c B hr hsz ls hl hH
  subst hsz
  have hl : lv_has ls 1 [(0, .int a0)] := hl
  unfold wp_X6_greatestOf at hw
  refine lv_iload_n B.1 B.2.1 dX6_greatestOf_0 rfl (lv_at hl 0 rfl) ?_
  by_cases c1 : (a0 = 67 ∨ a0 = 114 ∨ a0 = 119)
  · replace hw := hw.1 c1
    refine lv_lookup (off := 79) (tgt := 80) B.1 B.2.1 dX6_greatestOf_1 (by decide) (by rcases c1 with e9 | e9 | e9 <;> rw [e9] <;> rfl) (by decide) ?_
    refine lv_bipush (v := 60) B.1 B.2.1 dX6_greatestOf_80 (by decide) ?_
    exact e_i B hr hH hw dX6_greatestOf_82
  · by_cases c2 : (a0 = 76)
    · replace hw := hw.2.1 c2
      refine lv_lookup (off := 77) (tgt := 78) B.1 B.2.1 dX6_greatestOf_1 (by decide) (by rw [c2]; rfl) (by decide) ?_
      refine lv_iconst (v := 3) B.1 B.2.1 dX6_greatestOf_78 (by decide) ?_
      exact e_i B hr hH hw dX6_greatestOf_79
    · by_cases c3 : (a0 = 82)
      · replace hw := hw.2.2.1 c3
        refine lv_lookup (off := 75) (tgt := 76) B.1 B.2.1 dX6_greatestOf_1 (by decide) (by rw [c3]; rfl) (by decide) ?_
        refine lv_iconst (v := 2) B.1 B.2.1 dX6_greatestOf_76 (by decide) ?_
        exact e_i B hr hH hw dX6_greatestOf_77
      · by_cases c4 : (a0 = 109)
        · replace hw := hw.2.2.2.1 c4
          refine lv_lookup (off := 88) (tgt := 89) B.1 B.2.1 dX6_greatestOf_1 (by decide) (by rw [c4]; rfl) (by decide) ?_
          refine lv_iconst (v := 1) B.1 B.2.1 dX6_greatestOf_89 (by decide) ?_
          exact e_i B hr hH hw dX6_greatestOf_90
        · by_cases c5 : (a0 = 112)
          · replace hw := hw.2.2.2.2.1 c5
            refine lv_lookup (off := 82) (tgt := 83) B.1 B.2.1 dX6_greatestOf_1 (by decide) (by rw [c5]; rfl) (by decide) ?_
            refine lv_bipush (v := 9) B.1 B.2.1 dX6_greatestOf_83 (by decide) ?_
            exact e_i B hr hH hw dX6_greatestOf_85
          · by_cases c6 : (a0 = 118)
            · replace hw := hw.2.2.2.2.2.1 c6
              refine lv_lookup (off := 85) (tgt := 86) B.1 B.2.1 dX6_greatestOf_1 (by decide) (by rw [c6]; rfl) (by decide) ?_
              refine lv_bipush (v := 9) B.1 B.2.1 dX6_greatestOf_86 (by decide) ?_
              exact e_i B hr hH hw dX6_greatestOf_88
            · replace hw := hw.2.2.2.2.2.2 (fun z => c1 (Or.inl z)) c2 c3 c4 c5 (fun z => c1 (Or.inr (Or.inl z))) c6 (fun z => c1 (Or.inr (Or.inr z)))
              refine lv_lookup (off := 90) (tgt := 91) B.1 B.2.1 dX6_greatestOf_1 (by decide) ((lv_osw (x := a0) (k := 67) (fun z => c1 (Or.inl z)) (by decide)).trans ((lv_osw (x := a0) (k := 76) c2 (by decide)).trans ((lv_osw (x := a0) (k := 82) c3 (by decide)).trans ((lv_osw (x := a0) (k := 109) c4 (by decide)).trans ((lv_osw (x := a0) (k := 112) c5 (by decide)).trans ((lv_osw (x := a0) (k := 114) (fun z => c1 (Or.inr (Or.inl z))) (by decide)).trans ((lv_osw (x := a0) (k := 118) c6 (by decide)).trans ((lv_osw (x := a0) (k := 119) (fun z => c1 (Or.inr (Or.inr z))) (by decide)).trans (rfl))))))))) (by decide) ?_
              refine lv_sipush (v := 999) B.1 B.2.1 dX6_greatestOf_91 (by decide) ?_
              exact e_i B hr hH hw dX6_greatestOf_94
theorem cy_X6_leastOf {s : State} {args : Array Value} (hG : GG s) : CYS s args yX6_leastOf cX6_leastOf 1 (some .int) 1 := CYS.of hG (fun _ _ hG => tw_303 hG) (tw_7 hG) (tw_302 hG) (by decide +kernel)
set_option maxRecDepth 100000 in
set_option maxHeartbeats 4000000 in
theorem ct_X6_leastOf {Z : ZT} (hZ : ZO Z) (l : Launch) (a0 : Int32) (h : PH) (sz : Nat) (Q : Int32 → PH → Prop)  (hw : wp_X6_leastOf a0 h Q) : MI Z l yX6_leastOf cX6_leastOf 1 (some .int) ({ frames := 0, cells := 0, slots := 0, locals := 0 } : Room) h sz [.int a0] Q := by
  refine open_M hZ (by decide +kernel) (by exact Nat.le_of_ble_eq_true rfl) ?_
  intro p e s m below meth c B hr hsz ls hl hH
  subst hsz
  have hl : lv_has ls 1 [(0, .int a0)] := hl
  unfold wp_X6_leastOf at hw
  refine lv_iload_n B.1 B.2.1 dX6_leastOf_0 rfl (lv_at hl 0 rfl) ?_
  by_cases c1 : (a0 = 114)
  · replace hw := hw.1 c1
    refine lv_tableIn (off := 39) (tgt := 40) B.1 B.2.1 dX6_leastOf_1 (by rw [c1]; decide) (by rw [c1]; decide) (by rw [c1]; rfl) (by decide) ?_
    refine lv_iconst (v := 2) B.1 B.2.1 dX6_leastOf_40 (by decide) ?_
    exact e_i B hr hH hw dX6_leastOf_41
  · by_cases c2 : (a0 = 115 ∨ a0 = 117)
    · replace hw := hw.2.1 c2
      refine lv_tableIn (off := 43) (tgt := 44) B.1 B.2.1 dX6_leastOf_1 (by rcases c2 with e9 | e9 <;> rw [e9] <;> decide) (by rcases c2 with e9 | e9 <;> rw [e9] <;> decide) (by rcases c2 with e9 | e9 <;> rw [e9] <;> rfl) (by decide) ?_
      refine lv_iconst (v := 0) B.1 B.2.1 dX6_leastOf_44 (by decide) ?_
      exact e_i B hr hH hw dX6_leastOf_45
    · by_cases c3 : (a0 = 116 ∨ a0 = 118 ∨ a0 = 119)
      · replace hw := hw.2.2.1 c3
        refine lv_tableIn (off := 41) (tgt := 42) B.1 B.2.1 dX6_leastOf_1 (by rcases c3 with e9 | e9 | e9 <;> rw [e9] <;> decide) (by rcases c3 with e9 | e9 | e9 <;> rw [e9] <;> decide) (by rcases c3 with e9 | e9 | e9 <;> rw [e9] <;> rfl) (by decide) ?_
        refine lv_iconst (v := 1) B.1 B.2.1 dX6_leastOf_42 (by decide) ?_
        exact e_i B hr hH hw dX6_leastOf_43
      · replace hw := hw.2.2.2 c1 (fun z => c2 (Or.inl z)) (fun z => c3 (Or.inl z)) (fun z => c2 (Or.inr z)) (fun z => c3 (Or.inr (Or.inl z))) (fun z => c3 (Or.inr (Or.inr z)))
        have t114 := lv_neT (x := a0) (k := 114) (a := 114) c1 (by decide)
        have t115 := lv_neT (x := a0) (k := 115) (a := 115) (fun z => c2 (Or.inl z)) (by decide)
        have t116 := lv_neT (x := a0) (k := 116) (a := 116) (fun z => c3 (Or.inl z)) (by decide)
        have t117 := lv_neT (x := a0) (k := 117) (a := 117) (fun z => c2 (Or.inr z)) (by decide)
        have t118 := lv_neT (x := a0) (k := 118) (a := 118) (fun z => c3 (Or.inr (Or.inl z))) (by decide)
        have t119 := lv_neT (x := a0) (k := 119) (a := 119) (fun z => c3 (Or.inr (Or.inr z))) (by decide)
        refine lv_tableOut (tgt := 44) B.1 B.2.1 dX6_leastOf_1 (by omega) (by decide) ?_
        refine lv_iconst (v := 0) B.1 B.2.1 dX6_leastOf_44 (by decide) ?_
        exact e_i B hr hH hw dX6_leastOf_45
theorem cy_X6_readNumber {s : State} {args : Array Value} (hG : GG s) : CYV s args yX6_readNumber cX6_readNumber 8 (some .boolean) 2 := CYV.of hG (fun _ _ hG => tw_300 hG) (tw_7 hG) (tw_299 hG) (tp_5 hG) (by decide +kernel)
set_option maxRecDepth 100000 in
set_option maxHeartbeats 4000000 in
theorem ct_X6_readNumber {Z : ZT} (hZ : ZO Z) (l : Launch) (a0 : Nat) (a1 : Int32) (a2 : Int32) (h : PH) (sz : Nat) (Q : Int32 → PH → Prop) (k0 : kd a0 = 7) (hw : wp_X6_readNumber a0 a1 a2 h Q) : MI Z l yX6_readNumber cX6_readNumber 8 (some .boolean) ({ frames := 2, cells := 0, slots := 0, locals := 43 } : Room) h sz [.ref (zA Z a0), .int a1, .int a2] Q := by
  refine open_M hZ (by decide +kernel) (by exact Nat.le_of_ble_eq_true rfl) ?_
  intro p e s m below meth c B hr hsz ls hl hH
  subst hsz
  have hl : lv_has ls 8 [(0, .ref (zA Z a0)), (1, .int a1), (2, .int a2)] := hl
  unfold wp_X6_readNumber at hw
  have L41 : ∀ (b0 : Nat) (b1 : Int32) (b3 : Int32) (b4 : Int32), kd b0 = 7 → ∀ (n : Nat) (b5 : Int32) (b6 : Int32) (h : PH), ∀ (H : Heap) (locs : List Loc) (ls : Array Slot), wp_X6_readNumber_b41 b0 b1 b3 b4 Q n b5 b6 h → HH Z s h H locs → lv_has ls 8 [(0, .ref (zA Z b0)), (1, .int b1), (3, .int b3), (4, .int b4), (5, .int b5), (6, .int b6)] → W p l e ({ frames := 2, cells := 0, slots := 0, locals := 43 } : Room) s m ([.ref (zA Z a0), .int a1, .int a2]).toArray below meth c H locs 0 0 (MQ below (va_Qi Q (BZ Z) (fr Z s.heap.size)) ([.ref (zA Z a0), .int a1, .int a2]).toArray s 0 0 (fr Z s.heap.size)) (F0 m 41 ls []) := by
    intro b0 b1 b3 b4 kb0 n
    induction n with
    | zero => intro b5 b6 h H locs ls hw hH hl; exact absurd hw id
    | succ n ih =>
      intro b5 b6 h H locs ls hw hH hl
      unfold wp_X6_readNumber_b41 at hw
      refine lv_iload B.1 B.2.1 dX6_readNumber_41 (lv_at hl 5 rfl) ?_
      refine lv_if_le (tgt := 122) B.1 B.2.1 dX6_readNumber_43 (by decide) (fun c7 => ?_) (fun c7 => ?_)
      · replace hw := hw.1 c7
        refine lv_aload_n B.1 B.2.1 dX6_readNumber_122 rfl (lv_at hl 0 rfl) ?_
        refine r_get B hH (own := RX6) (kd_n B (kb0) (by decide) (by decide)) (ct_7 (kb0)) rfl (ul_7 B.2.2.2.2.1) 1 (by decide) rfl (tw_166 B.2.2.2.2.1) dX6_readNumber_123 ?_
        refine lv_iload_n B.1 B.2.1 dX6_readNumber_126 rfl (lv_at hl 1 rfl) ?_
        refine lv_iload B.1 B.2.1 dX6_readNumber_127 (lv_at hl 4 rfl) ?_
        refine c_SN_V (own := RX6) (As := [.ref (zA Z (b0 + 2)), .int b1, .int b5]) (rest := []) B hH (cy_X7_put B.2.2.2.2.1) (ct_X7_put B.2.2.2.2.2.2.2 l (b0 + 2) b1 b5 h _ _ (kf_7_1 (kb0)) hw) ⟨⟨rfl, rfl⟩, Nat.le_of_ble_eq_true rfl, Nat.le_of_ble_eq_true rfl, Nat.zero_le _, Nat.zero_le _⟩ (tw_307 B.2.2.2.2.1) rfl hl.1 rfl (Nat.le_of_ble_eq_true rfl) dX6_readNumber_129 ?_
        clear hw hH
        intro h8 H locs hw hH
        refine lv_iconst (v := 1) B.1 B.2.1 dX6_readNumber_132 (by decide) ?_
        exact e_z B hr (by decide) hH hw dX6_readNumber_133
      · replace hw := hw.2 c7
        refine lv_aload_n B.1 B.2.1 dX6_readNumber_46 rfl (lv_at hl 0 rfl) ?_
        refine lv_aload_n B.1 B.2.1 dX6_readNumber_47 rfl (lv_at hl 0 rfl) ?_
        refine r_get B hH (own := RX6) (kd_n B (kb0) (by decide) (by decide)) (ct_7 (kb0)) rfl (ul_7 B.2.2.2.2.1) 3 (by decide) rfl (tw_168 B.2.2.2.2.1) dX6_readNumber_48 ?_
        refine c_V_I (own := RX6) (As := [.int (h b0 3)]) (rest := []) B hH (cy_X6_signAt B.2.2.2.2.1) (ct_X6_signAt B.2.2.2.2.2.2.2 l b0 (h b0 3) h _ _ (kb0) hw) ⟨⟨rfl, rfl⟩, Nat.le_of_ble_eq_true rfl, Nat.le_of_ble_eq_true rfl, Nat.zero_le _, Nat.zero_le _⟩ (rv_7 B hH (kb0)) (tw_217 B.2.2.2.2.1) rfl hl.1 rfl (Nat.le_of_ble_eq_true rfl) dX6_readNumber_51 ?_
        clear hw hH
        intro r10 h9 H locs hw hH
        refine lv_bipush (v := 48) B.1 B.2.1 dX6_readNumber_54 (by decide) ?_
        refine lv_isub B.1 B.2.1 dX6_readNumber_56 ?_
        refine lv_topi (fun x11 ex11 => ?_)
        replace hw := hw x11 ex11
        refine lv_istore (lv' := [(7, .int x11), (0, .ref (zA Z b0)), (1, .int b1), (3, .int b3), (4, .int b4), (5, .int b5), (6, .int b6)]) B.1 B.2.1 dX6_readNumber_57 hl (by decide) (by first | rfl | simp [va_re_cat, Value.category]) ?_
        clear hl
        intro ls hl
        refine lv_iload B.1 B.2.1 dX6_readNumber_59 (lv_at hl 0 rfl) ?_
        refine lv_iconst (v := 0) B.1 B.2.1 dX6_readNumber_61 (by decide) ?_
        refine lv_bipush (v := 9) B.1 B.2.1 dX6_readNumber_62 (by decide) ?_
        refine c_SN_I (own := RX6) (As := [.int x11, .int 0, .int 9]) (rest := []) B hH (cy_X7_outside B.2.2.2.2.1) (ct_X7_outside B.2.2.2.2.2.2.2 l x11 0 9 h9 _ _  hw) ⟨⟨rfl, rfl⟩, Nat.le_of_ble_eq_true rfl, Nat.le_of_ble_eq_true rfl, Nat.zero_le _, Nat.zero_le _⟩ (tw_221 B.2.2.2.2.1) rfl hl.1 rfl (Nat.le_of_ble_eq_true rfl) dX6_readNumber_64 ?_
        clear hw hH
        intro r13 h12 H locs hw hH
        refine lv_if_eq (tgt := 72) B.1 B.2.1 dX6_readNumber_67 (by decide) (fun c14 => ?_) (fun c14 => ?_)
        · replace hw := hw.1 c14
          refine lv_iload B.1 B.2.1 dX6_readNumber_72 (lv_at hl 5 rfl) ?_
          refine lv_iload B.1 B.2.1 dX6_readNumber_74 (lv_at hl 0 rfl) ?_
          refine lv_iload B.1 B.2.1 dX6_readNumber_76 (lv_at hl 6 rfl) ?_
          refine lv_imul B.1 B.2.1 dX6_readNumber_78 ?_
          refine lv_iadd B.1 B.2.1 dX6_readNumber_79 ?_
          refine lv_topi (fun x15 ex15 => ?_)
          replace hw := hw x15 ex15
          refine lv_istore (lv' := [(5, .int x15), (7, .int x11), (0, .ref (zA Z b0)), (1, .int b1), (3, .int b3), (4, .int b4), (6, .int b6)]) B.1 B.2.1 dX6_readNumber_80 hl (by decide) (by first | rfl | simp [va_re_cat, Value.category]) ?_
          clear hl
          intro ls hl
          refine lv_iload B.1 B.2.1 dX6_readNumber_82 (lv_at hl 0 rfl) ?_
          refine lv_iload B.1 B.2.1 dX6_readNumber_84 (lv_at hl 5 rfl) ?_
          refine lv_icmp_gt (tgt := 100) B.1 B.2.1 dX6_readNumber_86 (by decide) (fun c16 => ?_) (fun c16 => ?_)
          · replace hw := hw.1 c16
            refine lv_iconst (v := 0) B.1 B.2.1 dX6_readNumber_100 (by decide) ?_
            exact e_z B hr (by decide) hH hw dX6_readNumber_101
          · replace hw := hw.2 c16
            refine lv_iload B.1 B.2.1 dX6_readNumber_89 (lv_at hl 0 rfl) ?_
            refine lv_iload B.1 B.2.1 dX6_readNumber_91 (lv_at hl 6 rfl) ?_
            refine lv_iadd B.1 B.2.1 dX6_readNumber_93 ?_
            refine lv_iconst (v := 1) B.1 B.2.1 dX6_readNumber_94 (by decide) ?_
            refine lv_isub B.1 B.2.1 dX6_readNumber_95 ?_
            refine lv_iload_n B.1 B.2.1 dX6_readNumber_96 rfl (lv_at hl 4 rfl) ?_
            refine lv_icmp_ge (tgt := 102) B.1 B.2.1 dX6_readNumber_97 (by decide) (fun c17 => ?_) (fun c17 => ?_)
            · replace hw := hw.1 c17
              refine lv_aload_n B.1 B.2.1 dX6_readNumber_102 rfl (lv_at hl 2 rfl) ?_
              refine lv_dup B.1 B.2.1 dX6_readNumber_103 rfl ?_
              refine r_get B hH (own := RX6) (kd_n B (kb0) (by decide) (by decide)) (ct_7 (kb0)) rfl (ul_7 B.2.2.2.2.1) 3 (by decide) rfl (tw_168 B.2.2.2.2.1) dX6_readNumber_104 ?_
              refine lv_iconst (v := 1) B.1 B.2.1 dX6_readNumber_107 (by decide) ?_
              refine lv_iadd B.1 B.2.1 dX6_readNumber_108 ?_
              refine r_put B hH (own := RX6) (kd_n B (kb0) (by decide) (by decide)) (ct_7 (kb0)) rfl (ul_7 B.2.2.2.2.1) tyX6 tyX6_ok nmX6 3 (by decide) (ty := .int) rfl rfl rfl rfl (Nat.le_of_ble_eq_true rfl) (cs_7_3 (kb0)) (tw_168 B.2.2.2.2.1) dX6_readNumber_109 ?_
              clear hH
              intro H locs hH
              obtain ⟨h18, eh18⟩ : ∃ z : PH, z = up2 h12 b0 3 ((h12 b0 3) + 1) := ⟨_, rfl⟩
              rw [← eh18] at hH
              replace hw := hw h18 eh18
              refine lv_iload B.1 B.2.1 dX6_readNumber_112 (lv_at hl 6 rfl) ?_
              refine lv_bipush (v := 10) B.1 B.2.1 dX6_readNumber_114 (by decide) ?_
              refine lv_idiv B.1 B.2.1 dX6_readNumber_116 (by decide) ?_
              refine lv_topi (fun x19 ex19 => ?_)
              replace hw := hw x19 ex19
              refine lv_istore (lv' := [(6, .int x19), (5, .int x15), (7, .int x11), (0, .ref (zA Z b0)), (1, .int b1), (3, .int b3), (4, .int b4)]) B.1 B.2.1 dX6_readNumber_117 hl (by decide) (by first | rfl | simp [va_re_cat, Value.category]) ?_
              clear hl
              intro ls hl
              refine lv_goto (tgt := 41) B.1 B.2.1 dX6_readNumber_119 (by decide) ?_
              exact ih x15 x19 h18  _ _ _ hw hH (lv_sub hl [3, 4, 5, 6, 1, 0] rfl)
            · replace hw := hw.2 c17
              refine lv_iconst (v := 0) B.1 B.2.1 dX6_readNumber_100 (by decide) ?_
              exact e_z B hr (by decide) hH hw dX6_readNumber_101
        · replace hw := hw.2 c14
          refine lv_iconst (v := 0) B.1 B.2.1 dX6_readNumber_70 (by decide) ?_
          exact e_z B hr (by decide) hH hw dX6_readNumber_71
  refine lv_iload_n B.1 B.2.1 dX6_readNumber_0 rfl (lv_at hl 2 rfl) ?_
  refine c_S_I (own := RX6) (As := [.int a2]) (rest := []) B hH (cy_X6_leastOf B.2.2.2.2.1) (ct_X6_leastOf B.2.2.2.2.2.2.2 l a2 h _ _  hw) ⟨⟨rfl, rfl⟩, Nat.le_of_ble_eq_true rfl, Nat.le_of_ble_eq_true rfl, Nat.zero_le _, Nat.zero_le _⟩ (tw_301 B.2.2.2.2.1) rfl hl.1 rfl (Nat.le_of_ble_eq_true rfl) dX6_readNumber_1 ?_
  clear hw hH
  intro r2 h1 H locs hw hH
  refine lv_istore_n (lv' := [(3, .int r2), (0, .ref (zA Z a0)), (1, .int a1), (2, .int a2)]) B.1 B.2.1 dX6_readNumber_4 rfl hl (by decide) (by first | rfl | simp [va_re_cat, Value.category]) ?_
  clear hl
  intro ls hl
  refine lv_iload_n B.1 B.2.1 dX6_readNumber_5 rfl (lv_at hl 3 rfl) ?_
  refine c_S_I (own := RX6) (As := [.int a2]) (rest := []) B hH (cy_X6_greatestOf B.2.2.2.2.1) (ct_X6_greatestOf B.2.2.2.2.2.2.2 l a2 h1 _ _  hw) ⟨⟨rfl, rfl⟩, Nat.le_of_ble_eq_true rfl, Nat.le_of_ble_eq_true rfl, Nat.zero_le _, Nat.zero_le _⟩ (tw_304 B.2.2.2.2.1) rfl hl.1 rfl (Nat.le_of_ble_eq_true rfl) dX6_readNumber_6 ?_
  clear hw hH
  intro r4 h3 H locs hw hH
  refine lv_istore (lv' := [(4, .int r4), (3, .int r2), (0, .ref (zA Z a0)), (1, .int a1), (2, .int a2)]) B.1 B.2.1 dX6_readNumber_9 hl (by decide) (by first | rfl | simp [va_re_cat, Value.category]) ?_
  clear hl
  intro ls hl
  refine lv_iconst (v := 0) B.1 B.2.1 dX6_readNumber_11 (by decide) ?_
  refine lv_istore (lv' := [(5, .int 0), (4, .int r4), (3, .int r2), (0, .ref (zA Z a0)), (1, .int a1), (2, .int a2)]) B.1 B.2.1 dX6_readNumber_12 hl (by decide) (by first | rfl | simp [va_re_cat, Value.category]) ?_
  clear hl
  intro ls hl
  refine lv_iload B.1 B.2.1 dX6_readNumber_14 (lv_at hl 1 rfl) ?_
  refine lv_bipush (v := 99) B.1 B.2.1 dX6_readNumber_16 (by decide) ?_
  refine lv_icmp_le (tgt := 26) B.1 B.2.1 dX6_readNumber_18 (by decide) (fun c5 => ?_) (fun c5 => ?_)
  · replace hw := hw.1 c5
    refine lv_iload B.1 B.2.1 dX6_readNumber_26 (lv_at hl 1 rfl) ?_
    refine lv_bipush (v := 9) B.1 B.2.1 dX6_readNumber_28 (by decide) ?_
    refine lv_icmp_le (tgt := 38) B.1 B.2.1 dX6_readNumber_30 (by decide) (fun c6 => ?_) (fun c6 => ?_)
    · replace hw := hw.1 c6
      refine lv_iconst (v := 1) B.1 B.2.1 dX6_readNumber_38 (by decide) ?_
      refine lv_istore (lv' := [(6, .int 1), (5, .int 0), (4, .int r4), (3, .int r2), (0, .ref (zA Z a0)), (1, .int a1), (2, .int a2)]) B.1 B.2.1 dX6_readNumber_39 hl (by decide) (by first | rfl | simp [va_re_cat, Value.category]) ?_
      clear hl
      intro ls hl
      obtain ⟨n20, hw⟩ := hw
      exact L41 a0 a1 r2 r4 (k0) n20 0 1 h3  _ _ _ hw hH (lv_sub hl [4, 5, 3, 2, 1, 0] rfl)
    · replace hw := hw.2 c6
      refine lv_bipush (v := 10) B.1 B.2.1 dX6_readNumber_33 (by decide) ?_
      refine lv_goto (tgt := 39) B.1 B.2.1 dX6_readNumber_35 (by decide) ?_
      refine lv_istore (lv' := [(6, .int 10), (5, .int 0), (4, .int r4), (3, .int r2), (0, .ref (zA Z a0)), (1, .int a1), (2, .int a2)]) B.1 B.2.1 dX6_readNumber_39 hl (by decide) (by first | rfl | simp [va_re_cat, Value.category]) ?_
      clear hl
      intro ls hl
      obtain ⟨n21, hw⟩ := hw
      exact L41 a0 a1 r2 r4 (k0) n21 0 10 h3  _ _ _ hw hH (lv_sub hl [4, 5, 3, 2, 1, 0] rfl)
  · replace hw := hw.2 c5
    refine lv_bipush (v := 100) B.1 B.2.1 dX6_readNumber_21 (by decide) ?_
    refine lv_goto (tgt := 39) B.1 B.2.1 dX6_readNumber_23 (by decide) ?_
    refine lv_istore (lv' := [(6, .int 100), (5, .int 0), (4, .int r4), (3, .int r2), (0, .ref (zA Z a0)), (1, .int a1), (2, .int a2)]) B.1 B.2.1 dX6_readNumber_39 hl (by decide) (by first | rfl | simp [va_re_cat, Value.category]) ?_
    clear hl
    intro ls hl
    obtain ⟨n22, hw⟩ := hw
    exact L41 a0 a1 r2 r4 (k0) n22 0 100 h3  _ _ _ hw hH (lv_sub hl [4, 5, 3, 2, 1, 0] rfl)
theorem cy_X7_clearText {s : State} {args : Array Value} (hG : GG s) : CYV s args yX7_clearText cX7_clearText 1 (some .int) 0 := CYV.of hG (fun _ _ hG => tw_204 hG) (tw_1 hG) (tw_202 hG) (tw_203 hG) (by decide +kernel)
set_option maxRecDepth 100000 in
set_option maxHeartbeats 4000000 in
theorem ct_X7_clearText {Z : ZT} (hZ : ZO Z) (l : Launch) (a0 : Nat) (h : PH) (sz : Nat) (Q : Int32 → PH → Prop) (k0 : kd a0 = 1) (hw : wp_X7_clearText a0 h Q) : MI Z l yX7_clearText cX7_clearText 1 (some .int) ({ frames := 1, cells := 0, slots := 0, locals := 21 } : Room) h sz [.ref (zA Z a0)] Q := by
  refine open_M hZ (by decide +kernel) (by exact Nat.le_of_ble_eq_true rfl) ?_
  intro p e s m below meth c B hr hsz ls hl hH
  subst hsz
  have hl : lv_has ls 1 [(0, .ref (zA Z a0))] := hl
  unfold wp_X7_clearText at hw
  refine lv_aload_n B.1 B.2.1 dX7_clearText_0 rfl (lv_at hl 0 rfl) ?_
  refine r_get B hH (own := RX7) (kd_n B (k0) (by decide) (by decide)) (ct_1 (k0)) rfl (ul_1 B.2.2.2.2.1) 5 (by decide) rfl (tw_187 B.2.2.2.2.1) dX7_clearText_1 ?_
  refine c_VN_I (own := RX7) (As := []) (rest := []) B hH (cy_X6_empty B.2.2.2.2.1) (ct_X6_empty B.2.2.2.2.2.2.2 l (a0 + 341) h _ _ (kf_1_5 (k0)) hw) ⟨⟨rfl, rfl⟩, Nat.le_of_ble_eq_true rfl, Nat.le_of_ble_eq_true rfl, Nat.zero_le _, Nat.zero_le _⟩ (rv_7 B hH (kf_1_5 (k0))) (tw_205 B.2.2.2.2.1) rfl hl.1 rfl (Nat.le_of_ble_eq_true rfl) dX7_clearText_4 ?_
  clear hw hH
  intro r2 h1 H locs hw hH
  exact e_i B hr hH hw dX7_clearText_7
theorem cy_X7_meetAll {s : State} {args : Array Value} (hG : GG s) : CYV s args yX7_meetAll cX7_meetAll 1 (some .int) 0 := CYV.of hG (fun _ _ hG => tw_314 hG) (tw_1 hG) (tw_312 hG) (tw_313 hG) (by decide +kernel)
set_option maxRecDepth 100000 in
set_option maxHeartbeats 4000000 in
theorem ct_X7_meetAll {Z : ZT} (hZ : ZO Z) (l : Launch) (a0 : Nat) (h : PH) (sz : Nat) (Q : Int32 → PH → Prop) (k0 : kd a0 = 1) (hw : wp_X7_meetAll a0 h Q) : MI Z l yX7_meetAll cX7_meetAll 1 (some .int) ({ frames := 4, cells := 0, slots := 0, locals := 105 } : Room) h sz [.ref (zA Z a0)] Q := by
  refine open_M hZ (by decide +kernel) (by exact Nat.le_of_ble_eq_true rfl) ?_
  intro p e s m below meth c B hr hsz ls hl hH
  subst hsz
  have hl : lv_has ls 1 [(0, .ref (zA Z a0))] := hl
  unfold wp_X7_meetAll at hw
  refine lv_aload_n B.1 B.2.1 dX7_meetAll_0 rfl (lv_at hl 0 rfl) ?_
  refine r_get B hH (own := RX7) (kd_n B (k0) (by decide) (by decide)) (ct_1 (k0)) rfl (ul_1 B.2.2.2.2.1) 0 (by decide) rfl (tw_182 B.2.2.2.2.1) dX7_meetAll_1 ?_
  refine c_SN_I (own := RX7) (As := [.ref (zA Z (a0 + 1))]) (rest := []) B hH (cy_X1_ofAll B.2.2.2.2.1) (ct_X1_ofAll B.2.2.2.2.2.2.2 l (a0 + 1) h _ _ (kf_1_0 (k0)) hw) ⟨⟨rfl, rfl⟩, Nat.le_of_ble_eq_true rfl, Nat.le_of_ble_eq_true rfl, Nat.zero_le _, Nat.zero_le _⟩ (tw_315 B.2.2.2.2.1) rfl hl.1 rfl (Nat.le_of_ble_eq_true rfl) dX7_meetAll_4 ?_
  clear hw hH
  intro r2 h1 H locs hw hH
  exact e_i B hr hH hw dX7_meetAll_7
theorem cy_X7_takeTurn {s : State} {args : Array Value} (hG : GG s) : CYV s args yX7_takeTurn cX7_takeTurn 3 none 1 := CYV.of hG (fun _ _ hG => tw_936 hG) (tw_1 hG) (tw_935 hG) (tp_60 hG) (by decide +kernel)
set_option maxRecDepth 100000 in
set_option maxHeartbeats 4000000 in
theorem ct_X7_takeTurn {Z : ZT} (hZ : ZO Z) (l : Launch) (a0 : Nat) (a1 : Int32) (h : PH) (sz : Nat) (Q : PH → Prop) (k0 : kd a0 = 1) (hw : wp_X7_takeTurn a0 a1 h Q) : MV Z l yX7_takeTurn cX7_takeTurn 3 none ({ frames := 6, cells := 0, slots := 0, locals := 142 } : Room) h sz [.ref (zA Z a0), .int a1] Q := by
  refine open_M hZ (by decide +kernel) (by exact Nat.le_of_ble_eq_true rfl) ?_
  intro p e s m below meth c B hr hsz ls hl hH
  subst hsz
  have hl : lv_has ls 3 [(0, .ref (zA Z a0)), (1, .int a1)] := hl
  unfold wp_X7_takeTurn at hw
  refine lv_iload_n B.1 B.2.1 dX7_takeTurn_0 rfl (lv_at hl 1 rfl) ?_
  refine lv_bipush (v := 16) B.1 B.2.1 dX7_takeTurn_1 (by decide) ?_
  refine lv_idiv B.1 B.2.1 dX7_takeTurn_3 (by decide) ?_
  refine lv_topi (fun x1 ex1 => ?_)
  replace hw := hw x1 ex1
  refine lv_istore_n (lv' := [(2, .int x1), (0, .ref (zA Z a0)), (1, .int a1)]) B.1 B.2.1 dX7_takeTurn_4 rfl hl (by decide) (by first | rfl | simp [va_re_cat, Value.category]) ?_
  clear hl
  intro ls hl
  refine lv_iload_n B.1 B.2.1 dX7_takeTurn_5 rfl (lv_at hl 2 rfl) ?_
  refine lv_bipush (v := 16) B.1 B.2.1 dX7_takeTurn_6 (by decide) ?_
  refine x_irem B dX7_takeTurn_8 (by decide) ?_
  refine lv_topi (fun x2 ex2 => ?_)
  replace hw := hw x2 ex2
  by_cases c3 : (x2 = 0)
  · replace hw := hw.1 c3
    refine lv_tableIn (off := 63) (tgt := 72) B.1 B.2.1 dX7_takeTurn_9 (by rw [c3]; decide) (by rw [c3]; decide) (by rw [c3]; rfl) (by decide) ?_
    refine lv_aload_n B.1 B.2.1 dX7_takeTurn_72 rfl (lv_at hl 1 rfl) ?_
    refine r_get B hH (own := RX7) (kd_n B (k0) (by decide) (by decide)) (ct_1 (k0)) rfl (ul_1 B.2.2.2.2.1) 1 (by decide) rfl (tw_183 B.2.2.2.2.1) dX7_takeTurn_73 ?_
    refine lv_bipush (v := 114) B.1 B.2.1 dX7_takeTurn_76 (by decide) ?_
    refine lv_iconst (v := 2) B.1 B.2.1 dX7_takeTurn_78 (by decide) ?_
    refine lv_iload_n B.1 B.2.1 dX7_takeTurn_79 rfl (lv_at hl 0 rfl) ?_
    refine lv_bipush (v := 59) B.1 B.2.1 dX7_takeTurn_80 (by decide) ?_
    refine x_irem B dX7_takeTurn_82 (by decide) ?_
    refine lv_iadd B.1 B.2.1 dX7_takeTurn_83 ?_
    refine lv_iconst (v := 0) B.1 B.2.1 dX7_takeTurn_84 (by decide) ?_
    refine lv_iconst (v := 0) B.1 B.2.1 dX7_takeTurn_85 (by decide) ?_
    refine lv_iconst (v := 0) B.1 B.2.1 dX7_takeTurn_86 (by decide) ?_
    refine c_VN_I (own := RX7) (As := [.int 114, .int (2 + (jirem x1 59)), .int 0, .int 0, .int 0]) (rest := []) B hH (cy_X5_perform B.2.2.2.2.1) (ct_X5_perform B.2.2.2.2.2.2.2 l (a0 + 22) 114 (2 + (jirem x1 59)) 0 0 0 h _ _ (kf_1_1 (k0)) hw) ⟨⟨rfl, rfl⟩, Nat.le_of_ble_eq_true rfl, Nat.le_of_ble_eq_true rfl, Nat.zero_le _, Nat.zero_le _⟩ (rv_2 B hH (kf_1_1 (k0))) (tw_475 B.2.2.2.2.1) rfl hl.1 rfl (Nat.le_of_ble_eq_true rfl) dX7_takeTurn_87 ?_
    clear hw hH
    intro r5 h4 H locs hw hH
    refine lv_pop B.1 B.2.1 dX7_takeTurn_90 rfl ?_
    refine lv_goto (tgt := 332) B.1 B.2.1 dX7_takeTurn_91 (by decide) ?_
    exact e_v B hr hH hw dX7_takeTurn_332
  · by_cases c6 : (x2 = 1)
    · replace hw := hw.2.1 c6
      refine lv_tableIn (off := 85) (tgt := 94) B.1 B.2.1 dX7_takeTurn_9 (by rw [c6]; decide) (by rw [c6]; decide) (by rw [c6]; rfl) (by decide) ?_
      refine lv_aload_n B.1 B.2.1 dX7_takeTurn_94 rfl (lv_at hl 1 rfl) ?_
      refine r_get B hH (own := RX7) (kd_n B (k0) (by decide) (by decide)) (ct_1 (k0)) rfl (ul_1 B.2.2.2.2.1) 1 (by decide) rfl (tw_183 B.2.2.2.2.1) dX7_takeTurn_95 ?_
      refine lv_bipush (v := 108) B.1 B.2.1 dX7_takeTurn_98 (by decide) ?_
      refine lv_iconst (v := 0) B.1 B.2.1 dX7_takeTurn_100 (by decide) ?_
      refine lv_iconst (v := 0) B.1 B.2.1 dX7_takeTurn_101 (by decide) ?_
      refine lv_iconst (v := 0) B.1 B.2.1 dX7_takeTurn_102 (by decide) ?_
      refine lv_iconst (v := 0) B.1 B.2.1 dX7_takeTurn_103 (by decide) ?_
      refine c_VN_I (own := RX7) (As := [.int 108, .int 0, .int 0, .int 0, .int 0]) (rest := []) B hH (cy_X5_perform B.2.2.2.2.1) (ct_X5_perform B.2.2.2.2.2.2.2 l (a0 + 22) 108 0 0 0 0 h _ _ (kf_1_1 (k0)) hw) ⟨⟨rfl, rfl⟩, Nat.le_of_ble_eq_true rfl, Nat.le_of_ble_eq_true rfl, Nat.zero_le _, Nat.zero_le _⟩ (rv_2 B hH (kf_1_1 (k0))) (tw_475 B.2.2.2.2.1) rfl hl.1 rfl (Nat.le_of_ble_eq_true rfl) dX7_takeTurn_104 ?_
      clear hw hH
      intro r8 h7 H locs hw hH
      refine lv_pop B.1 B.2.1 dX7_takeTurn_107 rfl ?_
      refine lv_goto (tgt := 332) B.1 B.2.1 dX7_takeTurn_108 (by decide) ?_
      exact e_v B hr hH hw dX7_takeTurn_332
    · by_cases c9 : (x2 = 2 ∨ x2 = 3 ∨ x2 = 4)
      · replace hw := hw.2.2.1 c9
        refine lv_tableIn (off := 102) (tgt := 111) B.1 B.2.1 dX7_takeTurn_9 (by rcases c9 with e9 | e9 | e9 <;> rw [e9] <;> decide) (by rcases c9 with e9 | e9 | e9 <;> rw [e9] <;> decide) (by rcases c9 with e9 | e9 | e9 <;> rw [e9] <;> rfl) (by decide) ?_
        refine lv_aload_n B.1 B.2.1 dX7_takeTurn_111 rfl (lv_at hl 1 rfl) ?_
        refine r_get B hH (own := RX7) (kd_n B (k0) (by decide) (by decide)) (ct_1 (k0)) rfl (ul_1 B.2.2.2.2.1) 1 (by decide) rfl (tw_183 B.2.2.2.2.1) dX7_takeTurn_112 ?_
        refine lv_bipush (v := 112) B.1 B.2.1 dX7_takeTurn_115 (by decide) ?_
        refine lv_iload_n B.1 B.2.1 dX7_takeTurn_117 rfl (lv_at hl 0 rfl) ?_
        refine lv_iconst (v := 3) B.1 B.2.1 dX7_takeTurn_118 (by decide) ?_
        refine x_irem B dX7_takeTurn_119 (by decide) ?_
        refine lv_iload_n B.1 B.2.1 dX7_takeTurn_120 rfl (lv_at hl 0 rfl) ?_
        refine lv_iconst (v := 4) B.1 B.2.1 dX7_takeTurn_121 (by decide) ?_
        refine lv_idiv B.1 B.2.1 dX7_takeTurn_122 (by decide) ?_
        refine lv_bipush (v := 60) B.1 B.2.1 dX7_takeTurn_123 (by decide) ?_
        refine x_irem B dX7_takeTurn_125 (by decide) ?_
        refine lv_iload_n B.1 B.2.1 dX7_takeTurn_126 rfl (lv_at hl 0 rfl) ?_
        refine lv_iconst (v := 4) B.1 B.2.1 dX7_takeTurn_127 (by decide) ?_
        refine lv_idiv B.1 B.2.1 dX7_takeTurn_128 (by decide) ?_
        refine lv_bipush (v := 60) B.1 B.2.1 dX7_takeTurn_129 (by decide) ?_
        refine x_irem B dX7_takeTurn_131 (by decide) ?_
        refine lv_iload_n B.1 B.2.1 dX7_takeTurn_132 rfl (lv_at hl 0 rfl) ?_
        refine lv_sipush (v := 256) B.1 B.2.1 dX7_takeTurn_133 (by decide) ?_
        refine lv_idiv B.1 B.2.1 dX7_takeTurn_136 (by decide) ?_
        refine lv_bipush (v := 8) B.1 B.2.1 dX7_takeTurn_137 (by decide) ?_
        refine x_irem B dX7_takeTurn_139 (by decide) ?_
        refine lv_iadd B.1 B.2.1 dX7_takeTurn_140 ?_
        refine lv_iload_n B.1 B.2.1 dX7_takeTurn_141 rfl (lv_at hl 0 rfl) ?_
        refine lv_sipush (v := 2048) B.1 B.2.1 dX7_takeTurn_142 (by decide) ?_
        refine lv_idiv B.1 B.2.1 dX7_takeTurn_145 (by decide) ?_
        refine lv_bipush (v := 10) B.1 B.2.1 dX7_takeTurn_146 (by decide) ?_
        refine x_irem B dX7_takeTurn_148 (by decide) ?_
        refine c_VN_I (own := RX7) (As := [.int 112, .int (jirem x1 3), .int (jirem (x1 / 4) 60), .int ((jirem (x1 / 4) 60) + (jirem (x1 / 256) 8)), .int (jirem (x1 / 2048) 10)]) (rest := []) B hH (cy_X5_perform B.2.2.2.2.1) (ct_X5_perform B.2.2.2.2.2.2.2 l (a0 + 22) 112 (jirem x1 3) (jirem (x1 / 4) 60) ((jirem (x1 / 4) 60) + (jirem (x1 / 256) 8)) (jirem (x1 / 2048) 10) h _ _ (kf_1_1 (k0)) hw) ⟨⟨rfl, rfl⟩, Nat.le_of_ble_eq_true rfl, Nat.le_of_ble_eq_true rfl, Nat.zero_le _, Nat.zero_le _⟩ (rv_2 B hH (kf_1_1 (k0))) (tw_475 B.2.2.2.2.1) rfl hl.1 rfl (Nat.le_of_ble_eq_true rfl) dX7_takeTurn_149 ?_
        clear hw hH
        intro r11 h10 H locs hw hH
        refine lv_pop B.1 B.2.1 dX7_takeTurn_152 rfl ?_
        refine lv_goto (tgt := 332) B.1 B.2.1 dX7_takeTurn_153 (by decide) ?_
        exact e_v B hr hH hw dX7_takeTurn_332
      · by_cases c12 : (x2 = 5 ∨ x2 = 6 ∨ x2 = 7 ∨ x2 = 8)
        · replace hw := hw.2.2.2.1 c12
          refine lv_tableIn (off := 147) (tgt := 156) B.1 B.2.1 dX7_takeTurn_9 (by rcases c12 with e9 | e9 | e9 | e9 <;> rw [e9] <;> decide) (by rcases c12 with e9 | e9 | e9 | e9 <;> rw [e9] <;> decide) (by rcases c12 with e9 | e9 | e9 | e9 <;> rw [e9] <;> rfl) (by decide) ?_
          refine lv_aload_n B.1 B.2.1 dX7_takeTurn_156 rfl (lv_at hl 1 rfl) ?_
          refine r_get B hH (own := RX7) (kd_n B (k0) (by decide) (by decide)) (ct_1 (k0)) rfl (ul_1 B.2.2.2.2.1) 1 (by decide) rfl (tw_183 B.2.2.2.2.1) dX7_takeTurn_157 ?_
          refine lv_bipush (v := 99) B.1 B.2.1 dX7_takeTurn_160 (by decide) ?_
          refine lv_iload_n B.1 B.2.1 dX7_takeTurn_162 rfl (lv_at hl 0 rfl) ?_
          refine lv_iconst (v := 4) B.1 B.2.1 dX7_takeTurn_163 (by decide) ?_
          refine x_irem B dX7_takeTurn_164 (by decide) ?_
          refine lv_iload_n B.1 B.2.1 dX7_takeTurn_165 rfl (lv_at hl 0 rfl) ?_
          refine lv_iconst (v := 4) B.1 B.2.1 dX7_takeTurn_166 (by decide) ?_
          refine lv_idiv B.1 B.2.1 dX7_takeTurn_167 (by decide) ?_
          refine lv_iconst (v := 3) B.1 B.2.1 dX7_takeTurn_168 (by decide) ?_
          refine x_irem B dX7_takeTurn_169 (by decide) ?_
          refine lv_iload_n B.1 B.2.1 dX7_takeTurn_170 rfl (lv_at hl 0 rfl) ?_
          refine lv_bipush (v := 16) B.1 B.2.1 dX7_takeTurn_171 (by decide) ?_
          refine lv_idiv B.1 B.2.1 dX7_takeTurn_173 (by decide) ?_
          refine lv_bipush (v := 61) B.1 B.2.1 dX7_takeTurn_174 (by decide) ?_
          refine x_irem B dX7_takeTurn_176 (by decide) ?_
          refine lv_iload_n B.1 B.2.1 dX7_takeTurn_177 rfl (lv_at hl 0 rfl) ?_
          refine lv_bipush (v := 16) B.1 B.2.1 dX7_takeTurn_178 (by decide) ?_
          refine lv_idiv B.1 B.2.1 dX7_takeTurn_180 (by decide) ?_
          refine lv_bipush (v := 61) B.1 B.2.1 dX7_takeTurn_181 (by decide) ?_
          refine x_irem B dX7_takeTurn_183 (by decide) ?_
          refine lv_iconst (v := 1) B.1 B.2.1 dX7_takeTurn_184 (by decide) ?_
          refine lv_iadd B.1 B.2.1 dX7_takeTurn_185 ?_
          refine lv_iload_n B.1 B.2.1 dX7_takeTurn_186 rfl (lv_at hl 0 rfl) ?_
          refine lv_sipush (v := 1024) B.1 B.2.1 dX7_takeTurn_187 (by decide) ?_
          refine lv_idiv B.1 B.2.1 dX7_takeTurn_190 (by decide) ?_
          refine lv_bipush (v := 20) B.1 B.2.1 dX7_takeTurn_191 (by decide) ?_
          refine x_irem B dX7_takeTurn_193 (by decide) ?_
          refine lv_iadd B.1 B.2.1 dX7_takeTurn_194 ?_
          refine c_VN_I (own := RX7) (As := [.int 99, .int (jirem x1 4), .int (jirem (x1 / 4) 3), .int (jirem (x1 / 16) 61), .int (((jirem (x1 / 16) 61) + 1) + (jirem (x1 / 1024) 20))]) (rest := []) B hH (cy_X5_perform B.2.2.2.2.1) (ct_X5_perform B.2.2.2.2.2.2.2 l (a0 + 22) 99 (jirem x1 4) (jirem (x1 / 4) 3) (jirem (x1 / 16) 61) (((jirem (x1 / 16) 61) + 1) + (jirem (x1 / 1024) 20)) h _ _ (kf_1_1 (k0)) hw) ⟨⟨rfl, rfl⟩, Nat.le_of_ble_eq_true rfl, Nat.le_of_ble_eq_true rfl, Nat.zero_le _, Nat.zero_le _⟩ (rv_2 B hH (kf_1_1 (k0))) (tw_475 B.2.2.2.2.1) rfl hl.1 rfl (Nat.le_of_ble_eq_true rfl) dX7_takeTurn_195 ?_
          clear hw hH
          intro r14 h13 H locs hw hH
          refine lv_pop B.1 B.2.1 dX7_takeTurn_198 rfl ?_
          refine lv_goto (tgt := 332) B.1 B.2.1 dX7_takeTurn_199 (by decide) ?_
          exact e_v B hr hH hw dX7_takeTurn_332
        · by_cases c15 : (x2 = 9)
          · replace hw := hw.2.2.2.2.1 c15
            refine lv_tableIn (off := 193) (tgt := 202) B.1 B.2.1 dX7_takeTurn_9 (by rw [c15]; decide) (by rw [c15]; decide) (by rw [c15]; rfl) (by decide) ?_
            refine lv_aload_n B.1 B.2.1 dX7_takeTurn_202 rfl (lv_at hl 1 rfl) ?_
            refine r_get B hH (own := RX7) (kd_n B (k0) (by decide) (by decide)) (ct_1 (k0)) rfl (ul_1 B.2.2.2.2.1) 1 (by decide) rfl (tw_183 B.2.2.2.2.1) dX7_takeTurn_203 ?_
            refine lv_bipush (v := 118) B.1 B.2.1 dX7_takeTurn_206 (by decide) ?_
            refine lv_iload_n B.1 B.2.1 dX7_takeTurn_208 rfl (lv_at hl 0 rfl) ?_
            refine lv_iconst (v := 4) B.1 B.2.1 dX7_takeTurn_209 (by decide) ?_
            refine x_irem B dX7_takeTurn_210 (by decide) ?_
            refine lv_iconst (v := 1) B.1 B.2.1 dX7_takeTurn_211 (by decide) ?_
            refine lv_iload_n B.1 B.2.1 dX7_takeTurn_212 rfl (lv_at hl 0 rfl) ?_
            refine lv_iconst (v := 4) B.1 B.2.1 dX7_takeTurn_213 (by decide) ?_
            refine lv_idiv B.1 B.2.1 dX7_takeTurn_214 (by decide) ?_
            refine lv_bipush (v := 9) B.1 B.2.1 dX7_takeTurn_215 (by decide) ?_
            refine x_irem B dX7_takeTurn_217 (by decide) ?_
            refine lv_iadd B.1 B.2.1 dX7_takeTurn_218 ?_
            refine lv_iconst (v := 1) B.1 B.2.1 dX7_takeTurn_219 (by decide) ?_
            refine lv_iload_n B.1 B.2.1 dX7_takeTurn_220 rfl (lv_at hl 0 rfl) ?_
            refine lv_bipush (v := 64) B.1 B.2.1 dX7_takeTurn_221 (by decide) ?_
            refine lv_idiv B.1 B.2.1 dX7_takeTurn_223 (by decide) ?_
            refine lv_bipush (v := 9) B.1 B.2.1 dX7_takeTurn_224 (by decide) ?_
            refine x_irem B dX7_takeTurn_226 (by decide) ?_
            refine lv_iadd B.1 B.2.1 dX7_takeTurn_227 ?_
            refine lv_iconst (v := 0) B.1 B.2.1 dX7_takeTurn_228 (by decide) ?_
            refine c_VN_I (own := RX7) (As := [.int 118, .int (jirem x1 4), .int (1 + (jirem (x1 / 4) 9)), .int (1 + (jirem (x1 / 64) 9)), .int 0]) (rest := []) B hH (cy_X5_perform B.2.2.2.2.1) (ct_X5_perform B.2.2.2.2.2.2.2 l (a0 + 22) 118 (jirem x1 4) (1 + (jirem (x1 / 4) 9)) (1 + (jirem (x1 / 64) 9)) 0 h _ _ (kf_1_1 (k0)) hw) ⟨⟨rfl, rfl⟩, Nat.le_of_ble_eq_true rfl, Nat.le_of_ble_eq_true rfl, Nat.zero_le _, Nat.zero_le _⟩ (rv_2 B hH (kf_1_1 (k0))) (tw_475 B.2.2.2.2.1) rfl hl.1 rfl (Nat.le_of_ble_eq_true rfl) dX7_takeTurn_229 ?_
            clear hw hH
            intro r17 h16 H locs hw hH
            refine lv_pop B.1 B.2.1 dX7_takeTurn_232 rfl ?_
            refine lv_goto (tgt := 332) B.1 B.2.1 dX7_takeTurn_233 (by decide) ?_
            exact e_v B hr hH hw dX7_takeTurn_332
          · by_cases c18 : (x2 = 10)
            · replace hw := hw.2.2.2.2.2.1 c18
              refine lv_tableIn (off := 227) (tgt := 236) B.1 B.2.1 dX7_takeTurn_9 (by rw [c18]; decide) (by rw [c18]; decide) (by rw [c18]; rfl) (by decide) ?_
              refine lv_iload_n B.1 B.2.1 dX7_takeTurn_236 rfl (lv_at hl 0 rfl) ?_
              refine lv_bipush (v := 8) B.1 B.2.1 dX7_takeTurn_237 (by decide) ?_
              refine lv_idiv B.1 B.2.1 dX7_takeTurn_239 (by decide) ?_
              refine lv_iconst (v := 2) B.1 B.2.1 dX7_takeTurn_240 (by decide) ?_
              refine x_irem B dX7_takeTurn_241 (by decide) ?_
              refine lv_if_ne (tgt := 268) B.1 B.2.1 dX7_takeTurn_242 (by decide) (fun c19 => ?_) (fun c19 => ?_)
              · replace hw := hw.1 c19
                refine lv_aload_n B.1 B.2.1 dX7_takeTurn_268 rfl (lv_at hl 1 rfl) ?_
                refine r_get B hH (own := RX7) (kd_n B (k0) (by decide) (by decide)) (ct_1 (k0)) rfl (ul_1 B.2.2.2.2.1) 1 (by decide) rfl (tw_183 B.2.2.2.2.1) dX7_takeTurn_269 ?_
                refine lv_bipush (v := 117) B.1 B.2.1 dX7_takeTurn_272 (by decide) ?_
                refine lv_iload_n B.1 B.2.1 dX7_takeTurn_274 rfl (lv_at hl 0 rfl) ?_
                refine lv_iconst (v := 4) B.1 B.2.1 dX7_takeTurn_275 (by decide) ?_
                refine x_irem B dX7_takeTurn_276 (by decide) ?_
                refine lv_iconst (v := 0) B.1 B.2.1 dX7_takeTurn_277 (by decide) ?_
                refine lv_iconst (v := 0) B.1 B.2.1 dX7_takeTurn_278 (by decide) ?_
                refine lv_iconst (v := 0) B.1 B.2.1 dX7_takeTurn_279 (by decide) ?_
                refine c_VN_I (own := RX7) (As := [.int 117, .int (jirem x1 4), .int 0, .int 0, .int 0]) (rest := []) B hH (cy_X5_perform B.2.2.2.2.1) (ct_X5_perform B.2.2.2.2.2.2.2 l (a0 + 22) 117 (jirem x1 4) 0 0 0 h _ _ (kf_1_1 (k0)) hw) ⟨⟨rfl, rfl⟩, Nat.le_of_ble_eq_true rfl, Nat.le_of_ble_eq_true rfl, Nat.zero_le _, Nat.zero_le _⟩ (rv_2 B hH (kf_1_1 (k0))) (tw_475 B.2.2.2.2.1) rfl hl.1 rfl (Nat.le_of_ble_eq_true rfl) dX7_takeTurn_280 ?_
                clear hw hH
                intro r21 h20 H locs hw hH
                refine lv_pop B.1 B.2.1 dX7_takeTurn_283 rfl ?_
                refine lv_goto (tgt := 332) B.1 B.2.1 dX7_takeTurn_284 (by decide) ?_
                exact e_v B hr hH hw dX7_takeTurn_332
              · replace hw := hw.2 c19
                refine lv_aload_n B.1 B.2.1 dX7_takeTurn_245 rfl (lv_at hl 1 rfl) ?_
                refine r_get B hH (own := RX7) (kd_n B (k0) (by decide) (by decide)) (ct_1 (k0)) rfl (ul_1 B.2.2.2.2.1) 1 (by decide) rfl (tw_183 B.2.2.2.2.1) dX7_takeTurn_246 ?_
                refine lv_bipush (v := 109) B.1 B.2.1 dX7_takeTurn_249 (by decide) ?_
                refine lv_iload_n B.1 B.2.1 dX7_takeTurn_251 rfl (lv_at hl 0 rfl) ?_
                refine lv_iconst (v := 4) B.1 B.2.1 dX7_takeTurn_252 (by decide) ?_
                refine x_irem B dX7_takeTurn_253 (by decide) ?_
                refine lv_iload_n B.1 B.2.1 dX7_takeTurn_254 rfl (lv_at hl 0 rfl) ?_
                refine lv_iconst (v := 4) B.1 B.2.1 dX7_takeTurn_255 (by decide) ?_
                refine lv_idiv B.1 B.2.1 dX7_takeTurn_256 (by decide) ?_
                refine lv_iconst (v := 2) B.1 B.2.1 dX7_takeTurn_257 (by decide) ?_
                refine x_irem B dX7_takeTurn_258 (by decide) ?_
                refine lv_iconst (v := 0) B.1 B.2.1 dX7_takeTurn_259 (by decide) ?_
                refine lv_iconst (v := 0) B.1 B.2.1 dX7_takeTurn_260 (by decide) ?_
                refine c_VN_I (own := RX7) (As := [.int 109, .int (jirem x1 4), .int (jirem (x1 / 4) 2), .int 0, .int 0]) (rest := []) B hH (cy_X5_perform B.2.2.2.2.1) (ct_X5_perform B.2.2.2.2.2.2.2 l (a0 + 22) 109 (jirem x1 4) (jirem (x1 / 4) 2) 0 0 h _ _ (kf_1_1 (k0)) hw) ⟨⟨rfl, rfl⟩, Nat.le_of_ble_eq_true rfl, Nat.le_of_ble_eq_true rfl, Nat.zero_le _, Nat.zero_le _⟩ (rv_2 B hH (kf_1_1 (k0))) (tw_475 B.2.2.2.2.1) rfl hl.1 rfl (Nat.le_of_ble_eq_true rfl) dX7_takeTurn_261 ?_
                clear hw hH
                intro r23 h22 H locs hw hH
                refine lv_pop B.1 B.2.1 dX7_takeTurn_264 rfl ?_
                refine lv_goto (tgt := 332) B.1 B.2.1 dX7_takeTurn_265 (by decide) ?_
                exact e_v B hr hH hw dX7_takeTurn_332
            · by_cases c24 : (x2 = 11)
              · replace hw := hw.2.2.2.2.2.2.1 c24
                refine lv_tableIn (off := 278) (tgt := 287) B.1 B.2.1 dX7_takeTurn_9 (by rw [c24]; decide) (by rw [c24]; decide) (by rw [c24]; rfl) (by decide) ?_
                refine lv_aload_n B.1 B.2.1 dX7_takeTurn_287 rfl (lv_at hl 1 rfl) ?_
                refine r_get B hH (own := RX7) (kd_n B (k0) (by decide) (by decide)) (ct_1 (k0)) rfl (ul_1 B.2.2.2.2.1) 1 (by decide) rfl (tw_183 B.2.2.2.2.1) dX7_takeTurn_288 ?_
                refine lv_bipush (v := 119) B.1 B.2.1 dX7_takeTurn_291 (by decide) ?_
                refine lv_iload_n B.1 B.2.1 dX7_takeTurn_293 rfl (lv_at hl 0 rfl) ?_
                refine lv_iconst (v := 3) B.1 B.2.1 dX7_takeTurn_294 (by decide) ?_
                refine x_irem B dX7_takeTurn_295 (by decide) ?_
                refine lv_iconst (v := 1) B.1 B.2.1 dX7_takeTurn_296 (by decide) ?_
                refine lv_iload_n B.1 B.2.1 dX7_takeTurn_297 rfl (lv_at hl 0 rfl) ?_
                refine lv_iconst (v := 4) B.1 B.2.1 dX7_takeTurn_298 (by decide) ?_
                refine lv_idiv B.1 B.2.1 dX7_takeTurn_299 (by decide) ?_
                refine lv_bipush (v := 40) B.1 B.2.1 dX7_takeTurn_300 (by decide) ?_
                refine x_irem B dX7_takeTurn_302 (by decide) ?_
                refine lv_iadd B.1 B.2.1 dX7_takeTurn_303 ?_
                refine lv_iconst (v := 0) B.1 B.2.1 dX7_takeTurn_304 (by decide) ?_
                refine lv_iconst (v := 0) B.1 B.2.1 dX7_takeTurn_305 (by decide) ?_
                refine c_VN_I (own := RX7) (As := [.int 119, .int (jirem x1 3), .int (1 + (jirem (x1 / 4) 40)), .int 0, .int 0]) (rest := []) B hH (cy_X5_perform B.2.2.2.2.1) (ct_X5_perform B.2.2.2.2.2.2.2 l (a0 + 22) 119 (jirem x1 3) (1 + (jirem (x1 / 4) 40)) 0 0 h _ _ (kf_1_1 (k0)) hw) ⟨⟨rfl, rfl⟩, Nat.le_of_ble_eq_true rfl, Nat.le_of_ble_eq_true rfl, Nat.zero_le _, Nat.zero_le _⟩ (rv_2 B hH (kf_1_1 (k0))) (tw_475 B.2.2.2.2.1) rfl hl.1 rfl (Nat.le_of_ble_eq_true rfl) dX7_takeTurn_306 ?_
                clear hw hH
                intro r26 h25 H locs hw hH
                refine lv_pop B.1 B.2.1 dX7_takeTurn_309 rfl ?_
                refine lv_goto (tgt := 332) B.1 B.2.1 dX7_takeTurn_310 (by decide) ?_
                exact e_v B hr hH hw dX7_takeTurn_332
              · replace hw := hw.2.2.2.2.2.2.2 c3 c6 (fun z => c9 (Or.inl z)) (fun z => c9 (Or.inr (Or.inl z))) (fun z => c9 (Or.inr (Or.inr z))) (fun z => c12 (Or.inl z)) (fun z => c12 (Or.inr (Or.inl z))) (fun z => c12 (Or.inr (Or.inr (Or.inl z)))) (fun z => c12 (Or.inr (Or.inr (Or.inr z)))) c15 c18 c24
                have t0 := lv_neT (x := x2) (k := 0) (a := 0) c3 (by decide)
                have t1 := lv_neT (x := x2) (k := 1) (a := 1) c6 (by decide)
                have t2 := lv_neT (x := x2) (k := 2) (a := 2) (fun z => c9 (Or.inl z)) (by decide)
                have t3 := lv_neT (x := x2) (k := 3) (a := 3) (fun z => c9 (Or.inr (Or.inl z))) (by decide)
                have t4 := lv_neT (x := x2) (k := 4) (a := 4) (fun z => c9 (Or.inr (Or.inr z))) (by decide)
                have t5 := lv_neT (x := x2) (k := 5) (a := 5) (fun z => c12 (Or.inl z)) (by decide)
                have t6 := lv_neT (x := x2) (k := 6) (a := 6) (fun z => c12 (Or.inr (Or.inl z))) (by decide)
                have t7 := lv_neT (x := x2) (k := 7) (a := 7) (fun z => c12 (Or.inr (Or.inr (Or.inl z)))) (by decide)
                have t8 := lv_neT (x := x2) (k := 8) (a := 8) (fun z => c12 (Or.inr (Or.inr (Or.inr z)))) (by decide)
                have t9 := lv_neT (x := x2) (k := 9) (a := 9) c15 (by decide)
                have t10 := lv_neT (x := x2) (k := 10) (a := 10) c18 (by decide)
                have t11 := lv_neT (x := x2) (k := 11) (a := 11) c24 (by decide)
                refine lv_tableOut (tgt := 313) B.1 B.2.1 dX7_takeTurn_9 (by omega) (by decide) ?_
                refine lv_aload_n B.1 B.2.1 dX7_takeTurn_313 rfl (lv_at hl 1 rfl) ?_
                refine r_get B hH (own := RX7) (kd_n B (k0) (by decide) (by decide)) (ct_1 (k0)) rfl (ul_1 B.2.2.2.2.1) 1 (by decide) rfl (tw_183 B.2.2.2.2.1) dX7_takeTurn_314 ?_
                refine lv_bipush (v := 116) B.1 B.2.1 dX7_takeTurn_317 (by decide) ?_
                refine lv_iconst (v := 1) B.1 B.2.1 dX7_takeTurn_319 (by decide) ?_
                refine lv_iload_n B.1 B.2.1 dX7_takeTurn_320 rfl (lv_at hl 0 rfl) ?_
                refine lv_bipush (v := 50) B.1 B.2.1 dX7_takeTurn_321 (by decide) ?_
                refine x_irem B dX7_takeTurn_323 (by decide) ?_
                refine lv_iadd B.1 B.2.1 dX7_takeTurn_324 ?_
                refine lv_iconst (v := 0) B.1 B.2.1 dX7_takeTurn_325 (by decide) ?_
                refine lv_iconst (v := 0) B.1 B.2.1 dX7_takeTurn_326 (by decide) ?_
                refine lv_iconst (v := 0) B.1 B.2.1 dX7_takeTurn_327 (by decide) ?_
                refine c_VN_I (own := RX7) (As := [.int 116, .int (1 + (jirem x1 50)), .int 0, .int 0, .int 0]) (rest := []) B hH (cy_X5_perform B.2.2.2.2.1) (ct_X5_perform B.2.2.2.2.2.2.2 l (a0 + 22) 116 (1 + (jirem x1 50)) 0 0 0 h _ _ (kf_1_1 (k0)) hw) ⟨⟨rfl, rfl⟩, Nat.le_of_ble_eq_true rfl, Nat.le_of_ble_eq_true rfl, Nat.zero_le _, Nat.zero_le _⟩ (rv_2 B hH (kf_1_1 (k0))) (tw_475 B.2.2.2.2.1) rfl hl.1 rfl (Nat.le_of_ble_eq_true rfl) dX7_takeTurn_328 ?_
                clear hw hH
                intro r28 h27 H locs hw hH
                refine lv_pop B.1 B.2.1 dX7_takeTurn_331 rfl ?_
                exact e_v B hr hH hw dX7_takeTurn_332
theorem cy_X7_slotAt {s : State} {args : Array Value} (hG : GG s) : CYV s args yX7_slotAt cX7_slotAt 2 (some (.object "SplicedLoops$Slot")) 1 := CYV.of hG (fun _ _ hG => tw_947 hG) (tw_1 hG) (tw_946 hG) (tp_61 hG) (by decide +kernel)
set_option maxRecDepth 100000 in
set_option maxHeartbeats 4000000 in
theorem ct_X7_slotAt {Z : ZT} (hZ : ZO Z) (l : Launch) (a0 : Nat) (a1 : Int32) (h : PH) (sz : Nat) (Q : Option Nat → PH → Prop) (k0 : kd a0 = 1) (hw : wp_X7_slotAt a0 a1 h Q) : MO Z l yX7_slotAt cX7_slotAt 2 (some (.object "SplicedLoops$Slot")) ({ frames := 0, cells := 0, slots := 0, locals := 0 } : Room) h sz [.ref (zA Z a0), .int a1] (QO Q 5) := by
  refine open_M hZ (by decide +kernel) (by exact Nat.le_of_ble_eq_true rfl) ?_
  intro p e s m below meth c B hr hsz ls hl hH
  subst hsz
  have hl : lv_has ls 2 [(0, .ref (zA Z a0)), (1, .int a1)] := hl
  unfold wp_X7_slotAt at hw
  refine lv_iload_n B.1 B.2.1 dX7_slotAt_0 rfl (lv_at hl 1 rfl) ?_
  refine lv_if_ne (tgt := 11) B.1 B.2.1 dX7_slotAt_1 (by decide) (fun c1 => ?_) (fun c1 => ?_)
  · replace hw := hw.1 c1
    refine lv_iload_n B.1 B.2.1 dX7_slotAt_11 rfl (lv_at hl 1 rfl) ?_
    refine lv_iconst (v := 1) B.1 B.2.1 dX7_slotAt_12 (by decide) ?_
    refine lv_icmp_ne (tgt := 23) B.1 B.2.1 dX7_slotAt_13 (by decide) (fun c2 => ?_) (fun c2 => ?_)
    · replace hw := hw.1 c2
      refine x_null (Z := Z) B dX7_slotAt_23 ?_
      exact e_o B hr hH ⟨hw, fun _ z => nomatch z⟩ dX7_slotAt_24
    · replace hw := hw.2 c2
      refine lv_aload_n B.1 B.2.1 dX7_slotAt_16 rfl (lv_at hl 0 rfl) ?_
      refine r_get B hH (own := RX7) (kd_n B (k0) (by decide) (by decide)) (ct_1 (k0)) rfl (ul_1 B.2.2.2.2.1) 4 (by decide) rfl (tw_186 B.2.2.2.2.1) dX7_slotAt_17 ?_
      refine lv_goto (tgt := 24) B.1 B.2.1 dX7_slotAt_20 (by decide) ?_
      exact e_o (r := some (a0 + 319)) B hr hH ⟨hw, fun j z => by cases z; exact kf_1_4 (k0)⟩ dX7_slotAt_24
  · replace hw := hw.2 c1
    refine lv_aload_n B.1 B.2.1 dX7_slotAt_4 rfl (lv_at hl 0 rfl) ?_
    refine r_get B hH (own := RX7) (kd_n B (k0) (by decide) (by decide)) (ct_1 (k0)) rfl (ul_1 B.2.2.2.2.1) 3 (by decide) rfl (tw_185 B.2.2.2.2.1) dX7_slotAt_5 ?_
    refine lv_goto (tgt := 24) B.1 B.2.1 dX7_slotAt_8 (by decide) ?_
    exact e_o (r := some (a0 + 297)) B hr hH ⟨hw, fun j z => by cases z; exact kf_1_3 (k0)⟩ dX7_slotAt_24
theorem cy_X8_clear {s : State} {args : Array Value} (hG : GG s) : CYS s args yX8_clear cX8_clear 2 none 1 := CYS.of hG (fun _ _ hG => tw_965 hG) (tw_8 hG) (tw_964 hG) (by decide +kernel)
set_option maxRecDepth 100000 in
set_option maxHeartbeats 4000000 in
theorem ct_X8_clear {Z : ZT} (hZ : ZO Z) (l : Launch) (a0 : Nat) (h : PH) (sz : Nat) (Q : PH → Prop) (k0 : kd a0 = 10) (hw : wp_X8_clear a0 h Q) : MV Z l yX8_clear cX8_clear 2 none ({ frames := 0, cells := 0, slots := 0, locals := 0 } : Room) h sz [.ref (zA Z a0)] Q := by
  refine open_M hZ (by decide +kernel) (by exact Nat.le_of_ble_eq_true rfl) ?_
  intro p e s m below meth c B hr hsz ls hl hH
  subst hsz
  have hl : lv_has ls 2 [(0, .ref (zA Z a0))] := hl
  unfold wp_X8_clear at hw
  have L2 : ∀ (b0 : Nat), kd b0 = 10 → ∀ (n : Nat) (b1 : Int32) (h : PH), ∀ (H : Heap) (locs : List Loc) (ls : Array Slot), wp_X8_clear_b2 b0 Q n b1 h → HH Z s h H locs → lv_has ls 2 [(0, .ref (zA Z b0)), (1, .int b1)] → W p l e ({ frames := 0, cells := 0, slots := 0, locals := 0 } : Room) s m ([.ref (zA Z a0)]).toArray below meth c H locs 0 0 (MQ below (va_Qv Q (BZ Z) (fr Z s.heap.size)) ([.ref (zA Z a0)]).toArray s 0 0 (fr Z s.heap.size)) (F0 m 2 ls []) := by
    intro b0 kb0 n
    induction n with
    | zero => intro b1 h H locs ls hw hH hl; exact absurd hw id
    | succ n ih =>
      intro b1 h H locs ls hw hH hl
      unfold wp_X8_clear_b2 at hw
      refine lv_iload_n B.1 B.2.1 dX8_clear_2 rfl (lv_at hl 1 rfl) ?_
      refine lv_sipush (v := 427) B.1 B.2.1 dX8_clear_3 (by decide) ?_
      refine lv_icmp_ge (tgt := 19) B.1 B.2.1 dX8_clear_6 (by decide) (fun c1 => ?_) (fun c1 => ?_)
      · replace hw := hw.1 c1
        exact e_v B hr hH hw dX8_clear_19
      · replace hw := hw.2 c1
        refine lv_aload_n B.1 B.2.1 dX8_clear_9 rfl (lv_at hl 0 rfl) ?_
        refine lv_iload_n B.1 B.2.1 dX8_clear_10 rfl (lv_at hl 1 rfl) ?_
        refine lv_iconst (v := 0) B.1 B.2.1 dX8_clear_11 (by decide) ?_
        have q2 := hw.1
        replace hw := hw.2
        refine r_iast B hH (kb0) q2 dX8_clear_12 ?_
        clear hH
        intro H locs hH
        obtain ⟨h3, eh3⟩ : ∃ z : PH, z = up2 h b0 b1.toNatClampNeg 0 := ⟨_, rfl⟩
        rw [← eh3] at hH
        replace hw := hw h3 eh3
        obtain ⟨x4, ex4⟩ : ∃ y : Int32, y = b1 + 1 := ⟨_, rfl⟩
        replace hw := hw x4 ex4
        refine lv_iinc (v := x4) (lv' := [(1, .int x4), (0, .ref (zA Z b0))]) B.1 B.2.1 dX8_clear_13 hl (k := 1) rfl (by rw [ex4]; rfl) (by decide) (by first | rfl | simp [va_re_cat, Value.category]) ?_
        clear hl
        intro ls hl
        refine lv_goto (tgt := 2) B.1 B.2.1 dX8_clear_16 (by decide) ?_
        exact ih x4 h3  _ _ _ hw hH (lv_sub hl [1, 0] rfl)
  refine lv_iconst (v := 0) B.1 B.2.1 dX8_clear_0 (by decide) ?_
  refine lv_istore_n (lv' := [(1, .int 0), (0, .ref (zA Z a0))]) B.1 B.2.1 dX8_clear_1 rfl hl (by decide) (by first | rfl | simp [va_re_cat, Value.category]) ?_
  clear hl
  intro ls hl
  obtain ⟨n5, hw⟩ := hw
  exact L2 a0 (k0) n5 0 h  _ _ _ hw hH (lv_sub hl [1, 0] rfl)
theorem cy_X8_thrown {s : State} {args : Array Value} (hG : GG s) : CYV s args yX8_thrown cX8_thrown 1 (some .int) 0 := CYV.of hG (fun _ _ hG => tw_1004 hG) (tw_8 hG) (tw_1002 hG) (tw_1003 hG) (by decide +kernel)
set_option maxRecDepth 100000 in
set_option maxHeartbeats 4000000 in
theorem ct_X8_thrown {Z : ZT} (hZ : ZO Z) (l : Launch) (a0 : Nat) (h : PH) (sz : Nat) (Q : Int32 → PH → Prop) (k0 : kd a0 = 8) (hw : wp_X8_thrown a0 h Q) : MI Z l yX8_thrown cX8_thrown 1 (some .int) ({ frames := 0, cells := 0, slots := 0, locals := 0 } : Room) h sz [.ref (zA Z a0)] Q := by
  refine open_M hZ (by decide +kernel) (by exact Nat.le_of_ble_eq_true rfl) ?_
  intro p e s m below meth c B hr hsz ls hl hH
  subst hsz
  have hl : lv_has ls 1 [(0, .ref (zA Z a0))] := hl
  unfold wp_X8_thrown at hw
  refine lv_aload_n B.1 B.2.1 dX8_thrown_0 rfl (lv_at hl 0 rfl) ?_
  refine r_get B hH (own := RX8) (kd_n B (k0) (by decide) (by decide)) (ct_8 (k0)) rfl (ul_8 B.2.2.2.2.1) 0 (by decide) rfl (tw_966 B.2.2.2.2.1) dX8_thrown_1 ?_
  exact e_i B hr hH hw dX8_thrown_4
theorem cy_X8_refused {s : State} {args : Array Value} (hG : GG s) : CYV s args yX8_refused cX8_refused 2 (some .boolean) 1 := CYV.of hG (fun _ _ hG => tw_1016 hG) (tw_8 hG) (tw_1015 hG) (tp_62 hG) (by decide +kernel)
set_option maxRecDepth 100000 in
set_option maxHeartbeats 4000000 in
theorem ct_X8_refused {Z : ZT} (hZ : ZO Z) (l : Launch) (a0 : Nat) (a1 : Int32) (h : PH) (sz : Nat) (Q : Int32 → PH → Prop) (k0 : kd a0 = 8) (hw : wp_X8_refused a0 a1 h Q) : MI Z l yX8_refused cX8_refused 2 (some .boolean) ({ frames := 0, cells := 0, slots := 0, locals := 0 } : Room) h sz [.ref (zA Z a0), .int a1] Q := by
  refine open_M hZ (by decide +kernel) (by exact Nat.le_of_ble_eq_true rfl) ?_
  intro p e s m below meth c B hr hsz ls hl hH
  subst hsz
  have hl : lv_has ls 2 [(0, .ref (zA Z a0)), (1, .int a1)] := hl
  unfold wp_X8_refused at hw
  refine lv_aload_n B.1 B.2.1 dX8_refused_0 rfl (lv_at hl 0 rfl) ?_
  refine lv_iload_n B.1 B.2.1 dX8_refused_1 rfl (lv_at hl 1 rfl) ?_
  refine r_put B hH (own := RX8) (kd_n B (k0) (by decide) (by decide)) (ct_8 (k0)) rfl (ul_8 B.2.2.2.2.1) tyX8 tyX8_ok nmX8 0 (by decide) (ty := .int) rfl rfl rfl rfl (Nat.le_of_ble_eq_true rfl) (cs_8_0 (k0)) (tw_966 B.2.2.2.2.1) dX8_refused_2 ?_
  clear hH
  intro H locs hH
  obtain ⟨h1, eh1⟩ : ∃ z : PH, z = up2 h a0 0 a1 := ⟨_, rfl⟩
  rw [← eh1] at hH
  replace hw := hw h1 eh1
  refine lv_iload_n B.1 B.2.1 dX8_refused_5 rfl (lv_at hl 1 rfl) ?_
  refine lv_if_le (tgt := 13) B.1 B.2.1 dX8_refused_6 (by decide) (fun c2 => ?_) (fun c2 => ?_)
  · replace hw := hw.1 c2
    refine lv_iconst (v := 0) B.1 B.2.1 dX8_refused_13 (by decide) ?_
    exact e_z B hr (by decide) hH hw dX8_refused_14
  · replace hw := hw.2 c2
    refine lv_iconst (v := 1) B.1 B.2.1 dX8_refused_9 (by decide) ?_
    refine lv_goto (tgt := 14) B.1 B.2.1 dX8_refused_10 (by decide) ?_
    exact e_z B hr (by decide) hH hw dX8_refused_14
theorem cy_X8_in {s : State} {args : Array Value} (hG : GG s) : CYS s args yX8_in cX8_in 6 (some .boolean) 3 := CYS.of hG (fun _ _ hG => tw_1012 hG) (tw_8 hG) (tw_1011 hG) (by decide +kernel)
set_option maxRecDepth 100000 in
set_option maxHeartbeats 4000000 in
theorem ct_X8_in {Z : ZT} (hZ : ZO Z) (l : Launch) (a0 : Int64) (a2 : Int64) (a4 : Int64) (h : PH) (sz : Nat) (Q : Int32 → PH → Prop)  (hw : wp_X8_in a0 a2 a4 h Q) : MI Z l yX8_in cX8_in 6 (some .boolean) ({ frames := 0, cells := 0, slots := 0, locals := 0 } : Room) h sz [.long a0, .long a2, .long a4] Q := by
  refine open_M hZ (by decide +kernel) (by exact Nat.le_of_ble_eq_true rfl) ?_
  intro p e s m below meth c B hr hsz ls hl hH
  subst hsz
  have hl : lv_has ls 6 [(0, .long a0), (2, .long a2), (4, .long a4)] := hl
  unfold wp_X8_in at hw
  refine lv_lload_n B.1 B.2.1 dX8_in_0 rfl (lv_at hl 0 rfl) ?_
  refine lv_lload_n B.1 B.2.1 dX8_in_1 rfl (lv_at hl 1 rfl) ?_
  refine W.lcmp B.1 B.2.1 dX8_in_2 ?_
  refine lv_if_lt (tgt := 17) B.1 B.2.1 dX8_in_3 (by decide) (fun c1 => ?_) (fun c1 => ?_)
  · replace hw := hw.1 c1
    refine lv_iconst (v := 0) B.1 B.2.1 dX8_in_17 (by decide) ?_
    exact e_z B hr (by decide) hH hw dX8_in_18
  · replace hw := hw.2 c1
    refine lv_lload_n B.1 B.2.1 dX8_in_6 rfl (lv_at hl 0 rfl) ?_
    refine lv_lload B.1 B.2.1 dX8_in_7 (lv_at hl 2 rfl) ?_
    refine W.lcmp B.1 B.2.1 dX8_in_9 ?_
    refine lv_if_gt (tgt := 17) B.1 B.2.1 dX8_in_10 (by decide) (fun c2 => ?_) (fun c2 => ?_)
    · replace hw := hw.1 c2
      refine lv_iconst (v := 0) B.1 B.2.1 dX8_in_17 (by decide) ?_
      exact e_z B hr (by decide) hH hw dX8_in_18
    · replace hw := hw.2 c2
      refine lv_iconst (v := 1) B.1 B.2.1 dX8_in_13 (by decide) ?_
      refine lv_goto (tgt := 18) B.1 B.2.1 dX8_in_14 (by decide) ?_
      exact e_z B hr (by decide) hH hw dX8_in_18
theorem cy_X8_copyState {s : State} {args : Array Value} (hG : GG s) : CYS s args yX8_copyState cX8_copyState 5 none 4 := CYS.of hG (fun _ _ hG => tw_1138 hG) (tw_8 hG) (tw_1137 hG) (by decide +kernel)
set_option maxRecDepth 100000 in
set_option maxHeartbeats 4000000 in
theorem ct_X8_copyState {Z : ZT} (hZ : ZO Z) (l : Launch) (a0 : Nat) (a1 : Int32) (a2 : Nat) (a3 : Int32) (h : PH) (sz : Nat) (Q : PH → Prop) (k0 : kd a0 = 10) (k2 : kd a2 = 10) (hw : wp_X8_copyState a0 a1 a2 a3 h Q) : MV Z l yX8_copyState cX8_copyState 5 none ({ frames := 0, cells := 0, slots := 0, locals := 0 } : Room) h sz [.ref (zA Z a0), .int a1, .ref (zA Z a2), .int a3] Q := by
  refine open_M hZ (by decide +kernel) (by exact Nat.le_of_ble_eq_true rfl) ?_
  intro p e s m below meth c B hr hsz ls hl hH
  subst hsz
  have hl : lv_has ls 5 [(0, .ref (zA Z a0)), (1, .int a1), (2, .ref (zA Z a2)), (3, .int a3)] := hl
  unfold wp_X8_copyState at hw
  have L3 : ∀ (b0 : Nat) (b1 : Int32) (b2 : Nat) (b3 : Int32), kd b0 = 10 → kd b2 = 10 → ∀ (n : Nat) (b4 : Int32) (h : PH), ∀ (H : Heap) (locs : List Loc) (ls : Array Slot), wp_X8_copyState_b3 b0 b1 b2 b3 Q n b4 h → HH Z s h H locs → lv_has ls 5 [(0, .ref (zA Z b0)), (1, .int b1), (2, .ref (zA Z b2)), (3, .int b3), (4, .int b4)] → W p l e ({ frames := 0, cells := 0, slots := 0, locals := 0 } : Room) s m ([.ref (zA Z a0), .int a1, .ref (zA Z a2), .int a3]).toArray below meth c H locs 0 0 (MQ below (va_Qv Q (BZ Z) (fr Z s.heap.size)) ([.ref (zA Z a0), .int a1, .ref (zA Z a2), .int a3]).toArray s 0 0 (fr Z s.heap.size)) (F0 m 3 ls []) := by
    intro b0 b1 b2 b3 kb0 kb2 n
    induction n with
    | zero => intro b4 h H locs ls hw hH hl; exact absurd hw id
    | succ n ih =>
      intro b4 h H locs ls hw hH hl
      unfold wp_X8_copyState_b3 at hw
      refine lv_iload B.1 B.2.1 dX8_copyState_3 (lv_at hl 4 rfl) ?_
      refine lv_sipush (v := 427) B.1 B.2.1 dX8_copyState_5 (by decide) ?_
      refine lv_icmp_ge (tgt := 29) B.1 B.2.1 dX8_copyState_8 (by decide) (fun c1 => ?_) (fun c1 => ?_)
      · replace hw := hw.1 c1
        exact e_v B hr hH hw dX8_copyState_29
      · replace hw := hw.2 c1
        refine lv_aload_n B.1 B.2.1 dX8_copyState_11 rfl (lv_at hl 2 rfl) ?_
        refine lv_iload_n B.1 B.2.1 dX8_copyState_12 rfl (lv_at hl 3 rfl) ?_
        refine lv_iload B.1 B.2.1 dX8_copyState_13 (lv_at hl 4 rfl) ?_
        refine lv_iadd B.1 B.2.1 dX8_copyState_15 ?_
        refine lv_aload_n B.1 B.2.1 dX8_copyState_16 rfl (lv_at hl 0 rfl) ?_
        refine lv_iload_n B.1 B.2.1 dX8_copyState_17 rfl (lv_at hl 1 rfl) ?_
        refine lv_iload B.1 B.2.1 dX8_copyState_18 (lv_at hl 4 rfl) ?_
        refine lv_iadd B.1 B.2.1 dX8_copyState_20 ?_
        have q2 := hw.1
        replace hw := hw.2
        refine r_iald B hH (kb0) q2 dX8_copyState_21 ?_
        have q3 := hw.1
        replace hw := hw.2
        refine r_iast B hH (kb2) q3 dX8_copyState_22 ?_
        clear hH
        intro H locs hH
        obtain ⟨h4, eh4⟩ : ∃ z : PH, z = up2 h b2 (b3 + b4).toNatClampNeg (h b0 (b1 + b4).toNatClampNeg) := ⟨_, rfl⟩
        rw [← eh4] at hH
        replace hw := hw h4 eh4
        obtain ⟨x5, ex5⟩ : ∃ y : Int32, y = b4 + 1 := ⟨_, rfl⟩
        replace hw := hw x5 ex5
        refine lv_iinc (v := x5) (lv' := [(4, .int x5), (0, .ref (zA Z b0)), (1, .int b1), (2, .ref (zA Z b2)), (3, .int b3)]) B.1 B.2.1 dX8_copyState_23 hl (k := 4) rfl (by rw [ex5]; rfl) (by decide) (by first | rfl | simp [va_re_cat, Value.category]) ?_
        clear hl
        intro ls hl
        refine lv_goto (tgt := 3) B.1 B.2.1 dX8_copyState_26 (by decide) ?_
        exact ih x5 h4  _ _ _ hw hH (lv_sub hl [1, 2, 3, 4, 0] rfl)
  refine lv_iconst (v := 0) B.1 B.2.1 dX8_copyState_0 (by decide) ?_
  refine lv_istore (lv' := [(4, .int 0), (0, .ref (zA Z a0)), (1, .int a1), (2, .ref (zA Z a2)), (3, .int a3)]) B.1 B.2.1 dX8_copyState_1 hl (by decide) (by first | rfl | simp [va_re_cat, Value.category]) ?_
  clear hl
  intro ls hl
  obtain ⟨n6, hw⟩ := hw
  exact L3 a0 a1 a2 a3 (k0) (k2) n6 0 h  _ _ _ hw hH (lv_sub hl [1, 2, 3, 4, 0] rfl)
theorem cy_X8_cells {s : State} {args : Array Value} (hG : GG s) : CYS s args yX8_cells cX8_cells 2 (some .int) 2 := CYS.of hG (fun _ _ hG => tw_1065 hG) (tw_8 hG) (tw_1064 hG) (by decide +kernel)
set_option maxRecDepth 100000 in
set_option maxHeartbeats 4000000 in
theorem ct_X8_cells {Z : ZT} (hZ : ZO Z) (l : Launch) (a0 : Nat) (a1 : Int32) (h : PH) (sz : Nat) (Q : Int32 → PH → Prop) (k0 : kd a0 = 10) (hw : wp_X8_cells a0 a1 h Q) : MI Z l yX8_cells cX8_cells 2 (some .int) ({ frames := 0, cells := 0, slots := 0, locals := 0 } : Room) h sz [.ref (zA Z a0), .int a1] Q := by
  refine open_M hZ (by decide +kernel) (by exact Nat.le_of_ble_eq_true rfl) ?_
  intro p e s m below meth c B hr hsz ls hl hH
  subst hsz
  have hl : lv_has ls 2 [(0, .ref (zA Z a0)), (1, .int a1)] := hl
  unfold wp_X8_cells at hw
  refine lv_aload_n B.1 B.2.1 dX8_cells_0 rfl (lv_at hl 0 rfl) ?_
  refine lv_iconst (v := 4) B.1 B.2.1 dX8_cells_1 (by decide) ?_
  refine lv_bipush (v := 61) B.1 B.2.1 dX8_cells_2 (by decide) ?_
  refine lv_iload_n B.1 B.2.1 dX8_cells_4 rfl (lv_at hl 1 rfl) ?_
  refine lv_imul B.1 B.2.1 dX8_cells_5 ?_
  refine lv_iadd B.1 B.2.1 dX8_cells_6 ?_
  have q1 := hw.1
  replace hw := hw.2
  refine r_iald B hH (k0) q1 dX8_cells_7 ?_
  exact e_i B hr hH hw dX8_cells_8
theorem cy_X8_soundAt {s : State} {args : Array Value} (hG : GG s) : CYS s args yX8_soundAt cX8_soundAt 3 (some .int) 3 := CYS.of hG (fun _ _ hG => tw_1097 hG) (tw_8 hG) (tw_1096 hG) (by decide +kernel)
set_option maxRecDepth 100000 in
set_option maxHeartbeats 4000000 in
theorem ct_X8_soundAt {Z : ZT} (hZ : ZO Z) (l : Launch) (a0 : Nat) (a1 : Int32) (a2 : Int32) (h : PH) (sz : Nat) (Q : Int32 → PH → Prop) (k0 : kd a0 = 10) (hw : wp_X8_soundAt a0 a1 a2 h Q) : MI Z l yX8_soundAt cX8_soundAt 3 (some .int) ({ frames := 0, cells := 0, slots := 0, locals := 0 } : Room) h sz [.ref (zA Z a0), .int a1, .int a2] Q := by
  refine open_M hZ (by decide +kernel) (by exact Nat.le_of_ble_eq_true rfl) ?_
  intro p e s m below meth c B hr hsz ls hl hH
  subst hsz
  have hl : lv_has ls 3 [(0, .ref (zA Z a0)), (1, .int a1), (2, .int a2)] := hl
  unfold wp_X8_soundAt at hw
  refine lv_aload_n B.1 B.2.1 dX8_soundAt_0 rfl (lv_at hl 0 rfl) ?_
  refine lv_iconst (v := 4) B.1 B.2.1 dX8_soundAt_1 (by decide) ?_
  refine lv_bipush (v := 61) B.1 B.2.1 dX8_soundAt_2 (by decide) ?_
  refine lv_iload_n B.1 B.2.1 dX8_soundAt_4 rfl (lv_at hl 1 rfl) ?_
  refine lv_imul B.1 B.2.1 dX8_soundAt_5 ?_
  refine lv_iadd B.1 B.2.1 dX8_soundAt_6 ?_
  refine lv_iconst (v := 1) B.1 B.2.1 dX8_soundAt_7 (by decide) ?_
  refine lv_iadd B.1 B.2.1 dX8_soundAt_8 ?_
  refine lv_iload_n B.1 B.2.1 dX8_soundAt_9 rfl (lv_at hl 2 rfl) ?_
  refine lv_iadd B.1 B.2.1 dX8_soundAt_10 ?_
  have q1 := hw.1
  replace hw := hw.2
  refine r_iald B hH (k0) q1 dX8_soundAt_11 ?_
  exact e_i B hr hH hw dX8_soundAt_12
theorem cy_X8_of {s : State} {args : Array Value} (hG : GG s) : CYS s args yX8_of cX8_of 3 (some .int) 3 := CYS.of hG (fun _ _ hG => tw_1100 hG) (tw_8 hG) (tw_1099 hG) (by decide +kernel)
set_option maxRecDepth 100000 in
set_option maxHeartbeats 4000000 in
theorem ct_X8_of {Z : ZT} (hZ : ZO Z) (l : Launch) (a0 : Nat) (a1 : Int32) (a2 : Int32) (h : PH) (sz : Nat) (Q : Int32 → PH → Prop) (k0 : kd a0 = 10) (hw : wp_X8_of a0 a1 a2 h Q) : MI Z l yX8_of cX8_of 3 (some .int) ({ frames := 0, cells := 0, slots := 0, locals := 0 } : Room) h sz [.ref (zA Z a0), .int a1, .int a2] Q := by
  refine open_M hZ (by decide +kernel) (by exact Nat.le_of_ble_eq_true rfl) ?_
  intro p e s m below meth c B hr hsz ls hl hH
  subst hsz
  have hl : lv_has ls 3 [(0, .ref (zA Z a0)), (1, .int a1), (2, .int a2)] := hl
  unfold wp_X8_of at hw
  refine lv_aload_n B.1 B.2.1 dX8_of_0 rfl (lv_at hl 0 rfl) ?_
  refine lv_sipush (v := 187) B.1 B.2.1 dX8_of_1 (by decide) ?_
  refine lv_bipush (v := 60) B.1 B.2.1 dX8_of_4 (by decide) ?_
  refine lv_iload_n B.1 B.2.1 dX8_of_6 rfl (lv_at hl 1 rfl) ?_
  refine lv_imul B.1 B.2.1 dX8_of_7 ?_
  refine lv_iadd B.1 B.2.1 dX8_of_8 ?_
  refine lv_iload_n B.1 B.2.1 dX8_of_9 rfl (lv_at hl 2 rfl) ?_
  refine lv_iadd B.1 B.2.1 dX8_of_10 ?_
  have q1 := hw.1
  replace hw := hw.2
  refine r_iald B hH (k0) q1 dX8_of_11 ?_
  exact e_i B hr hH hw dX8_of_12
theorem cy_X8_lay {s : State} {args : Array Value} (hG : GG s) : CYS s args yX8_lay cX8_lay 4 none 4 := CYS.of hG (fun _ _ hG => tw_1074 hG) (tw_8 hG) (tw_1073 hG) (by decide +kernel)
set_option maxRecDepth 100000 in
set_option maxHeartbeats 4000000 in
theorem ct_X8_lay {Z : ZT} (hZ : ZO Z) (l : Launch) (a0 : Nat) (a1 : Int32) (a2 : Int32) (a3 : Int32) (h : PH) (sz : Nat) (Q : PH → Prop) (k0 : kd a0 = 10) (hw : wp_X8_lay a0 a1 a2 a3 h Q) : MV Z l yX8_lay cX8_lay 4 none ({ frames := 0, cells := 0, slots := 0, locals := 0 } : Room) h sz [.ref (zA Z a0), .int a1, .int a2, .int a3] Q := by
  refine open_M hZ (by decide +kernel) (by exact Nat.le_of_ble_eq_true rfl) ?_
  intro p e s m below meth c B hr hsz ls hl hH
  subst hsz
  have hl : lv_has ls 4 [(0, .ref (zA Z a0)), (1, .int a1), (2, .int a2), (3, .int a3)] := hl
  unfold wp_X8_lay at hw
  refine lv_aload_n B.1 B.2.1 dX8_lay_0 rfl (lv_at hl 0 rfl) ?_
  refine lv_sipush (v := 187) B.1 B.2.1 dX8_lay_1 (by decide) ?_
  refine lv_bipush (v := 60) B.1 B.2.1 dX8_lay_4 (by decide) ?_
  refine lv_iload_n B.1 B.2.1 dX8_lay_6 rfl (lv_at hl 1 rfl) ?_
  refine lv_imul B.1 B.2.1 dX8_lay_7 ?_
  refine lv_iadd B.1 B.2.1 dX8_lay_8 ?_
  refine lv_iload_n B.1 B.2.1 dX8_lay_9 rfl (lv_at hl 2 rfl) ?_
  refine lv_iadd B.1 B.2.1 dX8_lay_10 ?_
  refine lv_iload_n B.1 B.2.1 dX8_lay_11 rfl (lv_at hl 3 rfl) ?_
  have q1 := hw.1
  replace hw := hw.2
  refine r_iast B hH (k0) q1 dX8_lay_12 ?_
  clear hH
  intro H locs hH
  obtain ⟨h2, eh2⟩ : ∃ z : PH, z = up2 h a0 ((187 + (60 * a1)) + a2).toNatClampNeg a3 := ⟨_, rfl⟩
  rw [← eh2] at hH
  replace hw := hw h2 eh2
  exact e_v B hr hH hw dX8_lay_13
theorem cy_X8_isReel {s : State} {args : Array Value} (hG : GG s) : CYS s args yX8_isReel cX8_isReel 2 (some .boolean) 2 := CYS.of hG (fun _ _ hG => tw_1062 hG) (tw_8 hG) (tw_1061 hG) (by decide +kernel)
set_option maxRecDepth 100000 in
set_option maxHeartbeats 4000000 in
theorem ct_X8_isReel {Z : ZT} (hZ : ZO Z) (l : Launch) (a0 : Nat) (a1 : Int32) (h : PH) (sz : Nat) (Q : Int32 → PH → Prop) (k0 : kd a0 = 10) (hw : wp_X8_isReel a0 a1 h Q) : MI Z l yX8_isReel cX8_isReel 2 (some .boolean) ({ frames := 1, cells := 0, slots := 0, locals := 25 } : Room) h sz [.ref (zA Z a0), .int a1] Q := by
  refine open_M hZ (by decide +kernel) (by exact Nat.le_of_ble_eq_true rfl) ?_
  intro p e s m below meth c B hr hsz ls hl hH
  subst hsz
  have hl : lv_has ls 2 [(0, .ref (zA Z a0)), (1, .int a1)] := hl
  unfold wp_X8_isReel at hw
  refine lv_iload_n B.1 B.2.1 dX8_isReel_0 rfl (lv_at hl 1 rfl) ?_
  refine lv_i2l B.1 B.2.1 dX8_isReel_1 rfl ?_
  refine lv_lconst (v := 0) B.1 B.2.1 dX8_isReel_2 (by decide) ?_
  refine lv_aload_n B.1 B.2.1 dX8_isReel_3 rfl (lv_at hl 0 rfl) ?_
  refine lv_iconst (v := 0) B.1 B.2.1 dX8_isReel_4 (by decide) ?_
  have q1 := hw.1
  replace hw := hw.2
  refine r_iald B hH (k0) q1 dX8_isReel_5 ?_
  refine lv_iconst (v := 1) B.1 B.2.1 dX8_isReel_6 (by decide) ?_
  refine lv_isub B.1 B.2.1 dX8_isReel_7 ?_
  refine lv_i2l B.1 B.2.1 dX8_isReel_8 rfl ?_
  refine c_S_I (own := RX8) (As := [.long (a1.toInt64), .long 0, .long (((h a0 (0 : Int32).toNatClampNeg) - 1).toInt64)]) (rest := []) B hH (cy_X8_in B.2.2.2.2.1) (ct_X8_in B.2.2.2.2.2.2.2 l (a1.toInt64) 0 (((h a0 (0 : Int32).toNatClampNeg) - 1).toInt64) h _ _  hw) ⟨⟨rfl, rfl⟩, Nat.le_of_ble_eq_true rfl, Nat.le_of_ble_eq_true rfl, Nat.zero_le _, Nat.zero_le _⟩ (tw_1010 B.2.2.2.2.1) rfl hl.1 rfl (Nat.le_of_ble_eq_true rfl) dX8_isReel_9 ?_
  clear hw hH
  intro r3 h2 H locs hw hH
  exact e_z B hr hw.1 hH hw.2 dX8_isReel_12
theorem cy_X8_isCell {s : State} {args : Array Value} (hG : GG s) : CYS s args yX8_isCell cX8_isCell 3 (some .boolean) 3 := CYS.of hG (fun _ _ hG => tw_1059 hG) (tw_8 hG) (tw_1058 hG) (by decide +kernel)
set_option maxRecDepth 100000 in
set_option maxHeartbeats 4000000 in
theorem ct_X8_isCell {Z : ZT} (hZ : ZO Z) (l : Launch) (a0 : Nat) (a1 : Int32) (a2 : Int32) (h : PH) (sz : Nat) (Q : Int32 → PH → Prop) (k0 : kd a0 = 10) (hw : wp_X8_isCell a0 a1 a2 h Q) : MI Z l yX8_isCell cX8_isCell 3 (some .boolean) ({ frames := 2, cells := 0, slots := 0, locals := 46 } : Room) h sz [.ref (zA Z a0), .int a1, .int a2] Q := by
  refine open_M hZ (by decide +kernel) (by exact Nat.le_of_ble_eq_true rfl) ?_
  intro p e s m below meth c B hr hsz ls hl hH
  subst hsz
  have hl : lv_has ls 3 [(0, .ref (zA Z a0)), (1, .int a1), (2, .int a2)] := hl
  unfold wp_X8_isCell at hw
  refine lv_aload_n B.1 B.2.1 dX8_isCell_0 rfl (lv_at hl 0 rfl) ?_
  refine lv_iload_n B.1 B.2.1 dX8_isCell_1 rfl (lv_at hl 1 rfl) ?_
  refine c_S_I (own := RX8) (As := [.ref (zA Z a0), .int a1]) (rest := []) B hH (cy_X8_isReel B.2.2.2.2.1) (ct_X8_isReel B.2.2.2.2.2.2.2 l a0 a1 h _ _ (k0) hw) ⟨⟨rfl, rfl⟩, Nat.le_of_ble_eq_true rfl, Nat.le_of_ble_eq_true rfl, Nat.zero_le _, Nat.zero_le _⟩ (tw_1060 B.2.2.2.2.1) rfl hl.1 rfl (Nat.le_of_ble_eq_true rfl) dX8_isCell_2 ?_
  clear hw hH
  intro r2 h1 H locs hw hH
  refine lv_if_eq (tgt := 29) B.1 B.2.1 dX8_isCell_5 (by decide) (fun c3 => ?_) (fun c3 => ?_)
  · replace hw := hw.1 c3
    refine lv_iconst (v := 0) B.1 B.2.1 dX8_isCell_29 (by decide) ?_
    exact e_z B hr (by decide) hH hw dX8_isCell_30
  · replace hw := hw.2 c3
    refine lv_iload_n B.1 B.2.1 dX8_isCell_8 rfl (lv_at hl 2 rfl) ?_
    refine lv_i2l B.1 B.2.1 dX8_isCell_9 rfl ?_
    refine lv_lconst (v := 0) B.1 B.2.1 dX8_isCell_10 (by decide) ?_
    refine lv_aload_n B.1 B.2.1 dX8_isCell_11 rfl (lv_at hl 0 rfl) ?_
    refine lv_iload_n B.1 B.2.1 dX8_isCell_12 rfl (lv_at hl 1 rfl) ?_
    refine c_S_I (own := RX8) (As := [.ref (zA Z a0), .int a1]) (rest := [.long 0, .long (a2.toInt64)]) B hH (cy_X8_cells B.2.2.2.2.1) (ct_X8_cells B.2.2.2.2.2.2.2 l a0 a1 h1 _ _ (k0) hw) ⟨⟨rfl, rfl⟩, Nat.le_of_ble_eq_true rfl, Nat.le_of_ble_eq_true rfl, Nat.zero_le _, Nat.zero_le _⟩ (tw_1063 B.2.2.2.2.1) rfl hl.1 rfl (Nat.le_of_ble_eq_true rfl) dX8_isCell_13 ?_
    clear hw hH
    intro r5 h4 H locs hw hH
    refine lv_iconst (v := 1) B.1 B.2.1 dX8_isCell_16 (by decide) ?_
    refine lv_isub B.1 B.2.1 dX8_isCell_17 ?_
    refine lv_i2l B.1 B.2.1 dX8_isCell_18 rfl ?_
    refine c_S_I (own := RX8) (As := [.long (a2.toInt64), .long 0, .long ((r5 - 1).toInt64)]) (rest := []) B hH (cy_X8_in B.2.2.2.2.1) (ct_X8_in B.2.2.2.2.2.2.2 l (a2.toInt64) 0 ((r5 - 1).toInt64) h4 _ _  hw) ⟨⟨rfl, rfl⟩, Nat.le_of_ble_eq_true rfl, Nat.le_of_ble_eq_true rfl, Nat.zero_le _, Nat.zero_le _⟩ (tw_1010 B.2.2.2.2.1) rfl hl.1 rfl (Nat.le_of_ble_eq_true rfl) dX8_isCell_19 ?_
    clear hw hH
    intro r7 h6 H locs hw hH
    refine lv_if_eq (tgt := 29) B.1 B.2.1 dX8_isCell_22 (by decide) (fun c8 => ?_) (fun c8 => ?_)
    · replace hw := hw.1 c8
      refine lv_iconst (v := 0) B.1 B.2.1 dX8_isCell_29 (by decide) ?_
      exact e_z B hr (by decide) hH hw dX8_isCell_30
    · replace hw := hw.2 c8
      refine lv_iconst (v := 1) B.1 B.2.1 dX8_isCell_25 (by decide) ?_
      refine lv_goto (tgt := 30) B.1 B.2.1 dX8_isCell_26 (by decide) ?_
      exact e_z B hr (by decide) hH hw dX8_isCell_30
theorem cy_X8_isPlace {s : State} {args : Array Value} (hG : GG s) : CYS s args yX8_isPlace cX8_isPlace 3 (some .boolean) 3 := CYS.of hG (fun _ _ hG => tw_1088 hG) (tw_8 hG) (tw_1087 hG) (by decide +kernel)
set_option maxRecDepth 100000 in
set_option maxHeartbeats 4000000 in
theorem ct_X8_isPlace {Z : ZT} (hZ : ZO Z) (l : Launch) (a0 : Nat) (a1 : Int32) (a2 : Int32) (h : PH) (sz : Nat) (Q : Int32 → PH → Prop) (k0 : kd a0 = 10) (hw : wp_X8_isPlace a0 a1 a2 h Q) : MI Z l yX8_isPlace cX8_isPlace 3 (some .boolean) ({ frames := 2, cells := 0, slots := 0, locals := 46 } : Room) h sz [.ref (zA Z a0), .int a1, .int a2] Q := by
  refine open_M hZ (by decide +kernel) (by exact Nat.le_of_ble_eq_true rfl) ?_
  intro p e s m below meth c B hr hsz ls hl hH
  subst hsz
  have hl : lv_has ls 3 [(0, .ref (zA Z a0)), (1, .int a1), (2, .int a2)] := hl
  unfold wp_X8_isPlace at hw
  refine lv_aload_n B.1 B.2.1 dX8_isPlace_0 rfl (lv_at hl 0 rfl) ?_
  refine lv_iload_n B.1 B.2.1 dX8_isPlace_1 rfl (lv_at hl 1 rfl) ?_
  refine c_S_I (own := RX8) (As := [.ref (zA Z a0), .int a1]) (rest := []) B hH (cy_X8_isReel B.2.2.2.2.1) (ct_X8_isReel B.2.2.2.2.2.2.2 l a0 a1 h _ _ (k0) hw) ⟨⟨rfl, rfl⟩, Nat.le_of_ble_eq_true rfl, Nat.le_of_ble_eq_true rfl, Nat.zero_le _, Nat.zero_le _⟩ (tw_1060 B.2.2.2.2.1) rfl hl.1 rfl (Nat.le_of_ble_eq_true rfl) dX8_isPlace_2 ?_
  clear hw hH
  intro r2 h1 H locs hw hH
  refine lv_if_eq (tgt := 27) B.1 B.2.1 dX8_isPlace_5 (by decide) (fun c3 => ?_) (fun c3 => ?_)
  · replace hw := hw.1 c3
    refine lv_iconst (v := 0) B.1 B.2.1 dX8_isPlace_27 (by decide) ?_
    exact e_z B hr (by decide) hH hw dX8_isPlace_28
  · replace hw := hw.2 c3
    refine lv_iload_n B.1 B.2.1 dX8_isPlace_8 rfl (lv_at hl 2 rfl) ?_
    refine lv_i2l B.1 B.2.1 dX8_isPlace_9 rfl ?_
    refine lv_lconst (v := 0) B.1 B.2.1 dX8_isPlace_10 (by decide) ?_
    refine lv_aload_n B.1 B.2.1 dX8_isPlace_11 rfl (lv_at hl 0 rfl) ?_
    refine lv_iload_n B.1 B.2.1 dX8_isPlace_12 rfl (lv_at hl 1 rfl) ?_
    refine c_S_I (own := RX8) (As := [.ref (zA Z a0), .int a1]) (rest := [.long 0, .long (a2.toInt64)]) B hH (cy_X8_cells B.2.2.2.2.1) (ct_X8_cells B.2.2.2.2.2.2.2 l a0 a1 h1 _ _ (k0) hw) ⟨⟨rfl, rfl⟩, Nat.le_of_ble_eq_true rfl, Nat.le_of_ble_eq_true rfl, Nat.zero_le _, Nat.zero_le _⟩ (tw_1063 B.2.2.2.2.1) rfl hl.1 rfl (Nat.le_of_ble_eq_true rfl) dX8_isPlace_13 ?_
    clear hw hH
    intro r5 h4 H locs hw hH
    refine lv_i2l B.1 B.2.1 dX8_isPlace_16 rfl ?_
    refine c_S_I (own := RX8) (As := [.long (a2.toInt64), .long 0, .long (r5.toInt64)]) (rest := []) B hH (cy_X8_in B.2.2.2.2.1) (ct_X8_in B.2.2.2.2.2.2.2 l (a2.toInt64) 0 (r5.toInt64) h4 _ _  hw) ⟨⟨rfl, rfl⟩, Nat.le_of_ble_eq_true rfl, Nat.le_of_ble_eq_true rfl, Nat.zero_le _, Nat.zero_le _⟩ (tw_1010 B.2.2.2.2.1) rfl hl.1 rfl (Nat.le_of_ble_eq_true rfl) dX8_isPlace_17 ?_
    clear hw hH
    intro r7 h6 H locs hw hH
    refine lv_if_eq (tgt := 27) B.1 B.2.1 dX8_isPlace_20 (by decide) (fun c8 => ?_) (fun c8 => ?_)
    · replace hw := hw.1 c8
      refine lv_iconst (v := 0) B.1 B.2.1 dX8_isPlace_27 (by decide) ?_
      exact e_z B hr (by decide) hH hw dX8_isPlace_28
    · replace hw := hw.2 c8
      refine lv_iconst (v := 1) B.1 B.2.1 dX8_isPlace_23 (by decide) ?_
      refine lv_goto (tgt := 28) B.1 B.2.1 dX8_isPlace_24 (by decide) ?_
      exact e_z B hr (by decide) hH hw dX8_isPlace_28
theorem cy_X8_isLoop {s : State} {args : Array Value} (hG : GG s) : CYS s args yX8_isLoop cX8_isLoop 2 (some .boolean) 2 := CYS.of hG (fun _ _ hG => tw_1085 hG) (tw_8 hG) (tw_1084 hG) (by decide +kernel)
set_option maxRecDepth 100000 in
set_option maxHeartbeats 4000000 in
theorem ct_X8_isLoop {Z : ZT} (hZ : ZO Z) (l : Launch) (a0 : Nat) (a1 : Int32) (h : PH) (sz : Nat) (Q : Int32 → PH → Prop) (k0 : kd a0 = 10) (hw : wp_X8_isLoop a0 a1 h Q) : MI Z l yX8_isLoop cX8_isLoop 2 (some .boolean) ({ frames := 1, cells := 0, slots := 0, locals := 25 } : Room) h sz [.ref (zA Z a0), .int a1] Q := by
  refine open_M hZ (by decide +kernel) (by exact Nat.le_of_ble_eq_true rfl) ?_
  intro p e s m below meth c B hr hsz ls hl hH
  subst hsz
  have hl : lv_has ls 2 [(0, .ref (zA Z a0)), (1, .int a1)] := hl
  unfold wp_X8_isLoop at hw
  refine lv_iload_n B.1 B.2.1 dX8_isLoop_0 rfl (lv_at hl 1 rfl) ?_
  refine lv_i2l B.1 B.2.1 dX8_isLoop_1 rfl ?_
  refine lv_lconst (v := 0) B.1 B.2.1 dX8_isLoop_2 (by decide) ?_
  refine lv_aload_n B.1 B.2.1 dX8_isLoop_3 rfl (lv_at hl 0 rfl) ?_
  refine lv_iconst (v := 1) B.1 B.2.1 dX8_isLoop_4 (by decide) ?_
  have q1 := hw.1
  replace hw := hw.2
  refine r_iald B hH (k0) q1 dX8_isLoop_5 ?_
  refine lv_iconst (v := 1) B.1 B.2.1 dX8_isLoop_6 (by decide) ?_
  refine lv_isub B.1 B.2.1 dX8_isLoop_7 ?_
  refine lv_i2l B.1 B.2.1 dX8_isLoop_8 rfl ?_
  refine c_S_I (own := RX8) (As := [.long (a1.toInt64), .long 0, .long (((h a0 (1 : Int32).toNatClampNeg) - 1).toInt64)]) (rest := []) B hH (cy_X8_in B.2.2.2.2.1) (ct_X8_in B.2.2.2.2.2.2.2 l (a1.toInt64) 0 (((h a0 (1 : Int32).toNatClampNeg) - 1).toInt64) h _ _  hw) ⟨⟨rfl, rfl⟩, Nat.le_of_ble_eq_true rfl, Nat.le_of_ble_eq_true rfl, Nat.zero_le _, Nat.zero_le _⟩ (tw_1010 B.2.2.2.2.1) rfl hl.1 rfl (Nat.le_of_ble_eq_true rfl) dX8_isLoop_9 ?_
  clear hw hH
  intro r3 h2 H locs hw hH
  exact e_z B hr hw.1 hH hw.2 dX8_isLoop_12
