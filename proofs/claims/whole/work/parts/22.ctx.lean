theorem cy_X6_kindsOf {s : State} {args : Array Value} (hG : GG s) : CYS s args yX6_kindsOf cX6_kindsOf 1 (some (.object "java/lang/String")) 1 := CYS.of hG (fun _ _ hG => tw_240 hG) (tw_7 hG) (tw_239 hG) (by decide +kernel)
set_option maxRecDepth 100000 in
set_option maxHeartbeats 4000000 in
theorem ct_X6_kindsOf {Z : ZT} (hZ : ZO Z) (l : Launch) (ad : Nat → Nat) (a0 : Int32) (h : PH) (sz : Nat) (Q : Nat → PH → Prop) (hw : wp_X6_kindsOf a0 h Q) : Met l yX6_kindsOf [.code yX6_kindsOf cX6_kindsOf 1 (some (.object "java/lang/String"))] ({ frames := 0, cells := 0, slots := 0, locals := 0 } : Room) (PcT Z sz h ad [.int a0]) (va_Qe ad (QT8 Q) (BZ Z) (fr Z sz)) 0 0 (fr Z sz) := by
  refine open_T hZ (by decide +kernel) (by exact Nat.le_of_ble_eq_true rfl) ?_
  intro p e s m below meth c B hr hsz ls hl hH hA
  subst hsz
  have hl : lv_has ls 1 [(0, .int a0)] := hl
  unfold wp_X6_kindsOf at hw
  refine lv_iload_n B.1 B.2.1 dX6_kindsOf_0 rfl (lv_at hl 0 rfl) ?_
  by_cases c1 : (a0 = 99)
  · replace hw := hw.1 c1
    refine lv_tableIn (off := 105) (tgt := 106) B.1 B.2.1 dX6_kindsOf_1 (by rw [c1]; decide) (by rw [c1]; decide) (by rw [c1]; rfl) (by decide) ?_
    refine va_ldcS B.1 B.2.1 (own := RX6) B.2.2.2.1 (hA 2 (by decide)) dX6_kindsOf_106 ?_
    exact e_t B hr (by decide) hH hw dX6_kindsOf_108
  · by_cases c2 : (a0 = 100 ∨ a0 = 101 ∨ a0 = 102 ∨ a0 = 103 ∨ a0 = 104 ∨ a0 = 105 ∨ a0 = 106 ∨ a0 = 107 ∨ a0 = 108 ∨ a0 = 110 ∨ a0 = 111 ∨ a0 = 113 ∨ a0 = 115 ∨ a0 = 117)
    · replace hw := hw.2.1 c2
      refine lv_tableIn (off := 120) (tgt := 121) B.1 B.2.1 dX6_kindsOf_1 (by rcases c2 with e9 | e9 | e9 | e9 | e9 | e9 | e9 | e9 | e9 | e9 | e9 | e9 | e9 | e9 <;> rw [e9] <;> decide) (by rcases c2 with e9 | e9 | e9 | e9 | e9 | e9 | e9 | e9 | e9 | e9 | e9 | e9 | e9 | e9 <;> rw [e9] <;> decide) (by rcases c2 with e9 | e9 | e9 | e9 | e9 | e9 | e9 | e9 | e9 | e9 | e9 | e9 | e9 | e9 <;> rw [e9] <;> rfl) (by decide) ?_
      refine va_ldcS B.1 B.2.1 (own := RX6) B.2.2.2.1 (hA 7 (by decide)) dX6_kindsOf_121 ?_
      exact e_t B hr (by decide) hH hw dX6_kindsOf_123
    · by_cases c3 : (a0 = 109)
      · replace hw := hw.2.2.1 c3
        refine lv_tableIn (off := 111) (tgt := 112) B.1 B.2.1 dX6_kindsOf_1 (by rw [c3]; decide) (by rw [c3]; decide) (by rw [c3]; rfl) (by decide) ?_
        refine va_ldcS B.1 B.2.1 (own := RX6) B.2.2.2.1 (hA 4 (by decide)) dX6_kindsOf_112 ?_
        exact e_t B hr (by decide) hH hw dX6_kindsOf_114
      · by_cases c4 : (a0 = 112)
        · replace hw := hw.2.2.2.1 c4
          refine lv_tableIn (off := 102) (tgt := 103) B.1 B.2.1 dX6_kindsOf_1 (by rw [c4]; decide) (by rw [c4]; decide) (by rw [c4]; rfl) (by decide) ?_
          refine va_ldcS B.1 B.2.1 (own := RX6) B.2.2.2.1 (hA 1 (by decide)) dX6_kindsOf_103 ?_
          exact e_t B hr (by decide) hH hw dX6_kindsOf_105
        · by_cases c5 : (a0 = 114)
          · replace hw := hw.2.2.2.2.1 c5
            refine lv_tableIn (off := 99) (tgt := 100) B.1 B.2.1 dX6_kindsOf_1 (by rw [c5]; decide) (by rw [c5]; decide) (by rw [c5]; rfl) (by decide) ?_
            refine va_ldcS B.1 B.2.1 (own := RX6) B.2.2.2.1 (hA 0 (by decide)) dX6_kindsOf_100 ?_
            exact e_t B hr (by decide) hH hw dX6_kindsOf_102
          · by_cases c6 : (a0 = 116)
            · replace hw := hw.2.2.2.2.2.1 c6
              refine lv_tableIn (off := 114) (tgt := 115) B.1 B.2.1 dX6_kindsOf_1 (by rw [c6]; decide) (by rw [c6]; decide) (by rw [c6]; rfl) (by decide) ?_
              refine va_ldcS B.1 B.2.1 (own := RX6) B.2.2.2.1 (hA 5 (by decide)) dX6_kindsOf_115 ?_
              exact e_t B hr (by decide) hH hw dX6_kindsOf_117
            · by_cases c7 : (a0 = 118)
              · replace hw := hw.2.2.2.2.2.2.1 c7
                refine lv_tableIn (off := 108) (tgt := 109) B.1 B.2.1 dX6_kindsOf_1 (by rw [c7]; decide) (by rw [c7]; decide) (by rw [c7]; rfl) (by decide) ?_
                refine va_ldcS B.1 B.2.1 (own := RX6) B.2.2.2.1 (hA 3 (by decide)) dX6_kindsOf_109 ?_
                exact e_t B hr (by decide) hH hw dX6_kindsOf_111
              · by_cases c8 : (a0 = 119)
                · replace hw := hw.2.2.2.2.2.2.2.1 c8
                  refine lv_tableIn (off := 117) (tgt := 118) B.1 B.2.1 dX6_kindsOf_1 (by rw [c8]; decide) (by rw [c8]; decide) (by rw [c8]; rfl) (by decide) ?_
                  refine va_ldcS B.1 B.2.1 (own := RX6) B.2.2.2.1 (hA 6 (by decide)) dX6_kindsOf_118 ?_
                  exact e_t B hr (by decide) hH hw dX6_kindsOf_120
                · replace hw := hw.2.2.2.2.2.2.2.2 c1 (fun z => c2 (Or.inl z)) (fun z => c2 (Or.inr (Or.inl z))) (fun z => c2 (Or.inr (Or.inr (Or.inl z)))) (fun z => c2 (Or.inr (Or.inr (Or.inr (Or.inl z))))) (fun z => c2 (Or.inr (Or.inr (Or.inr (Or.inr (Or.inl z)))))) (fun z => c2 (Or.inr (Or.inr (Or.inr (Or.inr (Or.inr (Or.inl z))))))) (fun z => c2 (Or.inr (Or.inr (Or.inr (Or.inr (Or.inr (Or.inr (Or.inl z)))))))) (fun z => c2 (Or.inr (Or.inr (Or.inr (Or.inr (Or.inr (Or.inr (Or.inr (Or.inl z))))))))) (fun z => c2 (Or.inr (Or.inr (Or.inr (Or.inr (Or.inr (Or.inr (Or.inr (Or.inr (Or.inl z)))))))))) c3 (fun z => c2 (Or.inr (Or.inr (Or.inr (Or.inr (Or.inr (Or.inr (Or.inr (Or.inr (Or.inr (Or.inl z))))))))))) (fun z => c2 (Or.inr (Or.inr (Or.inr (Or.inr (Or.inr (Or.inr (Or.inr (Or.inr (Or.inr (Or.inr (Or.inl z)))))))))))) c4 (fun z => c2 (Or.inr (Or.inr (Or.inr (Or.inr (Or.inr (Or.inr (Or.inr (Or.inr (Or.inr (Or.inr (Or.inr (Or.inl z))))))))))))) c5 (fun z => c2 (Or.inr (Or.inr (Or.inr (Or.inr (Or.inr (Or.inr (Or.inr (Or.inr (Or.inr (Or.inr (Or.inr (Or.inr (Or.inl z)))))))))))))) c6 (fun z => c2 (Or.inr (Or.inr (Or.inr (Or.inr (Or.inr (Or.inr (Or.inr (Or.inr (Or.inr (Or.inr (Or.inr (Or.inr (Or.inr z)))))))))))))) c7 c8
                  have t99 := lv_neT (x := a0) (k := 99) (a := 99) c1 (by decide)
                  have t100 := lv_neT (x := a0) (k := 100) (a := 100) (fun z => c2 (Or.inl z)) (by decide)
                  have t101 := lv_neT (x := a0) (k := 101) (a := 101) (fun z => c2 (Or.inr (Or.inl z))) (by decide)
                  have t102 := lv_neT (x := a0) (k := 102) (a := 102) (fun z => c2 (Or.inr (Or.inr (Or.inl z)))) (by decide)
                  have t103 := lv_neT (x := a0) (k := 103) (a := 103) (fun z => c2 (Or.inr (Or.inr (Or.inr (Or.inl z))))) (by decide)
                  have t104 := lv_neT (x := a0) (k := 104) (a := 104) (fun z => c2 (Or.inr (Or.inr (Or.inr (Or.inr (Or.inl z)))))) (by decide)
                  have t105 := lv_neT (x := a0) (k := 105) (a := 105) (fun z => c2 (Or.inr (Or.inr (Or.inr (Or.inr (Or.inr (Or.inl z))))))) (by decide)
                  have t106 := lv_neT (x := a0) (k := 106) (a := 106) (fun z => c2 (Or.inr (Or.inr (Or.inr (Or.inr (Or.inr (Or.inr (Or.inl z)))))))) (by decide)
                  have t107 := lv_neT (x := a0) (k := 107) (a := 107) (fun z => c2 (Or.inr (Or.inr (Or.inr (Or.inr (Or.inr (Or.inr (Or.inr (Or.inl z))))))))) (by decide)
                  have t108 := lv_neT (x := a0) (k := 108) (a := 108) (fun z => c2 (Or.inr (Or.inr (Or.inr (Or.inr (Or.inr (Or.inr (Or.inr (Or.inr (Or.inl z)))))))))) (by decide)
                  have t109 := lv_neT (x := a0) (k := 109) (a := 109) c3 (by decide)
                  have t110 := lv_neT (x := a0) (k := 110) (a := 110) (fun z => c2 (Or.inr (Or.inr (Or.inr (Or.inr (Or.inr (Or.inr (Or.inr (Or.inr (Or.inr (Or.inl z))))))))))) (by decide)
                  have t111 := lv_neT (x := a0) (k := 111) (a := 111) (fun z => c2 (Or.inr (Or.inr (Or.inr (Or.inr (Or.inr (Or.inr (Or.inr (Or.inr (Or.inr (Or.inr (Or.inl z)))))))))))) (by decide)
                  have t112 := lv_neT (x := a0) (k := 112) (a := 112) c4 (by decide)
                  have t113 := lv_neT (x := a0) (k := 113) (a := 113) (fun z => c2 (Or.inr (Or.inr (Or.inr (Or.inr (Or.inr (Or.inr (Or.inr (Or.inr (Or.inr (Or.inr (Or.inr (Or.inl z))))))))))))) (by decide)
                  have t114 := lv_neT (x := a0) (k := 114) (a := 114) c5 (by decide)
                  have t115 := lv_neT (x := a0) (k := 115) (a := 115) (fun z => c2 (Or.inr (Or.inr (Or.inr (Or.inr (Or.inr (Or.inr (Or.inr (Or.inr (Or.inr (Or.inr (Or.inr (Or.inr (Or.inl z)))))))))))))) (by decide)
                  have t116 := lv_neT (x := a0) (k := 116) (a := 116) c6 (by decide)
                  have t117 := lv_neT (x := a0) (k := 117) (a := 117) (fun z => c2 (Or.inr (Or.inr (Or.inr (Or.inr (Or.inr (Or.inr (Or.inr (Or.inr (Or.inr (Or.inr (Or.inr (Or.inr (Or.inr z)))))))))))))) (by decide)
                  have t118 := lv_neT (x := a0) (k := 118) (a := 118) c7 (by decide)
                  have t119 := lv_neT (x := a0) (k := 119) (a := 119) c8 (by decide)
                  refine lv_tableOut (tgt := 121) B.1 B.2.1 dX6_kindsOf_1 (by omega) (by decide) ?_
                  refine va_ldcS B.1 B.2.1 (own := RX6) B.2.2.2.1 (hA 7 (by decide)) dX6_kindsOf_121 ?_
                  exact e_t B hr (by decide) hH hw dX6_kindsOf_123
theorem cy_X6_readCommand {s : State} {args : Array Value} (hG : GG s) : CYV s args yX6_readCommand cX6_readCommand 3 (some .boolean) 0 := CYV.of hG (fun _ _ hG => tw_234 hG) (tw_7 hG) (tw_233 hG) (tp_4 hG) (by decide +kernel)
set_option maxRecDepth 100000 in
set_option maxHeartbeats 4000000 in
theorem ct_X6_readCommand {Z : ZT} (hZ : ZO Z) (l : Launch) (hl9 : l.stackTraces = false) (a0 : Nat) (h : PH) (sz : Nat) (Q : Int32 → PH → Prop) (k0 : kd a0 = 7) (hw : wp_X6_readCommand a0 h Q) : KI Z l yX6_readCommand cX6_readCommand 3 (some .boolean) ({ frames := 4, cells := 0, slots := 0, locals := 85 } : Room) h sz [.ref (zA Z a0)] Q := by
  refine open_K hZ hl9 (by decide +kernel) (by exact Nat.le_of_ble_eq_true rfl) ?_
  intro p e s m below meth c B hr hsz ls hl hH hB
  obtain ⟨ad, av9, hA, hSC⟩ := KT.ad hB.1.2.2.2
  subst hsz
  have hl : lv_has ls 3 [(0, .ref (zA Z a0))] := hl
  unfold wp_X6_readCommand at hw
  have L44 : ∀ (b0 : Nat) (b1 : Nat), kd b0 = 7 → b1 < 8 → ∀ (n : Nat) (b2 : Int32) (h : PH), ∀ (H : Heap) (locs : List Loc) (ls : Array Slot), wp_X6_readCommand_b44 b0 b1 Q n b2 h → HH Z s h H locs → lv_has ls 3 [(0, .ref (zA Z b0)), (1, .ref (ad b1)), (2, .int b2)] → W p l e ({ frames := 4, cells := 0, slots := 0, locals := 85 } : Room) s m ([.ref (zA Z a0)]).toArray below meth c H locs 0 0 (MQ below (va_Qi Q (BZ Z) (fr Z s.heap.size)) ([.ref (zA Z a0)]).toArray s 0 0 (fr Z s.heap.size)) (F0 m 44 ls []) := by
    intro b0 b1 kb0 kb1 n
    induction n with
    | zero => intro b2 h H locs ls hw hH hl; exact absurd hw id
    | succ n ih =>
      intro b2 h H locs ls hw hH hl
      unfold wp_X6_readCommand_b44 at hw
      refine lv_iload_n B.1 B.2.1 dX6_readCommand_44 rfl (lv_at hl 2 rfl) ?_
      refine lv_aload_n B.1 B.2.1 dX6_readCommand_45 rfl (lv_at hl 1 rfl) ?_
      refine s_V_I (own := RX6) (As := []) (rest := [.int b2]) B hH hB.1.2.2.1 (hSC b1 kb1) (cy_J0_length_8abf5 B.2.2.2.2.1) (ct_J0_length_8abf5 B.2.2.2.2.2.2.2 l h _ (fun r9 h9 => nI (klen b1) = r9 ∧ h = h9) (klen_s kb1) ⟨rfl, rfl⟩) ⟨⟨rfl, rfl⟩, Nat.le_of_ble_eq_true rfl, Nat.le_of_ble_eq_true rfl, Nat.zero_le _, Nat.zero_le _⟩ rfl (tw_249 B.2.2.2.2.1) rfl hl.1 rfl (Nat.le_of_ble_eq_true rfl) dX6_readCommand_46 ?_
      clear hH
      rintro _ _ H locs ⟨rfl, rfl⟩ hH
      refine lv_icmp_ge (tgt := 73) B.1 B.2.1 dX6_readCommand_49 (by decide) (fun c10 => ?_) (fun c10 => ?_)
      · replace hw := hw.1 c10
        refine lv_iconst (v := 1) B.1 B.2.1 dX6_readCommand_73 (by decide) ?_
        exact e_z B hr (by decide) hH hw dX6_readCommand_74
      · replace hw := hw.2 c10
        refine lv_aload_n B.1 B.2.1 dX6_readCommand_52 rfl (lv_at hl 0 rfl) ?_
        refine lv_iload_n B.1 B.2.1 dX6_readCommand_53 rfl (lv_at hl 2 rfl) ?_
        refine lv_aload_n B.1 B.2.1 dX6_readCommand_54 rfl (lv_at hl 1 rfl) ?_
        refine lv_iload_n B.1 B.2.1 dX6_readCommand_55 rfl (lv_at hl 2 rfl) ?_
        have q11 := hw.1
        replace hw := hw.2
        refine s_V_I (own := RX6) (As := [.int b2]) (rest := [.int b2, .ref (zA Z b0)]) B hH hB.1.2.2.1 (hSC b1 kb1) (cy_J0_charAt_5068e B.2.2.2.2.1) (ct_chx B.2.2.2.2.2.2.2 l b2 h _ (fun r9 h9 => kch b1 b2.toNatClampNeg = r9 ∧ h = h9) q11 (klen_s kb1) ⟨rfl, rfl⟩) ⟨⟨rfl, rfl⟩, Nat.le_of_ble_eq_true rfl, Nat.le_of_ble_eq_true rfl, Nat.zero_le _, Nat.zero_le _⟩ rfl (tw_259 B.2.2.2.2.1) rfl hl.1 rfl (Nat.le_of_ble_eq_true rfl) dX6_readCommand_56 ?_
        clear hH
        rintro _ _ H locs ⟨rfl, rfl⟩ hH
        refine c_V_I (own := RX6) (As := [.int b2, .int (kch b1 b2.toNatClampNeg)]) (rest := []) B hH (cy_X6_readNumber B.2.2.2.2.1) (ct_X6_readNumber B.2.2.2.2.2.2.2 l b0 b2 (kch b1 b2.toNatClampNeg) h _ _ (kb0) hw) ⟨⟨rfl, rfl⟩, Nat.le_of_ble_eq_true rfl, Nat.le_of_ble_eq_true rfl, Nat.zero_le _, Nat.zero_le _⟩ (rv_7 B hH (kb0)) (tw_297 B.2.2.2.2.1) rfl hl.1 rfl (Nat.le_of_ble_eq_true rfl) dX6_readCommand_59 ?_
        clear hw hH
        intro r13 h12 H locs hw hH
        refine lv_if_ne (tgt := 67) B.1 B.2.1 dX6_readCommand_62 (by decide) (fun c14 => ?_) (fun c14 => ?_)
        · replace hw := hw.1 c14
          obtain ⟨x15, ex15⟩ : ∃ y : Int32, y = b2 + 1 := ⟨_, rfl⟩
          replace hw := hw x15 ex15
          refine lv_iinc (v := x15) (lv' := [(2, .int x15), (0, .ref (zA Z b0)), (1, .ref (ad b1))]) B.1 B.2.1 dX6_readCommand_67 hl (k := 2) rfl (by rw [ex15]; rfl) (by decide) (by first | rfl | simp [va_re_cat, Value.category]) ?_
          clear hl
          intro ls hl
          refine lv_goto (tgt := 44) B.1 B.2.1 dX6_readCommand_70 (by decide) ?_
          exact ih x15 h12  _ _ _ hw hH (lv_sub hl [1, 2, 0] rfl)
        · replace hw := hw.2 c14
          refine lv_iconst (v := 0) B.1 B.2.1 dX6_readCommand_65 (by decide) ?_
          exact e_z B hr (by decide) hH hw dX6_readCommand_66
  refine lv_aload_n B.1 B.2.1 dX6_readCommand_0 rfl (lv_at hl 0 rfl) ?_
  refine lv_aload_n B.1 B.2.1 dX6_readCommand_1 rfl (lv_at hl 0 rfl) ?_
  refine lv_aload_n B.1 B.2.1 dX6_readCommand_2 rfl (lv_at hl 0 rfl) ?_
  refine r_get B hH (own := RX6) (kd_n B (k0) (by decide) (by decide)) (ct_7 (k0)) rfl (ul_7 B.2.2.2.2.1) 3 (by decide) rfl (tw_168 B.2.2.2.2.1) dX6_readCommand_3 ?_
  refine c_V_I (own := RX6) (As := [.int (h a0 3)]) (rest := [.ref (zA Z a0)]) B hH (cy_X6_signAt B.2.2.2.2.1) (ct_X6_signAt B.2.2.2.2.2.2.2 l a0 (h a0 3) h _ _ (k0) hw) ⟨⟨rfl, rfl⟩, Nat.le_of_ble_eq_true rfl, Nat.le_of_ble_eq_true rfl, Nat.zero_le _, Nat.zero_le _⟩ (rv_7 B hH (k0)) (tw_217 B.2.2.2.2.1) rfl hl.1 rfl (Nat.le_of_ble_eq_true rfl) dX6_readCommand_6 ?_
  clear hw hH
  intro r2 h1 H locs hw hH
  refine r_put B hH (own := RX6) (kd_n B (k0) (by decide) (by decide)) (ct_7 (k0)) rfl (ul_7 B.2.2.2.2.1) tyX6 tyX6_ok nmX6 4 (by decide) (ty := .int) rfl rfl rfl rfl (Nat.le_of_ble_eq_true rfl) (cs_7_4 (k0)) (tw_170 B.2.2.2.2.1) dX6_readCommand_9 ?_
  clear hH
  intro H locs hH
  obtain ⟨h3, eh3⟩ : ∃ z : PH, z = up2 h1 a0 4 r2 := ⟨_, rfl⟩
  rw [← eh3] at hH
  replace hw := hw h3 eh3
  refine lv_aload_n B.1 B.2.1 dX6_readCommand_12 rfl (lv_at hl 0 rfl) ?_
  refine r_get B hH (own := RX6) (kd_n B (k0) (by decide) (by decide)) (ct_7 (k0)) rfl (ul_7 B.2.2.2.2.1) 4 (by decide) rfl (tw_170 B.2.2.2.2.1) dX6_readCommand_13 ?_
  refine c_S_I (own := RX6) (As := [.int (h3 a0 4)]) (rest := []) B hH (cy_X6_isCommand B.2.2.2.2.1) (ct_X6_isCommand B.2.2.2.2.2.2.2 l (h3 a0 4) h3 _ _  hw) ⟨⟨rfl, rfl⟩, Nat.le_of_ble_eq_true rfl, Nat.le_of_ble_eq_true rfl, Nat.zero_le _, Nat.zero_le _⟩ (tw_235 B.2.2.2.2.1) rfl hl.1 rfl (Nat.le_of_ble_eq_true rfl) dX6_readCommand_16 ?_
  clear hw hH
  intro r5 h4 H locs hw hH
  refine lv_if_ne (tgt := 24) B.1 B.2.1 dX6_readCommand_19 (by decide) (fun c6 => ?_) (fun c6 => ?_)
  · replace hw := hw.1 c6
    refine lv_aload_n B.1 B.2.1 dX6_readCommand_24 rfl (lv_at hl 0 rfl) ?_
    refine lv_dup B.1 B.2.1 dX6_readCommand_25 rfl ?_
    refine r_get B hH (own := RX6) (kd_n B (k0) (by decide) (by decide)) (ct_7 (k0)) rfl (ul_7 B.2.2.2.2.1) 3 (by decide) rfl (tw_168 B.2.2.2.2.1) dX6_readCommand_26 ?_
    refine lv_iconst (v := 1) B.1 B.2.1 dX6_readCommand_29 (by decide) ?_
    refine lv_iadd B.1 B.2.1 dX6_readCommand_30 ?_
    refine r_put B hH (own := RX6) (kd_n B (k0) (by decide) (by decide)) (ct_7 (k0)) rfl (ul_7 B.2.2.2.2.1) tyX6 tyX6_ok nmX6 3 (by decide) (ty := .int) rfl rfl rfl rfl (Nat.le_of_ble_eq_true rfl) (cs_7_3 (k0)) (tw_168 B.2.2.2.2.1) dX6_readCommand_31 ?_
    clear hH
    intro H locs hH
    obtain ⟨h7, eh7⟩ : ∃ z : PH, z = up2 h4 a0 3 ((h4 a0 3) + 1) := ⟨_, rfl⟩
    rw [← eh7] at hH
    replace hw := hw h7 eh7
    refine lv_aload_n B.1 B.2.1 dX6_readCommand_34 rfl (lv_at hl 0 rfl) ?_
    refine r_get B hH (own := RX6) (kd_n B (k0) (by decide) (by decide)) (ct_7 (k0)) rfl (ul_7 B.2.2.2.2.1) 4 (by decide) rfl (tw_170 B.2.2.2.2.1) dX6_readCommand_35 ?_
    refine t_S (own := RX6) (As := [.int (h7 a0 4)]) (rest := []) B hH hA (cy_X6_kindsOf B.2.2.2.2.1) (ct_X6_kindsOf B.2.2.2.2.2.2.2 l ad (h7 a0 4) h7 _ _ hw) ⟨⟨rfl, rfl⟩, Nat.le_of_ble_eq_true rfl, Nat.le_of_ble_eq_true rfl, Nat.zero_le _, Nat.zero_le _⟩ (tw_238 B.2.2.2.2.1) rfl hl.1 rfl (Nat.le_of_ble_eq_true rfl) dX6_readCommand_38 ?_
    clear hw hH
    intro t8 h9 H locs kt8 hw hH
    refine lv_astore_n (lv' := [(1, .ref (ad t8)), (0, .ref (zA Z a0))]) B.1 B.2.1 dX6_readCommand_41 rfl hl (by decide) (by first | rfl | simp [va_re_cat, Value.category]) ?_
    clear hl
    intro ls hl
    refine lv_iconst (v := 0) B.1 B.2.1 dX6_readCommand_42 (by decide) ?_
    refine lv_istore_n (lv' := [(2, .int 0), (1, .ref (ad t8)), (0, .ref (zA Z a0))]) B.1 B.2.1 dX6_readCommand_43 rfl hl (by decide) (by first | rfl | simp [va_re_cat, Value.category]) ?_
    clear hl
    intro ls hl
    obtain ⟨n16, hw⟩ := hw
    exact L44 a0 t8 (k0) (kt8) n16 0 h9  _ _ _ hw hH (lv_sub hl [2, 1, 0] rfl)
  · replace hw := hw.2 c6
    refine lv_iconst (v := 0) B.1 B.2.1 dX6_readCommand_22 (by decide) ?_
    exact e_z B hr (by decide) hH hw dX6_readCommand_23
theorem cy_X6_firstError {s : State} {args : Array Value} (hG : GG s) : CYV s args yX6_firstError cX6_firstError 2 (some .int) 0 := CYV.of hG (fun _ _ hG => tw_216 hG) (tw_7 hG) (tw_215 hG) (tp_1 hG) (by decide +kernel)
set_option maxRecDepth 100000 in
set_option maxHeartbeats 4000000 in
theorem ct_X6_firstError {Z : ZT} (hZ : ZO Z) (l : Launch) (hl9 : l.stackTraces = false) (a0 : Nat) (h : PH) (sz : Nat) (Q : Int32 → PH → Prop) (k0 : kd a0 = 7) (hw : wp_X6_firstError a0 h Q) : KI Z l yX6_firstError cX6_firstError 2 (some .int) ({ frames := 5, cells := 0, slots := 0, locals := 107 } : Room) h sz [.ref (zA Z a0)] Q := by
  refine open_K hZ hl9 (by decide +kernel) (by exact Nat.le_of_ble_eq_true rfl) ?_
  intro p e s m below meth c B hr hsz ls hl hH hB
  subst hsz
  have hl : lv_has ls 2 [(0, .ref (zA Z a0))] := hl
  unfold wp_X6_firstError at hw
  have L18 : ∀ (b0 : Nat), kd b0 = 7 → ∀ (n : Nat) (b1 : Int32) (h : PH), ∀ (H : Heap) (locs : List Loc) (ls : Array Slot), wp_X6_firstError_b18 b0 Q n b1 h → HH Z s h H locs → lv_has ls 2 [(0, .ref (zA Z b0)), (1, .int b1)] → W p l e ({ frames := 5, cells := 0, slots := 0, locals := 107 } : Room) s m ([.ref (zA Z a0)]).toArray below meth c H locs 0 0 (MQ below (va_Qi Q (BZ Z) (fr Z s.heap.size)) ([.ref (zA Z a0)]).toArray s 0 0 (fr Z s.heap.size)) (F0 m 18 ls []) := by
    intro b0 kb0 n
    induction n with
    | zero => intro b1 h H locs ls hw hH hl; exact absurd hw id
    | succ n ih =>
      intro b1 h H locs ls hw hH hl
      unfold wp_X6_firstError_b18 at hw
      refine lv_iload_n B.1 B.2.1 dX6_firstError_18 rfl (lv_at hl 1 rfl) ?_
      refine lv_bipush (v := 120) B.1 B.2.1 dX6_firstError_19 (by decide) ?_
      refine lv_icmp_ge (tgt := 53) B.1 B.2.1 dX6_firstError_21 (by decide) (fun c5 => ?_) (fun c5 => ?_)
      · replace hw := hw.1 c5
        refine lv_iconst (v := (-1)) B.1 B.2.1 dX6_firstError_53 (by decide) ?_
        exact e_i B hr hH hw dX6_firstError_54
      · replace hw := hw.2 c5
        refine lv_aload_n B.1 B.2.1 dX6_firstError_24 rfl (lv_at hl 0 rfl) ?_
        refine r_get B hH (own := RX6) (kd_n B (kb0) (by decide) (by decide)) (ct_7 (kb0)) rfl (ul_7 B.2.2.2.2.1) 3 (by decide) rfl (tw_168 B.2.2.2.2.1) dX6_firstError_25 ?_
        refine lv_aload_n B.1 B.2.1 dX6_firstError_28 rfl (lv_at hl 0 rfl) ?_
        refine r_get B hH (own := RX6) (kd_n B (kb0) (by decide) (by decide)) (ct_7 (kb0)) rfl (ul_7 B.2.2.2.2.1) 2 (by decide) rfl (tw_167 B.2.2.2.2.1) dX6_firstError_29 ?_
        refine lv_icmp_ge (tgt := 53) B.1 B.2.1 dX6_firstError_32 (by decide) (fun c6 => ?_) (fun c6 => ?_)
        · replace hw := hw.1 c6
          refine lv_iconst (v := (-1)) B.1 B.2.1 dX6_firstError_53 (by decide) ?_
          exact e_i B hr hH hw dX6_firstError_54
        · replace hw := hw.2 c6
          refine lv_aload_n B.1 B.2.1 dX6_firstError_35 rfl (lv_at hl 0 rfl) ?_
          refine k_V_I (own := RX6) (As := []) (rest := []) B hH hB (cy_X6_readCommand B.2.2.2.2.1) (ct_X6_readCommand B.2.2.2.2.2.2.2 l hB.2.2.2 b0 h _ _ (kb0) hw) ⟨⟨rfl, rfl⟩, Nat.le_of_ble_eq_true rfl, Nat.le_of_ble_eq_true rfl, Nat.zero_le _, Nat.zero_le _⟩ (rv_7 B hH (kb0)) (tw_231 B.2.2.2.2.1) rfl hl.1 rfl (Nat.le_of_ble_eq_true rfl) dX6_firstError_36 ?_
          clear hw hH
          intro r8 h7 H locs hw hH
          refine lv_if_ne (tgt := 47) B.1 B.2.1 dX6_firstError_39 (by decide) (fun c9 => ?_) (fun c9 => ?_)
          · replace hw := hw.1 c9
            obtain ⟨x10, ex10⟩ : ∃ y : Int32, y = b1 + 1 := ⟨_, rfl⟩
            replace hw := hw x10 ex10
            refine lv_iinc (v := x10) (lv' := [(1, .int x10), (0, .ref (zA Z b0))]) B.1 B.2.1 dX6_firstError_47 hl (k := 1) rfl (by rw [ex10]; rfl) (by decide) (by first | rfl | simp [va_re_cat, Value.category]) ?_
            clear hl
            intro ls hl
            refine lv_goto (tgt := 18) B.1 B.2.1 dX6_firstError_50 (by decide) ?_
            exact ih x10 h7  _ _ _ hw hH (lv_sub hl [1, 0] rfl)
          · replace hw := hw.2 c9
            refine lv_aload_n B.1 B.2.1 dX6_firstError_42 rfl (lv_at hl 0 rfl) ?_
            refine r_get B hH (own := RX6) (kd_n B (kb0) (by decide) (by decide)) (ct_7 (kb0)) rfl (ul_7 B.2.2.2.2.1) 3 (by decide) rfl (tw_168 B.2.2.2.2.1) dX6_firstError_43 ?_
            exact e_i B hr hH hw dX6_firstError_46
  refine lv_aload_n B.1 B.2.1 dX6_firstError_0 rfl (lv_at hl 0 rfl) ?_
  refine lv_iconst (v := 0) B.1 B.2.1 dX6_firstError_1 (by decide) ?_
  refine c_V_I (own := RX6) (As := [.int 0]) (rest := []) B hH (cy_X6_signAt B.2.2.2.2.1) (ct_X6_signAt B.2.2.2.2.2.2.2 l a0 0 h _ _ (k0) hw) ⟨⟨rfl, rfl⟩, Nat.le_of_ble_eq_true rfl, Nat.le_of_ble_eq_true rfl, Nat.zero_le _, Nat.zero_le _⟩ (rv_7 B hH (k0)) (tw_217 B.2.2.2.2.1) rfl hl.1 rfl (Nat.le_of_ble_eq_true rfl) dX6_firstError_2 ?_
  clear hw hH
  intro r2 h1 H locs hw hH
  refine lv_bipush (v := 90) B.1 B.2.1 dX6_firstError_5 (by decide) ?_
  refine lv_icmp_eq (tgt := 12) B.1 B.2.1 dX6_firstError_7 (by decide) (fun c3 => ?_) (fun c3 => ?_)
  · replace hw := hw.1 c3
    refine lv_aload_n B.1 B.2.1 dX6_firstError_12 rfl (lv_at hl 0 rfl) ?_
    refine c_V_V (own := RX6) (As := []) (rest := []) B hH (cy_X6_begin B.2.2.2.2.1) (ct_X6_begin B.2.2.2.2.2.2.2 l a0 h1 _ _ (k0) hw) ⟨⟨rfl, rfl⟩, Nat.le_of_ble_eq_true rfl, Nat.le_of_ble_eq_true rfl, Nat.zero_le _, Nat.zero_le _⟩ (rv_7 B hH (k0)) (tw_227 B.2.2.2.2.1) rfl hl.1 rfl (Nat.le_of_ble_eq_true rfl) dX6_firstError_13 ?_
    clear hw hH
    intro h4 H locs hw hH
    refine lv_iconst (v := 0) B.1 B.2.1 dX6_firstError_16 (by decide) ?_
    refine lv_istore_n (lv' := [(1, .int 0), (0, .ref (zA Z a0))]) B.1 B.2.1 dX6_firstError_17 rfl hl (by decide) (by first | rfl | simp [va_re_cat, Value.category]) ?_
    clear hl
    intro ls hl
    obtain ⟨n11, hw⟩ := hw
    exact L18 a0 (k0) n11 0 h4  _ _ _ hw hH (lv_sub hl [1, 0] rfl)
  · replace hw := hw.2 c3
    refine lv_iconst (v := 0) B.1 B.2.1 dX6_firstError_10 (by decide) ?_
    exact e_i B hr hH hw dX6_firstError_11
theorem cy_X7_append {s : State} {args : Array Value} (hG : GG s) : CYV s args yX7_append cX7_append 2 (some .int) 1 := CYV.of hG (fun _ _ hG => tw_360 hG) (tw_1 hG) (tw_358 hG) (tw_359 hG) (by decide +kernel)
set_option maxRecDepth 100000 in
set_option maxHeartbeats 4000000 in
theorem ct_X7_append {Z : ZT} (hZ : ZO Z) (l : Launch) (hl9 : l.stackTraces = false) (a0 : Nat) (a1 : Int32) (h : PH) (sz : Nat) (Q : Int32 → PH → Prop) (X : String → PH → Prop) (k0 : kd a0 = 1) (hw : wp_X7_append a0 a1 h Q X) : XI Z l yX7_append cX7_append 2 (some .int) ({ frames := 6, cells := 1, slots := 6, locals := 82 } : Room) h sz [.ref (zA Z a0), .int a1] Q X := by
  refine open_X hZ hl9 (by decide +kernel) (by exact Nat.le_of_ble_eq_true rfl) ?_
  intro p e s m below meth c B hr hsz ls hl hH hB hT
  subst hsz
  have hl : lv_has ls 2 [(0, .ref (zA Z a0)), (1, .int a1)] := hl
  unfold wp_X7_append at hw
  refine lv_iload_n B.1 B.2.1 dX7_append_0 rfl (lv_at hl 1 rfl) ?_
  refine lv_iconst (v := 0) B.1 B.2.1 dX7_append_1 (by decide) ?_
  refine lv_sipush (v := 255) B.1 B.2.1 dX7_append_2 (by decide) ?_
  refine c_S_I (own := RX7) (As := [.int a1, .int 0, .int 255]) (rest := []) B hH (cy_X7_outside B.2.2.2.2.1) (ct_X7_outside B.2.2.2.2.2.2.2 l a1 0 255 h _ _  hw) ⟨⟨rfl, rfl⟩, Nat.le_of_ble_eq_true rfl, Nat.le_of_ble_eq_true rfl, Nat.le_of_ble_eq_true rfl, Nat.le_of_ble_eq_true rfl⟩ (tw_361 B.2.2.2.2.1) rfl hl.1 rfl (Nat.le_of_ble_eq_true rfl) dX7_append_5 ?_
  clear hw hH
  intro r2 h1 H locs hw hH
  refine lv_if_eq (tgt := 21) B.1 B.2.1 dX7_append_8 (by decide) (fun c3 => ?_) (fun c3 => ?_)
  · replace hw := hw.1 c3
    refine lv_aload_n B.1 B.2.1 dX7_append_21 rfl (lv_at hl 0 rfl) ?_
    refine r_get B hH (own := RX7) (kd_n B (k0) (by decide) (by decide)) (ct_1 (k0)) rfl (ul_1 B.2.2.2.2.1) 5 (by decide) rfl (tw_187 B.2.2.2.2.1) dX7_append_22 ?_
    refine c_VN_I (own := RX7) (As := []) (rest := []) B hH (cy_X6_isFull B.2.2.2.2.1) (ct_X6_isFull B.2.2.2.2.2.2.2 l (a0 + 341) h1 _ _ (kf_1_5 (k0)) hw) ⟨⟨rfl, rfl⟩, Nat.le_of_ble_eq_true rfl, Nat.le_of_ble_eq_true rfl, Nat.le_of_ble_eq_true rfl, Nat.le_of_ble_eq_true rfl⟩ (rv_7 B hH (kf_1_5 (k0))) (tw_429 B.2.2.2.2.1) rfl hl.1 rfl (Nat.le_of_ble_eq_true rfl) dX7_append_25 ?_
    clear hw hH
    intro r5 h4 H locs hw hH
    refine lv_if_eq (tgt := 41) B.1 B.2.1 dX7_append_28 (by decide) (fun c6 => ?_) (fun c6 => ?_)
    · replace hw := hw.1 c6
      refine lv_aload_n B.1 B.2.1 dX7_append_41 rfl (lv_at hl 0 rfl) ?_
      refine r_get B hH (own := RX7) (kd_n B (k0) (by decide) (by decide)) (ct_1 (k0)) rfl (ul_1 B.2.2.2.2.1) 5 (by decide) rfl (tw_187 B.2.2.2.2.1) dX7_append_42 ?_
      refine lv_iload_n B.1 B.2.1 dX7_append_45 rfl (lv_at hl 1 rfl) ?_
      refine c_VN_I (own := RX7) (As := [.int a1]) (rest := []) B hH (cy_X6_add B.2.2.2.2.1) (ct_X6_add B.2.2.2.2.2.2.2 l (a0 + 341) a1 h4 _ _ (kf_1_5 (k0)) hw) ⟨⟨rfl, rfl⟩, Nat.le_of_ble_eq_true rfl, Nat.le_of_ble_eq_true rfl, Nat.le_of_ble_eq_true rfl, Nat.le_of_ble_eq_true rfl⟩ (rv_7 B hH (kf_1_5 (k0))) (tw_449 B.2.2.2.2.1) rfl hl.1 rfl (Nat.le_of_ble_eq_true rfl) dX7_append_46 ?_
      clear hw hH
      intro r8 h7 H locs hw hH
      exact e_xi B hr hH hw dX7_append_49 (Nat.le_of_ble_eq_true rfl) (Nat.le_of_ble_eq_true rfl)
    · replace hw := hw.2 c6
      exact r_thISE B hH hB hT (is := 60) (text := "the text is full") (tw_433 B.2.2.2.2.1) (tw_13 B.2.2.2.2.1) (by decide +kernel) hl.1 dX7_append_31 dX7_append_34 dX7_append_35 dX7_append_37 dX7_append_40 (Nat.le_of_ble_eq_true rfl) (Nat.le_of_ble_eq_true rfl) (Nat.le_of_ble_eq_true rfl) (Nat.le_of_ble_eq_true rfl) hw (Nat.le_of_ble_eq_true rfl) (Nat.le_of_ble_eq_true rfl)
  · replace hw := hw.2 c3
    exact r_thIAE B hH hB hT (is := 49) (text := "not a character code") (tw_362 B.2.2.2.2.1) (tw_12 B.2.2.2.2.1) (by decide +kernel) hl.1 dX7_append_11 dX7_append_14 dX7_append_15 dX7_append_17 dX7_append_20 (Nat.le_of_ble_eq_true rfl) (Nat.le_of_ble_eq_true rfl) (Nat.le_of_ble_eq_true rfl) (Nat.le_of_ble_eq_true rfl) hw (Nat.le_of_ble_eq_true rfl) (Nat.le_of_ble_eq_true rfl)
theorem cy_X7_errorPosition {s : State} {args : Array Value} (hG : GG s) : CYV s args yX7_errorPosition cX7_errorPosition 1 (some .int) 0 := CYV.of hG (fun _ _ hG => tw_212 hG) (tw_1 hG) (tw_210 hG) (tw_211 hG) (by decide +kernel)
set_option maxRecDepth 100000 in
set_option maxHeartbeats 4000000 in
theorem ct_X7_errorPosition {Z : ZT} (hZ : ZO Z) (l : Launch) (hl9 : l.stackTraces = false) (a0 : Nat) (h : PH) (sz : Nat) (Q : Int32 → PH → Prop) (k0 : kd a0 = 1) (hw : wp_X7_errorPosition a0 h Q) : KI Z l yX7_errorPosition cX7_errorPosition 1 (some .int) ({ frames := 6, cells := 0, slots := 0, locals := 128 } : Room) h sz [.ref (zA Z a0)] Q := by
  refine open_K hZ hl9 (by decide +kernel) (by exact Nat.le_of_ble_eq_true rfl) ?_
  intro p e s m below meth c B hr hsz ls hl hH hB
  subst hsz
  have hl : lv_has ls 1 [(0, .ref (zA Z a0))] := hl
  unfold wp_X7_errorPosition at hw
  refine lv_aload_n B.1 B.2.1 dX7_errorPosition_0 rfl (lv_at hl 0 rfl) ?_
  refine r_get B hH (own := RX7) (kd_n B (k0) (by decide) (by decide)) (ct_1 (k0)) rfl (ul_1 B.2.2.2.2.1) 5 (by decide) rfl (tw_187 B.2.2.2.2.1) dX7_errorPosition_1 ?_
  refine k_VN_I (own := RX7) (As := []) (rest := []) B hH hB (cy_X6_firstError B.2.2.2.2.1) (ct_X6_firstError B.2.2.2.2.2.2.2 l hB.2.2.2 (a0 + 341) h _ _ (kf_1_5 (k0)) hw) ⟨⟨rfl, rfl⟩, Nat.le_of_ble_eq_true rfl, Nat.le_of_ble_eq_true rfl, Nat.zero_le _, Nat.zero_le _⟩ (rv_7 B hH (kf_1_5 (k0))) (tw_213 B.2.2.2.2.1) rfl hl.1 rfl (Nat.le_of_ble_eq_true rfl) dX7_errorPosition_4 ?_
  clear hw hH
  intro r2 h1 H locs hw hH
  exact e_i B hr hH hw dX7_errorPosition_7
theorem cy_X7_load {s : State} {args : Array Value} (hG : GG s) : CYV s args yX7_load cX7_load 3 (some .int) 0 := CYV.of hG (fun _ _ hG => tw_459 hG) (tw_1 hG) (tw_457 hG) (tw_458 hG) (by decide +kernel)
set_option maxRecDepth 100000 in
set_option maxHeartbeats 4000000 in
theorem ct_X7_load {Z : ZT} (hZ : ZO Z) (l : Launch) (hl9 : l.stackTraces = false) (a0 : Nat) (h : PH) (sz : Nat) (Q : Int32 → PH → Prop) (X : String → PH → Prop) (k0 : kd a0 = 1) (hw : wp_X7_load a0 h Q X) : XI Z l yX7_load cX7_load 3 (some .int) ({ frames := 6, cells := 1, slots := 6, locals := 142 } : Room) h sz [.ref (zA Z a0)] Q X := by
  refine open_X hZ hl9 (by decide +kernel) (by exact Nat.le_of_ble_eq_true rfl) ?_
  intro p e s m below meth c B hr hsz ls hl hH hB hT
  subst hsz
  have hl : lv_has ls 3 [(0, .ref (zA Z a0))] := hl
  unfold wp_X7_load at hw
  have L62 : ∀ (b0 : Nat), kd b0 = 1 → ∀ (n : Nat) (b1 : Int32) (b2 : Int32) (h : PH), ∀ (H : Heap) (locs : List Loc) (ls : Array Slot), wp_X7_load_b62 b0 Q X n b1 b2 h → HH Z s h H locs → lv_has ls 3 [(0, .ref (zA Z b0)), (1, .int b1), (2, .int b2)] → W p l e ({ frames := 6, cells := 1, slots := 6, locals := 142 } : Room) s m ([.ref (zA Z a0)]).toArray below meth c H locs 0 0 (vx_MQ below (va_Qi Q (BZ Z) (fr Z s.heap.size)) (XCZ Z X s.heap.size) ([.ref (zA Z a0)]).toArray s 1 6 (fr Z s.heap.size)) (F0 m 62 ls []) := by
    intro b0 kb0 n
    induction n with
    | zero => intro b1 b2 h H locs ls hw hH hl; exact absurd hw id
    | succ n ih =>
      intro b1 b2 h H locs ls hw hH hl
      unfold wp_X7_load_b62 at hw
      refine lv_iload_n B.1 B.2.1 dX7_load_62 rfl (lv_at hl 2 rfl) ?_
      refine lv_bipush (v := 120) B.1 B.2.1 dX7_load_63 (by decide) ?_
      refine lv_icmp_ge (tgt := 136) B.1 B.2.1 dX7_load_65 (by decide) (fun c9 => ?_) (fun c9 => ?_)
      · replace hw := hw.1 c9
        refine lv_iload_n B.1 B.2.1 dX7_load_136 rfl (lv_at hl 1 rfl) ?_
        exact e_xi B hr hH hw dX7_load_137 (Nat.le_of_ble_eq_true rfl) (Nat.le_of_ble_eq_true rfl)
      · replace hw := hw.2 c9
        refine lv_aload_n B.1 B.2.1 dX7_load_68 rfl (lv_at hl 0 rfl) ?_
        refine r_get B hH (own := RX7) (kd_n B (kb0) (by decide) (by decide)) (ct_1 (kb0)) rfl (ul_1 B.2.2.2.2.1) 5 (by decide) rfl (tw_187 B.2.2.2.2.1) dX7_load_69 ?_
        refine k_VN_I (own := RX7) (As := []) (rest := []) B hH hB (cy_X6_readCommand B.2.2.2.2.1) (ct_X6_readCommand B.2.2.2.2.2.2.2 l hB.2.2.2 (b0 + 341) h _ _ (kf_1_5 (kb0)) hw) ⟨⟨rfl, rfl⟩, Nat.le_of_ble_eq_true rfl, Nat.le_of_ble_eq_true rfl, Nat.le_of_ble_eq_true rfl, Nat.le_of_ble_eq_true rfl⟩ (rv_7 B hH (kf_1_5 (kb0))) (tw_470 B.2.2.2.2.1) rfl hl.1 rfl (Nat.le_of_ble_eq_true rfl) dX7_load_72 ?_
        clear hw hH
        intro r11 h10 H locs hw hH
        refine lv_if_eq (tgt := 136) B.1 B.2.1 dX7_load_75 (by decide) (fun c12 => ?_) (fun c12 => ?_)
        · replace hw := hw.1 c12
          refine lv_iload_n B.1 B.2.1 dX7_load_136 rfl (lv_at hl 1 rfl) ?_
          exact e_xi B hr hH hw dX7_load_137 (Nat.le_of_ble_eq_true rfl) (Nat.le_of_ble_eq_true rfl)
        · replace hw := hw.2 c12
          refine lv_aload_n B.1 B.2.1 dX7_load_78 rfl (lv_at hl 0 rfl) ?_
          refine r_get B hH (own := RX7) (kd_n B (kb0) (by decide) (by decide)) (ct_1 (kb0)) rfl (ul_1 B.2.2.2.2.1) 0 (by decide) rfl (tw_182 B.2.2.2.2.1) dX7_load_79 ?_
          refine lv_aload_n B.1 B.2.1 dX7_load_82 rfl (lv_at hl 0 rfl) ?_
          refine r_get B hH (own := RX7) (kd_n B (kb0) (by decide) (by decide)) (ct_1 (kb0)) rfl (ul_1 B.2.2.2.2.1) 5 (by decide) rfl (tw_187 B.2.2.2.2.1) dX7_load_83 ?_
          refine r_getN B hH (own := RX7) (kd_n B (kf_1_5 (kb0)) (by decide) (by decide)) (ct_7 (kf_1_5 (kb0))) rfl (ul_7 B.2.2.2.2.1) 4 (by decide) rfl (tw_169 B.2.2.2.2.1) dX7_load_86 ?_
          refine lv_aload_n B.1 B.2.1 dX7_load_89 rfl (lv_at hl 0 rfl) ?_
          refine r_get B hH (own := RX7) (kd_n B (kb0) (by decide) (by decide)) (ct_1 (kb0)) rfl (ul_1 B.2.2.2.2.1) 5 (by decide) rfl (tw_187 B.2.2.2.2.1) dX7_load_90 ?_
          refine lv_iconst (v := 0) B.1 B.2.1 dX7_load_93 (by decide) ?_
          refine c_VN_I (own := RX7) (As := [.int 0]) (rest := [.int (h10 (b0 + 341) 4), .ref (zA Z (b0 + 1))]) B hH (cy_X6_number B.2.2.2.2.1) (ct_X6_number B.2.2.2.2.2.2.2 l (b0 + 341) 0 h10 _ _ (kf_1_5 (kb0)) hw) ⟨⟨rfl, rfl⟩, Nat.le_of_ble_eq_true rfl, Nat.le_of_ble_eq_true rfl, Nat.le_of_ble_eq_true rfl, Nat.le_of_ble_eq_true rfl⟩ (rv_7 B hH (kf_1_5 (kb0))) (tw_471 B.2.2.2.2.1) rfl hl.1 rfl (Nat.le_of_ble_eq_true rfl) dX7_load_94 ?_
          clear hw hH
          intro r14 h13 H locs hw hH
          refine lv_aload_n B.1 B.2.1 dX7_load_97 rfl (lv_at hl 0 rfl) ?_
          refine r_get B hH (own := RX7) (kd_n B (kb0) (by decide) (by decide)) (ct_1 (kb0)) rfl (ul_1 B.2.2.2.2.1) 5 (by decide) rfl (tw_187 B.2.2.2.2.1) dX7_load_98 ?_
          refine lv_iconst (v := 1) B.1 B.2.1 dX7_load_101 (by decide) ?_
          refine c_VN_I (own := RX7) (As := [.int 1]) (rest := [.int r14, .int (h10 (b0 + 341) 4), .ref (zA Z (b0 + 1))]) B hH (cy_X6_number B.2.2.2.2.1) (ct_X6_number B.2.2.2.2.2.2.2 l (b0 + 341) 1 h13 _ _ (kf_1_5 (kb0)) hw) ⟨⟨rfl, rfl⟩, Nat.le_of_ble_eq_true rfl, Nat.le_of_ble_eq_true rfl, Nat.le_of_ble_eq_true rfl, Nat.le_of_ble_eq_true rfl⟩ (rv_7 B hH (kf_1_5 (kb0))) (tw_471 B.2.2.2.2.1) rfl hl.1 rfl (Nat.le_of_ble_eq_true rfl) dX7_load_102 ?_
          clear hw hH
          intro r16 h15 H locs hw hH
          refine lv_aload_n B.1 B.2.1 dX7_load_105 rfl (lv_at hl 0 rfl) ?_
          refine r_get B hH (own := RX7) (kd_n B (kb0) (by decide) (by decide)) (ct_1 (kb0)) rfl (ul_1 B.2.2.2.2.1) 5 (by decide) rfl (tw_187 B.2.2.2.2.1) dX7_load_106 ?_
          refine lv_iconst (v := 2) B.1 B.2.1 dX7_load_109 (by decide) ?_
          refine c_VN_I (own := RX7) (As := [.int 2]) (rest := [.int r16, .int r14, .int (h10 (b0 + 341) 4), .ref (zA Z (b0 + 1))]) B hH (cy_X6_number B.2.2.2.2.1) (ct_X6_number B.2.2.2.2.2.2.2 l (b0 + 341) 2 h15 _ _ (kf_1_5 (kb0)) hw) ⟨⟨rfl, rfl⟩, Nat.le_of_ble_eq_true rfl, Nat.le_of_ble_eq_true rfl, Nat.le_of_ble_eq_true rfl, Nat.le_of_ble_eq_true rfl⟩ (rv_7 B hH (kf_1_5 (kb0))) (tw_471 B.2.2.2.2.1) rfl hl.1 rfl (Nat.le_of_ble_eq_true rfl) dX7_load_110 ?_
          clear hw hH
          intro r18 h17 H locs hw hH
          refine lv_aload_n B.1 B.2.1 dX7_load_113 rfl (lv_at hl 0 rfl) ?_
          refine r_get B hH (own := RX7) (kd_n B (kb0) (by decide) (by decide)) (ct_1 (kb0)) rfl (ul_1 B.2.2.2.2.1) 5 (by decide) rfl (tw_187 B.2.2.2.2.1) dX7_load_114 ?_
          refine lv_iconst (v := 3) B.1 B.2.1 dX7_load_117 (by decide) ?_
          refine c_VN_I (own := RX7) (As := [.int 3]) (rest := [.int r18, .int r16, .int r14, .int (h10 (b0 + 341) 4), .ref (zA Z (b0 + 1))]) B hH (cy_X6_number B.2.2.2.2.1) (ct_X6_number B.2.2.2.2.2.2.2 l (b0 + 341) 3 h17 _ _ (kf_1_5 (kb0)) hw) ⟨⟨rfl, rfl⟩, Nat.le_of_ble_eq_true rfl, Nat.le_of_ble_eq_true rfl, Nat.le_of_ble_eq_true rfl, Nat.le_of_ble_eq_true rfl⟩ (rv_7 B hH (kf_1_5 (kb0))) (tw_471 B.2.2.2.2.1) rfl hl.1 rfl (Nat.le_of_ble_eq_true rfl) dX7_load_118 ?_
          clear hw hH
          intro r20 h19 H locs hw hH
          refine c_VN_I (own := RX7) (As := [.int (h10 (b0 + 341) 4), .int r14, .int r16, .int r18, .int r20]) (rest := []) B hH (cy_X5_perform B.2.2.2.2.1) (ct_X5_perform B.2.2.2.2.2.2.2 l (b0 + 1) (h10 (b0 + 341) 4) r14 r16 r18 r20 h19 _ _ (kf_1_0 (kb0)) hw) ⟨⟨rfl, rfl⟩, Nat.le_of_ble_eq_true rfl, Nat.le_of_ble_eq_true rfl, Nat.le_of_ble_eq_true rfl, Nat.le_of_ble_eq_true rfl⟩ (rv_2 B hH (kf_1_0 (kb0))) (tw_475 B.2.2.2.2.1) rfl hl.1 rfl (Nat.le_of_ble_eq_true rfl) dX7_load_121 ?_
          clear hw hH
          intro r22 h21 H locs hw hH
          refine lv_if_ne (tgt := 130) B.1 B.2.1 dX7_load_124 (by decide) (fun c23 => ?_) (fun c23 => ?_)
          · replace hw := hw.1 c23
            obtain ⟨x24, ex24⟩ : ∃ y : Int32, y = b2 + 1 := ⟨_, rfl⟩
            replace hw := hw x24 ex24
            refine lv_iinc (v := x24) (lv' := [(2, .int x24), (0, .ref (zA Z b0)), (1, .int b1)]) B.1 B.2.1 dX7_load_130 hl (k := 2) rfl (by rw [ex24]; rfl) (by decide) (by first | rfl | simp [va_re_cat, Value.category]) ?_
            clear hl
            intro ls hl
            refine lv_goto (tgt := 62) B.1 B.2.1 dX7_load_133 (by decide) ?_
            exact ih b1 x24 h21  _ _ _ hw hH (lv_sub hl [1, 2, 0] rfl)
          · replace hw := hw.2 c23
            obtain ⟨x25, ex25⟩ : ∃ y : Int32, y = b1 + 1 := ⟨_, rfl⟩
            replace hw := hw x25 ex25
            refine lv_iinc (v := x25) (lv' := [(1, .int x25), (0, .ref (zA Z b0)), (2, .int b2)]) B.1 B.2.1 dX7_load_127 hl (k := 1) rfl (by rw [ex25]; rfl) (by decide) (by first | rfl | simp [va_re_cat, Value.category]) ?_
            clear hl
            intro ls hl
            obtain ⟨x26, ex26⟩ : ∃ y : Int32, y = b2 + 1 := ⟨_, rfl⟩
            replace hw := hw x26 ex26
            refine lv_iinc (v := x26) (lv' := [(2, .int x26), (1, .int x25), (0, .ref (zA Z b0))]) B.1 B.2.1 dX7_load_130 hl (k := 2) rfl (by rw [ex26]; rfl) (by decide) (by first | rfl | simp [va_re_cat, Value.category]) ?_
            clear hl
            intro ls hl
            refine lv_goto (tgt := 62) B.1 B.2.1 dX7_load_133 (by decide) ?_
            exact ih x25 x26 h21  _ _ _ hw hH (lv_sub hl [2, 1, 0] rfl)
  refine lv_aload_n B.1 B.2.1 dX7_load_0 rfl (lv_at hl 0 rfl) ?_
  refine r_get B hH (own := RX7) (kd_n B (k0) (by decide) (by decide)) (ct_1 (k0)) rfl (ul_1 B.2.2.2.2.1) 5 (by decide) rfl (tw_187 B.2.2.2.2.1) dX7_load_1 ?_
  refine k_VN_I (own := RX7) (As := []) (rest := []) B hH hB (cy_X6_firstError B.2.2.2.2.1) (ct_X6_firstError B.2.2.2.2.2.2.2 l hB.2.2.2 (a0 + 341) h _ _ (kf_1_5 (k0)) hw) ⟨⟨rfl, rfl⟩, Nat.le_of_ble_eq_true rfl, Nat.le_of_ble_eq_true rfl, Nat.le_of_ble_eq_true rfl, Nat.le_of_ble_eq_true rfl⟩ (rv_7 B hH (kf_1_5 (k0))) (tw_213 B.2.2.2.2.1) rfl hl.1 rfl (Nat.le_of_ble_eq_true rfl) dX7_load_4 ?_
  clear hw hH
  intro r2 h1 H locs hw hH
  refine lv_iconst (v := (-1)) B.1 B.2.1 dX7_load_7 (by decide) ?_
  refine lv_icmp_eq (tgt := 21) B.1 B.2.1 dX7_load_8 (by decide) (fun c3 => ?_) (fun c3 => ?_)
  · replace hw := hw.1 c3
    refine lv_aload_n B.1 B.2.1 dX7_load_21 rfl (lv_at hl 0 rfl) ?_
    refine r_get B hH (own := RX7) (kd_n B (k0) (by decide) (by decide)) (ct_1 (k0)) rfl (ul_1 B.2.2.2.2.1) 0 (by decide) rfl (tw_182 B.2.2.2.2.1) dX7_load_22 ?_
    refine c_VN_V (own := RX7) (As := []) (rest := []) B hH (cy_X5_clear B.2.2.2.2.1) (ct_X5_clear B.2.2.2.2.2.2.2 l (a0 + 1) h1 _ _ (kf_1_0 (k0)) hw) ⟨⟨rfl, rfl⟩, Nat.le_of_ble_eq_true rfl, Nat.le_of_ble_eq_true rfl, Nat.le_of_ble_eq_true rfl, Nat.le_of_ble_eq_true rfl⟩ (rv_2 B hH (kf_1_0 (k0))) (tw_461 B.2.2.2.2.1) rfl hl.1 rfl (Nat.le_of_ble_eq_true rfl) dX7_load_25 ?_
    clear hw hH
    intro h4 H locs hw hH
    refine lv_aload_n B.1 B.2.1 dX7_load_28 rfl (lv_at hl 0 rfl) ?_
    refine r_get B hH (own := RX7) (kd_n B (k0) (by decide) (by decide)) (ct_1 (k0)) rfl (ul_1 B.2.2.2.2.1) 2 (by decide) rfl (tw_184 B.2.2.2.2.1) dX7_load_29 ?_
    refine c_VN_V (own := RX7) (As := []) (rest := []) B hH (cy_X2_forget B.2.2.2.2.1) (ct_X2_forget B.2.2.2.2.2.2.2 l (a0 + 43) h4 _ _ (kf_1_2 (k0)) hw) ⟨⟨rfl, rfl⟩, Nat.le_of_ble_eq_true rfl, Nat.le_of_ble_eq_true rfl, Nat.le_of_ble_eq_true rfl, Nat.le_of_ble_eq_true rfl⟩ (rv_6 B hH (kf_1_2 (k0))) (tw_465 B.2.2.2.2.1) rfl hl.1 rfl (Nat.le_of_ble_eq_true rfl) dX7_load_32 ?_
    clear hw hH
    intro h5 H locs hw hH
    refine lv_aload_n B.1 B.2.1 dX7_load_35 rfl (lv_at hl 0 rfl) ?_
    refine r_get B hH (own := RX7) (kd_n B (k0) (by decide) (by decide)) (ct_1 (k0)) rfl (ul_1 B.2.2.2.2.1) 3 (by decide) rfl (tw_185 B.2.2.2.2.1) dX7_load_36 ?_
    refine lv_iconst (v := 0) B.1 B.2.1 dX7_load_39 (by decide) ?_
    refine r_putN B hH (own := RX7) (kd_n B (kf_1_3 (k0)) (by decide) (by decide)) (ct_5 (kf_1_3 (k0))) rfl (ul_5 B.2.2.2.2.1) tyX4 tyX4_ok nmX4 1 (by decide) (ty := .boolean) rfl (nz_b (by decide)) (fz_b (by decide)) rfl (Nat.le_of_ble_eq_true rfl) (cs_5_1 (kf_1_3 (k0))) (tw_153 B.2.2.2.2.1) dX7_load_40 ?_
    clear hH
    intro H locs hH
    obtain ⟨h6, eh6⟩ : ∃ z : PH, z = up2 h5 (a0 + 297) 1 0 := ⟨_, rfl⟩
    rw [← eh6] at hH
    replace hw := hw h6 eh6
    refine lv_aload_n B.1 B.2.1 dX7_load_43 rfl (lv_at hl 0 rfl) ?_
    refine r_get B hH (own := RX7) (kd_n B (k0) (by decide) (by decide)) (ct_1 (k0)) rfl (ul_1 B.2.2.2.2.1) 4 (by decide) rfl (tw_186 B.2.2.2.2.1) dX7_load_44 ?_
    refine lv_iconst (v := 0) B.1 B.2.1 dX7_load_47 (by decide) ?_
    refine r_putN B hH (own := RX7) (kd_n B (kf_1_4 (k0)) (by decide) (by decide)) (ct_5 (kf_1_4 (k0))) rfl (ul_5 B.2.2.2.2.1) tyX4 tyX4_ok nmX4 1 (by decide) (ty := .boolean) rfl (nz_b (by decide)) (fz_b (by decide)) rfl (Nat.le_of_ble_eq_true rfl) (cs_5_1 (kf_1_4 (k0))) (tw_153 B.2.2.2.2.1) dX7_load_48 ?_
    clear hH
    intro H locs hH
    obtain ⟨h7, eh7⟩ : ∃ z : PH, z = up2 h6 (a0 + 319) 1 0 := ⟨_, rfl⟩
    rw [← eh7] at hH
    replace hw := hw h7 eh7
    refine lv_iconst (v := 0) B.1 B.2.1 dX7_load_51 (by decide) ?_
    refine lv_istore_n (lv' := [(1, .int 0), (0, .ref (zA Z a0))]) B.1 B.2.1 dX7_load_52 rfl hl (by decide) (by first | rfl | simp [va_re_cat, Value.category]) ?_
    clear hl
    intro ls hl
    refine lv_aload_n B.1 B.2.1 dX7_load_53 rfl (lv_at hl 1 rfl) ?_
    refine r_get B hH (own := RX7) (kd_n B (k0) (by decide) (by decide)) (ct_1 (k0)) rfl (ul_1 B.2.2.2.2.1) 5 (by decide) rfl (tw_187 B.2.2.2.2.1) dX7_load_54 ?_
    refine c_VN_V (own := RX7) (As := []) (rest := []) B hH (cy_X6_begin B.2.2.2.2.1) (ct_X6_begin B.2.2.2.2.2.2.2 l (a0 + 341) h7 _ _ (kf_1_5 (k0)) hw) ⟨⟨rfl, rfl⟩, Nat.le_of_ble_eq_true rfl, Nat.le_of_ble_eq_true rfl, Nat.le_of_ble_eq_true rfl, Nat.le_of_ble_eq_true rfl⟩ (rv_7 B hH (kf_1_5 (k0))) (tw_469 B.2.2.2.2.1) rfl hl.1 rfl (Nat.le_of_ble_eq_true rfl) dX7_load_57 ?_
    clear hw hH
    intro h8 H locs hw hH
    refine lv_iconst (v := 0) B.1 B.2.1 dX7_load_60 (by decide) ?_
    refine lv_istore_n (lv' := [(2, .int 0), (1, .int 0), (0, .ref (zA Z a0))]) B.1 B.2.1 dX7_load_61 rfl hl (by decide) (by first | rfl | simp [va_re_cat, Value.category]) ?_
    clear hl
    intro ls hl
    obtain ⟨n27, hw⟩ := hw
    exact L62 a0 (k0) n27 0 0 h8  _ _ _ hw hH (lv_sub hl [2, 1, 0] rfl)
  · replace hw := hw.2 c3
    exact r_thISE B hH hB hT (is := 74) (text := "the text is not a studio") (tw_433 B.2.2.2.2.1) (tw_13 B.2.2.2.2.1) (by decide +kernel) hl.1 dX7_load_11 dX7_load_14 dX7_load_15 dX7_load_17 dX7_load_20 (Nat.le_of_ble_eq_true rfl) (Nat.le_of_ble_eq_true rfl) (Nat.le_of_ble_eq_true rfl) (Nat.le_of_ble_eq_true rfl) hw (Nat.le_of_ble_eq_true rfl) (Nat.le_of_ble_eq_true rfl)
theorem cy_X7_about {s : State} {args : Array Value} (hG : GG s) : CYV s args yX7_about cX7_about 2 (some .int) 1 := CYV.of hG (fun _ _ hG => tw_605 hG) (tw_1 hG) (tw_603 hG) (tw_604 hG) (by decide +kernel)
set_option maxRecDepth 100000 in
set_option maxHeartbeats 4000000 in
theorem ct_X7_about {Z : ZT} (hZ : ZO Z) (l : Launch) (hl9 : l.stackTraces = false) (a0 : Nat) (a1 : Int32) (h : PH) (sz : Nat) (Q : Int32 → PH → Prop) (X : String → PH → Prop) (k0 : kd a0 = 1) (hw : wp_X7_about a0 a1 h Q X) : XI Z l yX7_about cX7_about 2 (some .int) ({ frames := 6, cells := 1, slots := 6, locals := 82 } : Room) h sz [.ref (zA Z a0), .int a1] Q X := by
  refine open_X hZ hl9 (by decide +kernel) (by exact Nat.le_of_ble_eq_true rfl) ?_
  intro p e s m below meth c B hr hsz ls hl hH hB hT
  subst hsz
  have hl : lv_has ls 2 [(0, .ref (zA Z a0)), (1, .int a1)] := hl
  unfold wp_X7_about at hw
  refine lv_iload_n B.1 B.2.1 dX7_about_0 rfl (lv_at hl 1 rfl) ?_
  refine lv_iconst (v := 0) B.1 B.2.1 dX7_about_1 (by decide) ?_
  refine lv_bipush (v := 7) B.1 B.2.1 dX7_about_2 (by decide) ?_
  refine c_S_I (own := RX7) (As := [.int a1, .int 0, .int 7]) (rest := []) B hH (cy_X7_outside B.2.2.2.2.1) (ct_X7_outside B.2.2.2.2.2.2.2 l a1 0 7 h _ _  hw) ⟨⟨rfl, rfl⟩, Nat.le_of_ble_eq_true rfl, Nat.le_of_ble_eq_true rfl, Nat.le_of_ble_eq_true rfl, Nat.le_of_ble_eq_true rfl⟩ (tw_361 B.2.2.2.2.1) rfl hl.1 rfl (Nat.le_of_ble_eq_true rfl) dX7_about_4 ?_
  clear hw hH
  intro r2 h1 H locs hw hH
  refine lv_if_eq (tgt := 20) B.1 B.2.1 dX7_about_7 (by decide) (fun c3 => ?_) (fun c3 => ?_)
  · replace hw := hw.1 c3
    refine lv_iload_n B.1 B.2.1 dX7_about_20 rfl (lv_at hl 1 rfl) ?_
    by_cases c4 : (a1 = 0)
    · replace hw := hw.1 c4
      refine lv_tableIn (off := 43) (tgt := 64) B.1 B.2.1 dX7_about_21 (by rw [c4]; decide) (by rw [c4]; decide) (by rw [c4]; rfl) (by decide) ?_
      refine lv_aload_n B.1 B.2.1 dX7_about_64 rfl (lv_at hl 0 rfl) ?_
      refine r_get B hH (own := RX7) (kd_n B (k0) (by decide) (by decide)) (ct_1 (k0)) rfl (ul_1 B.2.2.2.2.1) 0 (by decide) rfl (tw_182 B.2.2.2.2.1) dX7_about_65 ?_
      refine r_getN B hH (own := RX7) (kd_n B (kf_1_0 (k0)) (by decide) (by decide)) (ct_2 (kf_1_0 (k0))) rfl (ul_2 B.2.2.2.2.1) 2 (by decide) rfl (tw_102 B.2.2.2.2.1) dX7_about_68 ?_
      exact e_xi B hr hH hw dX7_about_71 (Nat.le_of_ble_eq_true rfl) (Nat.le_of_ble_eq_true rfl)
    · by_cases c5 : (a1 = 1)
      · replace hw := hw.2.1 c5
        refine lv_tableIn (off := 51) (tgt := 72) B.1 B.2.1 dX7_about_21 (by rw [c5]; decide) (by rw [c5]; decide) (by rw [c5]; rfl) (by decide) ?_
        refine lv_aload_n B.1 B.2.1 dX7_about_72 rfl (lv_at hl 0 rfl) ?_
        refine r_get B hH (own := RX7) (kd_n B (k0) (by decide) (by decide)) (ct_1 (k0)) rfl (ul_1 B.2.2.2.2.1) 0 (by decide) rfl (tw_182 B.2.2.2.2.1) dX7_about_73 ?_
        refine r_getN B hH (own := RX7) (kd_n B (kf_1_0 (k0)) (by decide) (by decide)) (ct_2 (kf_1_0 (k0))) rfl (ul_2 B.2.2.2.2.1) 3 (by decide) rfl (tw_105 B.2.2.2.2.1) dX7_about_76 ?_
        exact e_xi B hr hH hw dX7_about_79 (Nat.le_of_ble_eq_true rfl) (Nat.le_of_ble_eq_true rfl)
      · by_cases c6 : (a1 = 2)
        · replace hw := hw.2.2.1 c6
          refine lv_tableIn (off := 59) (tgt := 80) B.1 B.2.1 dX7_about_21 (by rw [c6]; decide) (by rw [c6]; decide) (by rw [c6]; rfl) (by decide) ?_
          refine lv_aload_n B.1 B.2.1 dX7_about_80 rfl (lv_at hl 0 rfl) ?_
          refine r_get B hH (own := RX7) (kd_n B (k0) (by decide) (by decide)) (ct_1 (k0)) rfl (ul_1 B.2.2.2.2.1) 0 (by decide) rfl (tw_182 B.2.2.2.2.1) dX7_about_81 ?_
          refine r_getN B hH (own := RX7) (kd_n B (kf_1_0 (k0)) (by decide) (by decide)) (ct_2 (kf_1_0 (k0))) rfl (ul_2 B.2.2.2.2.1) 4 (by decide) rfl (tw_107 B.2.2.2.2.1) dX7_about_84 ?_
          exact e_xi B hr hH hw dX7_about_87 (Nat.le_of_ble_eq_true rfl) (Nat.le_of_ble_eq_true rfl)
        · by_cases c7 : (a1 = 3)
          · replace hw := hw.2.2.2.1 c7
            refine lv_tableIn (off := 67) (tgt := 88) B.1 B.2.1 dX7_about_21 (by rw [c7]; decide) (by rw [c7]; decide) (by rw [c7]; rfl) (by decide) ?_
            refine lv_aload_n B.1 B.2.1 dX7_about_88 rfl (lv_at hl 0 rfl) ?_
            refine r_get B hH (own := RX7) (kd_n B (k0) (by decide) (by decide)) (ct_1 (k0)) rfl (ul_1 B.2.2.2.2.1) 0 (by decide) rfl (tw_182 B.2.2.2.2.1) dX7_about_89 ?_
            refine lv_iconst (v := 0) B.1 B.2.1 dX7_about_92 (by decide) ?_
            refine c_VN_I (own := RX7) (As := [.int 0]) (rest := []) B hH (cy_X5_soundBehind B.2.2.2.2.1) (ct_X5_soundBehind B.2.2.2.2.2.2.2 l (a0 + 1) 0 h1 _ _ (kf_1_0 (k0)) hw) ⟨⟨rfl, rfl⟩, Nat.le_of_ble_eq_true rfl, Nat.le_of_ble_eq_true rfl, Nat.le_of_ble_eq_true rfl, Nat.le_of_ble_eq_true rfl⟩ (rv_2 B hH (kf_1_0 (k0))) (tw_607 B.2.2.2.2.1) rfl hl.1 rfl (Nat.le_of_ble_eq_true rfl) dX7_about_93 ?_
            clear hw hH
            intro r9 h8 H locs hw hH
            exact e_xi B hr hH hw dX7_about_96 (Nat.le_of_ble_eq_true rfl) (Nat.le_of_ble_eq_true rfl)
          · by_cases c10 : (a1 = 4)
            · replace hw := hw.2.2.2.2.1 c10
              refine lv_tableIn (off := 76) (tgt := 97) B.1 B.2.1 dX7_about_21 (by rw [c10]; decide) (by rw [c10]; decide) (by rw [c10]; rfl) (by decide) ?_
              refine lv_aload_n B.1 B.2.1 dX7_about_97 rfl (lv_at hl 0 rfl) ?_
              refine r_get B hH (own := RX7) (kd_n B (k0) (by decide) (by decide)) (ct_1 (k0)) rfl (ul_1 B.2.2.2.2.1) 0 (by decide) rfl (tw_182 B.2.2.2.2.1) dX7_about_98 ?_
              refine c_VN_I (own := RX7) (As := []) (rest := []) B hH (cy_X5_loopsWithTape B.2.2.2.2.1) (ct_X5_loopsWithTape B.2.2.2.2.2.2.2 l (a0 + 1) h1 _ _ (kf_1_0 (k0)) hw) ⟨⟨rfl, rfl⟩, Nat.le_of_ble_eq_true rfl, Nat.le_of_ble_eq_true rfl, Nat.le_of_ble_eq_true rfl, Nat.le_of_ble_eq_true rfl⟩ (rv_2 B hH (kf_1_0 (k0))) (tw_608 B.2.2.2.2.1) rfl hl.1 rfl (Nat.le_of_ble_eq_true rfl) dX7_about_101 ?_
              clear hw hH
              intro r12 h11 H locs hw hH
              exact e_xi B hr hH hw dX7_about_104 (Nat.le_of_ble_eq_true rfl) (Nat.le_of_ble_eq_true rfl)
            · by_cases c13 : (a1 = 5)
              · replace hw := hw.2.2.2.2.2.1 c13
                refine lv_tableIn (off := 84) (tgt := 105) B.1 B.2.1 dX7_about_21 (by rw [c13]; decide) (by rw [c13]; decide) (by rw [c13]; rfl) (by decide) ?_
                refine lv_aload_n B.1 B.2.1 dX7_about_105 rfl (lv_at hl 0 rfl) ?_
                refine r_get B hH (own := RX7) (kd_n B (k0) (by decide) (by decide)) (ct_1 (k0)) rfl (ul_1 B.2.2.2.2.1) 0 (by decide) rfl (tw_182 B.2.2.2.2.1) dX7_about_106 ?_
                refine c_VN_I (own := RX7) (As := []) (rest := []) B hH (cy_X5_mutedLoops B.2.2.2.2.1) (ct_X5_mutedLoops B.2.2.2.2.2.2.2 l (a0 + 1) h1 _ _ (kf_1_0 (k0)) hw) ⟨⟨rfl, rfl⟩, Nat.le_of_ble_eq_true rfl, Nat.le_of_ble_eq_true rfl, Nat.le_of_ble_eq_true rfl, Nat.le_of_ble_eq_true rfl⟩ (rv_2 B hH (kf_1_0 (k0))) (tw_612 B.2.2.2.2.1) rfl hl.1 rfl (Nat.le_of_ble_eq_true rfl) dX7_about_109 ?_
                clear hw hH
                intro r15 h14 H locs hw hH
                exact e_xi B hr hH hw dX7_about_112 (Nat.le_of_ble_eq_true rfl) (Nat.le_of_ble_eq_true rfl)
              · by_cases c16 : (a1 = 6)
                · replace hw := hw.2.2.2.2.2.2.1 c16
                  refine lv_tableIn (off := 92) (tgt := 113) B.1 B.2.1 dX7_about_21 (by rw [c16]; decide) (by rw [c16]; decide) (by rw [c16]; rfl) (by decide) ?_
                  refine lv_aload_n B.1 B.2.1 dX7_about_113 rfl (lv_at hl 0 rfl) ?_
                  refine r_get B hH (own := RX7) (kd_n B (k0) (by decide) (by decide)) (ct_1 (k0)) rfl (ul_1 B.2.2.2.2.1) 0 (by decide) rfl (tw_182 B.2.2.2.2.1) dX7_about_114 ?_
                  refine c_VN_I (own := RX7) (As := []) (rest := []) B hH (cy_X5_loopCells B.2.2.2.2.1) (ct_X5_loopCells B.2.2.2.2.2.2.2 l (a0 + 1) h1 _ _ (kf_1_0 (k0)) hw) ⟨⟨rfl, rfl⟩, Nat.le_of_ble_eq_true rfl, Nat.le_of_ble_eq_true rfl, Nat.le_of_ble_eq_true rfl, Nat.le_of_ble_eq_true rfl⟩ (rv_2 B hH (kf_1_0 (k0))) (tw_616 B.2.2.2.2.1) rfl hl.1 rfl (Nat.le_of_ble_eq_true rfl) dX7_about_117 ?_
                  clear hw hH
                  intro r18 h17 H locs hw hH
                  exact e_xi B hr hH hw dX7_about_120 (Nat.le_of_ble_eq_true rfl) (Nat.le_of_ble_eq_true rfl)
                · replace hw := hw.2.2.2.2.2.2.2 c4 c5 c6 c7 c10 c13 c16
                  have t0 := lv_neT (x := a1) (k := 0) (a := 0) c4 (by decide)
                  have t1 := lv_neT (x := a1) (k := 1) (a := 1) c5 (by decide)
                  have t2 := lv_neT (x := a1) (k := 2) (a := 2) c6 (by decide)
                  have t3 := lv_neT (x := a1) (k := 3) (a := 3) c7 (by decide)
                  have t4 := lv_neT (x := a1) (k := 4) (a := 4) c10 (by decide)
                  have t5 := lv_neT (x := a1) (k := 5) (a := 5) c13 (by decide)
                  have t6 := lv_neT (x := a1) (k := 6) (a := 6) c16 (by decide)
                  refine lv_tableOut (tgt := 121) B.1 B.2.1 dX7_about_21 (by omega) (by decide) ?_
                  refine lv_aload_n B.1 B.2.1 dX7_about_121 rfl (lv_at hl 0 rfl) ?_
                  refine r_get B hH (own := RX7) (kd_n B (k0) (by decide) (by decide)) (ct_1 (k0)) rfl (ul_1 B.2.2.2.2.1) 0 (by decide) rfl (tw_182 B.2.2.2.2.1) dX7_about_122 ?_
                  refine r_getN B hH (own := RX7) (kd_n B (kf_1_0 (k0)) (by decide) (by decide)) (ct_2 (kf_1_0 (k0))) rfl (ul_2 B.2.2.2.2.1) 5 (by decide) rfl (tw_109 B.2.2.2.2.1) dX7_about_125 ?_
                  exact e_xi B hr hH hw dX7_about_128 (Nat.le_of_ble_eq_true rfl) (Nat.le_of_ble_eq_true rfl)
  · replace hw := hw.2 c3
    exact r_thIAE B hH hB hT (is := 103) (text := "no such number") (tw_362 B.2.2.2.2.1) (tw_12 B.2.2.2.2.1) (by decide +kernel) hl.1 dX7_about_10 dX7_about_13 dX7_about_14 dX7_about_16 dX7_about_19 (Nat.le_of_ble_eq_true rfl) (Nat.le_of_ble_eq_true rfl) (Nat.le_of_ble_eq_true rfl) (Nat.le_of_ble_eq_true rfl) hw (Nat.le_of_ble_eq_true rfl) (Nat.le_of_ble_eq_true rfl)
theorem cy_X7_reelOf {s : State} {args : Array Value} (hG : GG s) : CYV s args yX7_reelOf cX7_reelOf 4 (some .int) 2 := CYV.of hG (fun _ _ hG => tw_627 hG) (tw_1 hG) (tw_625 hG) (tw_626 hG) (by decide +kernel)
set_option maxRecDepth 100000 in
set_option maxHeartbeats 4000000 in
theorem ct_X7_reelOf {Z : ZT} (hZ : ZO Z) (l : Launch) (hl9 : l.stackTraces = false) (a0 : Nat) (a1 : Int32) (a2 : Int32) (h : PH) (sz : Nat) (Q : Int32 → PH → Prop) (X : String → PH → Prop) (k0 : kd a0 = 1) (hw : wp_X7_reelOf a0 a1 a2 h Q X) : XI Z l yX7_reelOf cX7_reelOf 4 (some .int) ({ frames := 6, cells := 1, slots := 6, locals := 87 } : Room) h sz [.ref (zA Z a0), .int a1, .int a2] Q X := by
  refine open_X hZ hl9 (by decide +kernel) (by exact Nat.le_of_ble_eq_true rfl) ?_
  intro p e s m below meth c B hr hsz ls hl hH hB hT
  subst hsz
  have hl : lv_has ls 4 [(0, .ref (zA Z a0)), (1, .int a1), (2, .int a2)] := hl
  unfold wp_X7_reelOf at hw
  refine lv_aload_n B.1 B.2.1 dX7_reelOf_0 rfl (lv_at hl 0 rfl) ?_
  refine r_get B hH (own := RX7) (kd_n B (k0) (by decide) (by decide)) (ct_1 (k0)) rfl (ul_1 B.2.2.2.2.1) 0 (by decide) rfl (tw_182 B.2.2.2.2.1) dX7_reelOf_1 ?_
  refine lv_iload_n B.1 B.2.1 dX7_reelOf_4 rfl (lv_at hl 1 rfl) ?_
  refine c_VN_O (own := RX7) (As := [.int a1]) (rest := []) B hH (cy_X5_reelAt B.2.2.2.2.1) (ct_X5_reelAt B.2.2.2.2.2.2.2 l (a0 + 1) a1 h _ _ (kf_1_0 (k0)) hw) ⟨⟨rfl, rfl⟩, Nat.le_of_ble_eq_true rfl, Nat.le_of_ble_eq_true rfl, Nat.le_of_ble_eq_true rfl, Nat.le_of_ble_eq_true rfl⟩ (rv_2 B hH (kf_1_0 (k0))) (tw_628 B.2.2.2.2.1) rfl hl.1 rfl (Nat.le_of_ble_eq_true rfl) dX7_reelOf_5 ?_
  clear hw hH
  intro r2 h1 H locs hw hH
  have kr2 := hw.2
  replace hw := hw.1
  refine x_astore_n (lv' := [(3, va_re (zA Z) r2), (0, .ref (zA Z a0)), (1, .int a1), (2, .int a2)]) B dX7_reelOf_8 rfl hl (by decide) (by first | rfl | simp [va_re_cat]) ?_
  clear hl
  intro ls hl
  refine x_aload_n B dX7_reelOf_9 rfl (lv_at hl 0 rfl) ?_
  refine x_ifnonnull (tgt := 23) B dX7_reelOf_10 (by decide) (fun j3 c4 => ?_) (fun c4 => ?_)
  · replace hw := hw.2 j3 c4
    have kj3 := kr2 j3 c4
    subst c4
    refine lv_iload_n B.1 B.2.1 dX7_reelOf_23 rfl (lv_at hl 3 rfl) ?_
    refine lv_iconst (v := 0) B.1 B.2.1 dX7_reelOf_24 (by decide) ?_
    refine lv_iconst (v := 4) B.1 B.2.1 dX7_reelOf_25 (by decide) ?_
    refine c_S_I (own := RX7) (As := [.int a2, .int 0, .int 4]) (rest := []) B hH (cy_X7_outside B.2.2.2.2.1) (ct_X7_outside B.2.2.2.2.2.2.2 l a2 0 4 h1 _ _  hw) ⟨⟨rfl, rfl⟩, Nat.le_of_ble_eq_true rfl, Nat.le_of_ble_eq_true rfl, Nat.le_of_ble_eq_true rfl, Nat.le_of_ble_eq_true rfl⟩ (tw_361 B.2.2.2.2.1) rfl hl.1 rfl (Nat.le_of_ble_eq_true rfl) dX7_reelOf_26 ?_
    clear hw hH
    intro r6 h5 H locs hw hH
    refine lv_if_eq (tgt := 42) B.1 B.2.1 dX7_reelOf_29 (by decide) (fun c7 => ?_) (fun c7 => ?_)
    · replace hw := hw.1 c7
      refine lv_iload_n B.1 B.2.1 dX7_reelOf_42 rfl (lv_at hl 3 rfl) ?_
      by_cases c8 : (a2 = 0)
      · replace hw := hw.1 c8
        refine lv_tableIn (off := 29) (tgt := 72) B.1 B.2.1 dX7_reelOf_43 (by rw [c8]; decide) (by rw [c8]; decide) (by rw [c8]; rfl) (by decide) ?_
        refine lv_aload_n B.1 B.2.1 dX7_reelOf_72 rfl (lv_at hl 0 rfl) ?_
        refine r_getN B hH (own := RX7) (kd_n B (kj3) (by decide) (by decide)) (ct_3 (kj3)) rfl (ul_3 B.2.2.2.2.1) 1 (by decide) rfl (tw_48 B.2.2.2.2.1) dX7_reelOf_73 ?_
        exact e_xi B hr hH hw dX7_reelOf_76 (Nat.le_of_ble_eq_true rfl) (Nat.le_of_ble_eq_true rfl)
      · by_cases c9 : (a2 = 1)
        · replace hw := hw.2.1 c9
          refine lv_tableIn (off := 34) (tgt := 77) B.1 B.2.1 dX7_reelOf_43 (by rw [c9]; decide) (by rw [c9]; decide) (by rw [c9]; rfl) (by decide) ?_
          refine lv_aload_n B.1 B.2.1 dX7_reelOf_77 rfl (lv_at hl 0 rfl) ?_
          refine lv_iconst (v := 1) B.1 B.2.1 dX7_reelOf_78 (by decide) ?_
          refine c_VN_I (own := RX7) (As := [.int 1]) (rest := []) B hH (cy_X3_countRows B.2.2.2.2.1) (ct_X3_countRows B.2.2.2.2.2.2.2 l j3 1 h5 _ _ (kj3) hw) ⟨⟨rfl, rfl⟩, Nat.le_of_ble_eq_true rfl, Nat.le_of_ble_eq_true rfl, Nat.le_of_ble_eq_true rfl, Nat.le_of_ble_eq_true rfl⟩ (rv_3 B hH (kj3)) (tw_645 B.2.2.2.2.1) rfl hl.1 rfl (Nat.le_of_ble_eq_true rfl) dX7_reelOf_79 ?_
          clear hw hH
          intro r11 h10 H locs hw hH
          exact e_xi B hr hH hw dX7_reelOf_82 (Nat.le_of_ble_eq_true rfl) (Nat.le_of_ble_eq_true rfl)
        · by_cases c12 : (a2 = 2)
          · replace hw := hw.2.2.1 c12
            refine lv_tableIn (off := 40) (tgt := 83) B.1 B.2.1 dX7_reelOf_43 (by rw [c12]; decide) (by rw [c12]; decide) (by rw [c12]; rfl) (by decide) ?_
            refine lv_aload_n B.1 B.2.1 dX7_reelOf_83 rfl (lv_at hl 0 rfl) ?_
            refine lv_iconst (v := 0) B.1 B.2.1 dX7_reelOf_84 (by decide) ?_
            refine c_VN_I (own := RX7) (As := [.int 0]) (rest := []) B hH (cy_X3_countRows B.2.2.2.2.1) (ct_X3_countRows B.2.2.2.2.2.2.2 l j3 0 h5 _ _ (kj3) hw) ⟨⟨rfl, rfl⟩, Nat.le_of_ble_eq_true rfl, Nat.le_of_ble_eq_true rfl, Nat.le_of_ble_eq_true rfl, Nat.le_of_ble_eq_true rfl⟩ (rv_3 B hH (kj3)) (tw_645 B.2.2.2.2.1) rfl hl.1 rfl (Nat.le_of_ble_eq_true rfl) dX7_reelOf_85 ?_
            clear hw hH
            intro r14 h13 H locs hw hH
            exact e_xi B hr hH hw dX7_reelOf_88 (Nat.le_of_ble_eq_true rfl) (Nat.le_of_ble_eq_true rfl)
          · by_cases c15 : (a2 = 3)
            · replace hw := hw.2.2.2.1 c15
              refine lv_tableIn (off := 46) (tgt := 89) B.1 B.2.1 dX7_reelOf_43 (by rw [c15]; decide) (by rw [c15]; decide) (by rw [c15]; rfl) (by decide) ?_
              refine lv_aload_n B.1 B.2.1 dX7_reelOf_89 rfl (lv_at hl 0 rfl) ?_
              refine c_VN_I (own := RX7) (As := []) (rest := []) B hH (cy_X3_sumOfSounds B.2.2.2.2.1) (ct_X3_sumOfSounds B.2.2.2.2.2.2.2 l j3 h5 _ _ (kj3) hw) ⟨⟨rfl, rfl⟩, Nat.le_of_ble_eq_true rfl, Nat.le_of_ble_eq_true rfl, Nat.le_of_ble_eq_true rfl, Nat.le_of_ble_eq_true rfl⟩ (rv_3 B hH (kj3)) (tw_657 B.2.2.2.2.1) rfl hl.1 rfl (Nat.le_of_ble_eq_true rfl) dX7_reelOf_90 ?_
              clear hw hH
              intro r17 h16 H locs hw hH
              exact e_xi B hr hH hw dX7_reelOf_93 (Nat.le_of_ble_eq_true rfl) (Nat.le_of_ble_eq_true rfl)
            · replace hw := hw.2.2.2.2 c8 c9 c12 c15
              have t0 := lv_neT (x := a2) (k := 0) (a := 0) c8 (by decide)
              have t1 := lv_neT (x := a2) (k := 1) (a := 1) c9 (by decide)
              have t2 := lv_neT (x := a2) (k := 2) (a := 2) c12 (by decide)
              have t3 := lv_neT (x := a2) (k := 3) (a := 3) c15 (by decide)
              refine lv_tableOut (tgt := 94) B.1 B.2.1 dX7_reelOf_43 (by omega) (by decide) ?_
              refine lv_aload_n B.1 B.2.1 dX7_reelOf_94 rfl (lv_at hl 0 rfl) ?_
              refine c_VN_I (own := RX7) (As := []) (rest := []) B hH (cy_X3_longestSilence B.2.2.2.2.1) (ct_X3_longestSilence B.2.2.2.2.2.2.2 l j3 h5 _ _ (kj3) hw) ⟨⟨rfl, rfl⟩, Nat.le_of_ble_eq_true rfl, Nat.le_of_ble_eq_true rfl, Nat.le_of_ble_eq_true rfl, Nat.le_of_ble_eq_true rfl⟩ (rv_3 B hH (kj3)) (tw_661 B.2.2.2.2.1) rfl hl.1 rfl (Nat.le_of_ble_eq_true rfl) dX7_reelOf_95 ?_
              clear hw hH
              intro r19 h18 H locs hw hH
              exact e_xi B hr hH hw dX7_reelOf_98 (Nat.le_of_ble_eq_true rfl) (Nat.le_of_ble_eq_true rfl)
    · replace hw := hw.2 c7
      exact r_thIAE B hH hB hT (is := 103) (text := "no such number") (tw_362 B.2.2.2.2.1) (tw_12 B.2.2.2.2.1) (by decide +kernel) hl.1 dX7_reelOf_32 dX7_reelOf_35 dX7_reelOf_36 dX7_reelOf_38 dX7_reelOf_41 (Nat.le_of_ble_eq_true rfl) (Nat.le_of_ble_eq_true rfl) (Nat.le_of_ble_eq_true rfl) (Nat.le_of_ble_eq_true rfl) hw (Nat.le_of_ble_eq_true rfl) (Nat.le_of_ble_eq_true rfl)
  · replace hw := hw.1 c4
    subst c4
    exact r_thIOB B hH hB hT (is := 135) (text := "no such reel") (tw_629 B.2.2.2.2.1) (tw_19 B.2.2.2.2.1) (by decide +kernel) hl.1 dX7_reelOf_13 dX7_reelOf_16 dX7_reelOf_17 dX7_reelOf_19 dX7_reelOf_22 (Nat.le_of_ble_eq_true rfl) (Nat.le_of_ble_eq_true rfl) (Nat.le_of_ble_eq_true rfl) (Nat.le_of_ble_eq_true rfl) hw (Nat.le_of_ble_eq_true rfl) (Nat.le_of_ble_eq_true rfl)
theorem cy_X7_sound {s : State} {args : Array Value} (hG : GG s) : CYV s args yX7_sound cX7_sound 4 (some .int) 2 := CYV.of hG (fun _ _ hG => tw_676 hG) (tw_1 hG) (tw_674 hG) (tw_675 hG) (by decide +kernel)
set_option maxRecDepth 100000 in
set_option maxHeartbeats 4000000 in
theorem ct_X7_sound {Z : ZT} (hZ : ZO Z) (l : Launch) (hl9 : l.stackTraces = false) (a0 : Nat) (a1 : Int32) (a2 : Int32) (h : PH) (sz : Nat) (Q : Int32 → PH → Prop) (X : String → PH → Prop) (k0 : kd a0 = 1) (hw : wp_X7_sound a0 a1 a2 h Q X) : XI Z l yX7_sound cX7_sound 4 (some .int) ({ frames := 6, cells := 1, slots := 6, locals := 82 } : Room) h sz [.ref (zA Z a0), .int a1, .int a2] Q X := by
  refine open_X hZ hl9 (by decide +kernel) (by exact Nat.le_of_ble_eq_true rfl) ?_
  intro p e s m below meth c B hr hsz ls hl hH hB hT
  subst hsz
  have hl : lv_has ls 4 [(0, .ref (zA Z a0)), (1, .int a1), (2, .int a2)] := hl
  unfold wp_X7_sound at hw
  refine lv_aload_n B.1 B.2.1 dX7_sound_0 rfl (lv_at hl 0 rfl) ?_
  refine r_get B hH (own := RX7) (kd_n B (k0) (by decide) (by decide)) (ct_1 (k0)) rfl (ul_1 B.2.2.2.2.1) 0 (by decide) rfl (tw_182 B.2.2.2.2.1) dX7_sound_1 ?_
  refine lv_iload_n B.1 B.2.1 dX7_sound_4 rfl (lv_at hl 1 rfl) ?_
  refine c_VN_O (own := RX7) (As := [.int a1]) (rest := []) B hH (cy_X5_reelAt B.2.2.2.2.1) (ct_X5_reelAt B.2.2.2.2.2.2.2 l (a0 + 1) a1 h _ _ (kf_1_0 (k0)) hw) ⟨⟨rfl, rfl⟩, Nat.le_of_ble_eq_true rfl, Nat.le_of_ble_eq_true rfl, Nat.le_of_ble_eq_true rfl, Nat.le_of_ble_eq_true rfl⟩ (rv_2 B hH (kf_1_0 (k0))) (tw_628 B.2.2.2.2.1) rfl hl.1 rfl (Nat.le_of_ble_eq_true rfl) dX7_sound_5 ?_
  clear hw hH
  intro r2 h1 H locs hw hH
  have kr2 := hw.2
  replace hw := hw.1
  refine x_astore_n (lv' := [(3, va_re (zA Z) r2), (0, .ref (zA Z a0)), (1, .int a1), (2, .int a2)]) B dX7_sound_8 rfl hl (by decide) (by first | rfl | simp [va_re_cat]) ?_
  clear hl
  intro ls hl
  refine x_aload_n B dX7_sound_9 rfl (lv_at hl 0 rfl) ?_
  refine x_ifnull (tgt := 21) B dX7_sound_10 (by decide) (fun c4 => ?_) (fun j3 c4 => ?_)
  · replace hw := hw.1 c4
    subst c4
    exact r_thIOB B hH hB hT (is := 157) (text := "no such reel or cell") (tw_629 B.2.2.2.2.1) (tw_19 B.2.2.2.2.1) (by decide +kernel) hl.1 dX7_sound_21 dX7_sound_24 dX7_sound_25 dX7_sound_27 dX7_sound_30 (Nat.le_of_ble_eq_true rfl) (Nat.le_of_ble_eq_true rfl) (Nat.le_of_ble_eq_true rfl) (Nat.le_of_ble_eq_true rfl) hw (Nat.le_of_ble_eq_true rfl) (Nat.le_of_ble_eq_true rfl)
  · replace hw := hw.2 j3 c4
    have kj3 := kr2 j3 c4
    subst c4
    refine lv_aload_n B.1 B.2.1 dX7_sound_13 rfl (lv_at hl 0 rfl) ?_
    refine lv_iload_n B.1 B.2.1 dX7_sound_14 rfl (lv_at hl 3 rfl) ?_
    refine c_VN_I (own := RX7) (As := [.int a2]) (rest := []) B hH (cy_X3_hasCell B.2.2.2.2.1) (ct_X3_hasCell B.2.2.2.2.2.2.2 l j3 a2 h1 _ _ (kj3) hw) ⟨⟨rfl, rfl⟩, Nat.le_of_ble_eq_true rfl, Nat.le_of_ble_eq_true rfl, Nat.le_of_ble_eq_true rfl, Nat.le_of_ble_eq_true rfl⟩ (rv_3 B hH (kj3)) (tw_677 B.2.2.2.2.1) rfl hl.1 rfl (Nat.le_of_ble_eq_true rfl) dX7_sound_15 ?_
    clear hw hH
    intro r6 h5 H locs hw hH
    refine lv_if_ne (tgt := 31) B.1 B.2.1 dX7_sound_18 (by decide) (fun c7 => ?_) (fun c7 => ?_)
    · replace hw := hw.1 c7
      refine lv_aload_n B.1 B.2.1 dX7_sound_31 rfl (lv_at hl 0 rfl) ?_
      refine r_getN B hH (own := RX7) (kd_n B (kj3) (by decide) (by decide)) (ct_3 (kj3)) rfl (ul_3 B.2.2.2.2.1) 0 (by decide) rfl (tw_44 B.2.2.2.2.1) dX7_sound_32 ?_
      refine lv_iload_n B.1 B.2.1 dX7_sound_35 rfl (lv_at hl 3 rfl) ?_
      refine c_S_I (own := RX7) (As := [.ref (zA Z (j3 + 1)), .int a2]) (rest := []) B hH (cy_X7_get B.2.2.2.2.1) (ct_X7_get B.2.2.2.2.2.2.2 l (j3 + 1) a2 h5 _ _ (kf_3_0 (kj3)) hw) ⟨⟨rfl, rfl⟩, Nat.le_of_ble_eq_true rfl, Nat.le_of_ble_eq_true rfl, Nat.le_of_ble_eq_true rfl, Nat.le_of_ble_eq_true rfl⟩ (tw_679 B.2.2.2.2.1) rfl hl.1 rfl (Nat.le_of_ble_eq_true rfl) dX7_sound_36 ?_
      clear hw hH
      intro r9 h8 H locs hw hH
      exact e_xi B hr hH hw dX7_sound_39 (Nat.le_of_ble_eq_true rfl) (Nat.le_of_ble_eq_true rfl)
    · replace hw := hw.2 c7
      exact r_thIOB B hH hB hT (is := 157) (text := "no such reel or cell") (tw_629 B.2.2.2.2.1) (tw_19 B.2.2.2.2.1) (by decide +kernel) hl.1 dX7_sound_21 dX7_sound_24 dX7_sound_25 dX7_sound_27 dX7_sound_30 (Nat.le_of_ble_eq_true rfl) (Nat.le_of_ble_eq_true rfl) (Nat.le_of_ble_eq_true rfl) (Nat.le_of_ble_eq_true rfl) hw (Nat.le_of_ble_eq_true rfl) (Nat.le_of_ble_eq_true rfl)
theorem cy_X7_silence {s : State} {args : Array Value} (hG : GG s) : CYV s args yX7_silence cX7_silence 6 (some .int) 3 := CYV.of hG (fun _ _ hG => tw_686 hG) (tw_1 hG) (tw_684 hG) (tw_685 hG) (by decide +kernel)
set_option maxRecDepth 100000 in
set_option maxHeartbeats 4000000 in
theorem ct_X7_silence {Z : ZT} (hZ : ZO Z) (l : Launch) (hl9 : l.stackTraces = false) (a0 : Nat) (a1 : Int32) (a2 : Int32) (a3 : Int32) (h : PH) (sz : Nat) (Q : Int32 → PH → Prop) (X : String → PH → Prop) (k0 : kd a0 = 1) (hw : wp_X7_silence a0 a1 a2 a3 h Q X) : XI Z l yX7_silence cX7_silence 6 (some .int) ({ frames := 6, cells := 1, slots := 6, locals := 88 } : Room) h sz [.ref (zA Z a0), .int a1, .int a2, .int a3] Q X := by
  refine open_X hZ hl9 (by decide +kernel) (by exact Nat.le_of_ble_eq_true rfl) ?_
  intro p e s m below meth c B hr hsz ls hl hH hB hT
  subst hsz
  have hl : lv_has ls 6 [(0, .ref (zA Z a0)), (1, .int a1), (2, .int a2), (3, .int a3)] := hl
  unfold wp_X7_silence at hw
  refine lv_aload_n B.1 B.2.1 dX7_silence_0 rfl (lv_at hl 0 rfl) ?_
  refine r_get B hH (own := RX7) (kd_n B (k0) (by decide) (by decide)) (ct_1 (k0)) rfl (ul_1 B.2.2.2.2.1) 0 (by decide) rfl (tw_182 B.2.2.2.2.1) dX7_silence_1 ?_
  refine lv_iload_n B.1 B.2.1 dX7_silence_4 rfl (lv_at hl 1 rfl) ?_
  refine c_VN_O (own := RX7) (As := [.int a1]) (rest := []) B hH (cy_X5_reelAt B.2.2.2.2.1) (ct_X5_reelAt B.2.2.2.2.2.2.2 l (a0 + 1) a1 h _ _ (kf_1_0 (k0)) hw) ⟨⟨rfl, rfl⟩, Nat.le_of_ble_eq_true rfl, Nat.le_of_ble_eq_true rfl, Nat.le_of_ble_eq_true rfl, Nat.le_of_ble_eq_true rfl⟩ (rv_2 B hH (kf_1_0 (k0))) (tw_628 B.2.2.2.2.1) rfl hl.1 rfl (Nat.le_of_ble_eq_true rfl) dX7_silence_5 ?_
  clear hw hH
  intro r2 h1 H locs hw hH
  have kr2 := hw.2
  replace hw := hw.1
  refine x_astore (lv' := [(4, va_re (zA Z) r2), (0, .ref (zA Z a0)), (1, .int a1), (2, .int a2), (3, .int a3)]) B dX7_silence_8 hl (by decide) (by first | rfl | simp [va_re_cat]) ?_
  clear hl
  intro ls hl
  refine x_aload B dX7_silence_10 (lv_at hl 0 rfl) ?_
  refine x_ifnull (tgt := 26) B dX7_silence_12 (by decide) (fun c4 => ?_) (fun j3 c4 => ?_)
  · replace hw := hw.1 c4
    subst c4
    exact r_thIOB B hH hB hT (is := 171) (text := "no such reel or silence") (tw_629 B.2.2.2.2.1) (tw_19 B.2.2.2.2.1) (by decide +kernel) hl.1 dX7_silence_26 dX7_silence_29 dX7_silence_30 dX7_silence_32 dX7_silence_35 (Nat.le_of_ble_eq_true rfl) (Nat.le_of_ble_eq_true rfl) (Nat.le_of_ble_eq_true rfl) (Nat.le_of_ble_eq_true rfl) hw (Nat.le_of_ble_eq_true rfl) (Nat.le_of_ble_eq_true rfl)
  · replace hw := hw.2 j3 c4
    have kj3 := kr2 j3 c4
    subst c4
    refine lv_aload B.1 B.2.1 dX7_silence_15 (lv_at hl 0 rfl) ?_
    refine lv_iload_n B.1 B.2.1 dX7_silence_17 rfl (lv_at hl 3 rfl) ?_
    refine lv_iconst (v := 1) B.1 B.2.1 dX7_silence_18 (by decide) ?_
    refine c_VN_I (own := RX7) (As := [.int a2, .int 1]) (rest := []) B hH (cy_X3_startOfRow B.2.2.2.2.1) (ct_X3_startOfRow B.2.2.2.2.2.2.2 l j3 a2 1 h1 _ _ (kj3) hw) ⟨⟨rfl, rfl⟩, Nat.le_of_ble_eq_true rfl, Nat.le_of_ble_eq_true rfl, Nat.le_of_ble_eq_true rfl, Nat.le_of_ble_eq_true rfl⟩ (rv_3 B hH (kj3)) (tw_687 B.2.2.2.2.1) rfl hl.1 rfl (Nat.le_of_ble_eq_true rfl) dX7_silence_19 ?_
    clear hw hH
    intro r6 h5 H locs hw hH
    refine lv_iconst (v := (-1)) B.1 B.2.1 dX7_silence_22 (by decide) ?_
    refine lv_icmp_ne (tgt := 36) B.1 B.2.1 dX7_silence_23 (by decide) (fun c7 => ?_) (fun c7 => ?_)
    · replace hw := hw.1 c7
      refine lv_iload_n B.1 B.2.1 dX7_silence_36 rfl (lv_at hl 4 rfl) ?_
      refine lv_iconst (v := 0) B.1 B.2.1 dX7_silence_37 (by decide) ?_
      refine lv_iconst (v := 2) B.1 B.2.1 dX7_silence_38 (by decide) ?_
      refine c_S_I (own := RX7) (As := [.int a3, .int 0, .int 2]) (rest := []) B hH (cy_X7_outside B.2.2.2.2.1) (ct_X7_outside B.2.2.2.2.2.2.2 l a3 0 2 h5 _ _  hw) ⟨⟨rfl, rfl⟩, Nat.le_of_ble_eq_true rfl, Nat.le_of_ble_eq_true rfl, Nat.le_of_ble_eq_true rfl, Nat.le_of_ble_eq_true rfl⟩ (tw_361 B.2.2.2.2.1) rfl hl.1 rfl (Nat.le_of_ble_eq_true rfl) dX7_silence_39 ?_
      clear hw hH
      intro r9 h8 H locs hw hH
      refine lv_if_eq (tgt := 55) B.1 B.2.1 dX7_silence_42 (by decide) (fun c10 => ?_) (fun c10 => ?_)
      · replace hw := hw.1 c10
        refine lv_aload B.1 B.2.1 dX7_silence_55 (lv_at hl 0 rfl) ?_
        refine lv_iload_n B.1 B.2.1 dX7_silence_57 rfl (lv_at hl 3 rfl) ?_
        refine lv_iconst (v := 1) B.1 B.2.1 dX7_silence_58 (by decide) ?_
        refine c_VN_I (own := RX7) (As := [.int a2, .int 1]) (rest := []) B hH (cy_X3_startOfRow B.2.2.2.2.1) (ct_X3_startOfRow B.2.2.2.2.2.2.2 l j3 a2 1 h8 _ _ (kj3) hw) ⟨⟨rfl, rfl⟩, Nat.le_of_ble_eq_true rfl, Nat.le_of_ble_eq_true rfl, Nat.le_of_ble_eq_true rfl, Nat.le_of_ble_eq_true rfl⟩ (rv_3 B hH (kj3)) (tw_687 B.2.2.2.2.1) rfl hl.1 rfl (Nat.le_of_ble_eq_true rfl) dX7_silence_59 ?_
        clear hw hH
        intro r12 h11 H locs hw hH
        refine lv_istore (lv' := [(5, .int r12), (4, .ref (zA Z j3)), (0, .ref (zA Z a0)), (1, .int a1), (2, .int a2), (3, .int a3)]) B.1 B.2.1 dX7_silence_62 hl (by decide) (by first | rfl | simp [va_re_cat, Value.category]) ?_
        clear hl
        intro ls hl
        refine lv_iload_n B.1 B.2.1 dX7_silence_64 rfl (lv_at hl 5 rfl) ?_
        by_cases c13 : (a3 = 0)
        · replace hw := hw.1 c13
          refine lv_lookup (off := 27) (tgt := 92) B.1 B.2.1 dX7_silence_65 (by decide) (by rw [c13]; rfl) (by decide) ?_
          refine lv_iload B.1 B.2.1 dX7_silence_92 (lv_at hl 0 rfl) ?_
          exact e_xi B hr hH hw dX7_silence_94 (Nat.le_of_ble_eq_true rfl) (Nat.le_of_ble_eq_true rfl)
        · by_cases c14 : (a3 = 1)
          · replace hw := hw.2.1 c14
            refine lv_lookup (off := 30) (tgt := 95) B.1 B.2.1 dX7_silence_65 (by decide) (by rw [c14]; rfl) (by decide) ?_
            refine lv_aload B.1 B.2.1 dX7_silence_95 (lv_at hl 1 rfl) ?_
            refine lv_iload B.1 B.2.1 dX7_silence_97 (lv_at hl 0 rfl) ?_
            refine c_VN_I (own := RX7) (As := [.int r12]) (rest := []) B hH (cy_X3_rowLength B.2.2.2.2.1) (ct_X3_rowLength B.2.2.2.2.2.2.2 l j3 r12 h11 _ _ (kj3) hw) ⟨⟨rfl, rfl⟩, Nat.le_of_ble_eq_true rfl, Nat.le_of_ble_eq_true rfl, Nat.le_of_ble_eq_true rfl, Nat.le_of_ble_eq_true rfl⟩ (rv_3 B hH (kj3)) (tw_692 B.2.2.2.2.1) rfl hl.1 rfl (Nat.le_of_ble_eq_true rfl) dX7_silence_99 ?_
            clear hw hH
            intro r16 h15 H locs hw hH
            exact e_xi B hr hH hw dX7_silence_102 (Nat.le_of_ble_eq_true rfl) (Nat.le_of_ble_eq_true rfl)
          · replace hw := hw.2.2 c13 c14
            refine lv_lookup (off := 38) (tgt := 103) B.1 B.2.1 dX7_silence_65 (by decide) ((lv_osw (x := a3) (k := 0) c13 (by decide)).trans ((lv_osw (x := a3) (k := 1) c14 (by decide)).trans (rfl))) (by decide) ?_
            refine lv_aload B.1 B.2.1 dX7_silence_103 (lv_at hl 1 rfl) ?_
            refine lv_iload B.1 B.2.1 dX7_silence_105 (lv_at hl 0 rfl) ?_
            refine c_VN_I (own := RX7) (As := [.int r12]) (rest := []) B hH (cy_X3_firstQuiet B.2.2.2.2.1) (ct_X3_firstQuiet B.2.2.2.2.2.2.2 l j3 r12 h11 _ _ (kj3) hw) ⟨⟨rfl, rfl⟩, Nat.le_of_ble_eq_true rfl, Nat.le_of_ble_eq_true rfl, Nat.le_of_ble_eq_true rfl, Nat.le_of_ble_eq_true rfl⟩ (rv_3 B hH (kj3)) (tw_693 B.2.2.2.2.1) rfl hl.1 rfl (Nat.le_of_ble_eq_true rfl) dX7_silence_107 ?_
            clear hw hH
            intro r18 h17 H locs hw hH
            exact e_xi B hr hH hw dX7_silence_110 (Nat.le_of_ble_eq_true rfl) (Nat.le_of_ble_eq_true rfl)
      · replace hw := hw.2 c10
        exact r_thIAE B hH hB hT (is := 103) (text := "no such number") (tw_362 B.2.2.2.2.1) (tw_12 B.2.2.2.2.1) (by decide +kernel) hl.1 dX7_silence_45 dX7_silence_48 dX7_silence_49 dX7_silence_51 dX7_silence_54 (Nat.le_of_ble_eq_true rfl) (Nat.le_of_ble_eq_true rfl) (Nat.le_of_ble_eq_true rfl) (Nat.le_of_ble_eq_true rfl) hw (Nat.le_of_ble_eq_true rfl) (Nat.le_of_ble_eq_true rfl)
    · replace hw := hw.2 c7
      exact r_thIOB B hH hB hT (is := 171) (text := "no such reel or silence") (tw_629 B.2.2.2.2.1) (tw_19 B.2.2.2.2.1) (by decide +kernel) hl.1 dX7_silence_26 dX7_silence_29 dX7_silence_30 dX7_silence_32 dX7_silence_35 (Nat.le_of_ble_eq_true rfl) (Nat.le_of_ble_eq_true rfl) (Nat.le_of_ble_eq_true rfl) (Nat.le_of_ble_eq_true rfl) hw (Nat.le_of_ble_eq_true rfl) (Nat.le_of_ble_eq_true rfl)
theorem cy_X7_piece {s : State} {args : Array Value} (hG : GG s) : CYV s args yX7_piece cX7_piece 6 (some .int) 3 := CYV.of hG (fun _ _ hG => tw_704 hG) (tw_1 hG) (tw_702 hG) (tw_703 hG) (by decide +kernel)
set_option maxRecDepth 100000 in
set_option maxHeartbeats 4000000 in
theorem ct_X7_piece {Z : ZT} (hZ : ZO Z) (l : Launch) (hl9 : l.stackTraces = false) (a0 : Nat) (a1 : Int32) (a2 : Int32) (a3 : Int32) (h : PH) (sz : Nat) (Q : Int32 → PH → Prop) (X : String → PH → Prop) (k0 : kd a0 = 1) (hw : wp_X7_piece a0 a1 a2 a3 h Q X) : XI Z l yX7_piece cX7_piece 6 (some .int) ({ frames := 6, cells := 1, slots := 6, locals := 88 } : Room) h sz [.ref (zA Z a0), .int a1, .int a2, .int a3] Q X := by
  refine open_X hZ hl9 (by decide +kernel) (by exact Nat.le_of_ble_eq_true rfl) ?_
  intro p e s m below meth c B hr hsz ls hl hH hB hT
  subst hsz
  have hl : lv_has ls 6 [(0, .ref (zA Z a0)), (1, .int a1), (2, .int a2), (3, .int a3)] := hl
  unfold wp_X7_piece at hw
  refine lv_aload_n B.1 B.2.1 dX7_piece_0 rfl (lv_at hl 0 rfl) ?_
  refine r_get B hH (own := RX7) (kd_n B (k0) (by decide) (by decide)) (ct_1 (k0)) rfl (ul_1 B.2.2.2.2.1) 0 (by decide) rfl (tw_182 B.2.2.2.2.1) dX7_piece_1 ?_
  refine lv_iload_n B.1 B.2.1 dX7_piece_4 rfl (lv_at hl 1 rfl) ?_
  refine c_VN_O (own := RX7) (As := [.int a1]) (rest := []) B hH (cy_X5_reelAt B.2.2.2.2.1) (ct_X5_reelAt B.2.2.2.2.2.2.2 l (a0 + 1) a1 h _ _ (kf_1_0 (k0)) hw) ⟨⟨rfl, rfl⟩, Nat.le_of_ble_eq_true rfl, Nat.le_of_ble_eq_true rfl, Nat.le_of_ble_eq_true rfl, Nat.le_of_ble_eq_true rfl⟩ (rv_2 B hH (kf_1_0 (k0))) (tw_628 B.2.2.2.2.1) rfl hl.1 rfl (Nat.le_of_ble_eq_true rfl) dX7_piece_5 ?_
  clear hw hH
  intro r2 h1 H locs hw hH
  have kr2 := hw.2
  replace hw := hw.1
  refine x_astore (lv' := [(4, va_re (zA Z) r2), (0, .ref (zA Z a0)), (1, .int a1), (2, .int a2), (3, .int a3)]) B dX7_piece_8 hl (by decide) (by first | rfl | simp [va_re_cat]) ?_
  clear hl
  intro ls hl
  refine x_aload B dX7_piece_10 (lv_at hl 0 rfl) ?_
  refine x_ifnull (tgt := 26) B dX7_piece_12 (by decide) (fun c4 => ?_) (fun j3 c4 => ?_)
  · replace hw := hw.1 c4
    subst c4
    exact r_thIOB B hH hB hT (is := 179) (text := "no such reel or piece") (tw_629 B.2.2.2.2.1) (tw_19 B.2.2.2.2.1) (by decide +kernel) hl.1 dX7_piece_26 dX7_piece_29 dX7_piece_30 dX7_piece_32 dX7_piece_35 (Nat.le_of_ble_eq_true rfl) (Nat.le_of_ble_eq_true rfl) (Nat.le_of_ble_eq_true rfl) (Nat.le_of_ble_eq_true rfl) hw (Nat.le_of_ble_eq_true rfl) (Nat.le_of_ble_eq_true rfl)
  · replace hw := hw.2 j3 c4
    have kj3 := kr2 j3 c4
    subst c4
    refine lv_aload B.1 B.2.1 dX7_piece_15 (lv_at hl 0 rfl) ?_
    refine lv_iload_n B.1 B.2.1 dX7_piece_17 rfl (lv_at hl 3 rfl) ?_
    refine lv_iconst (v := 0) B.1 B.2.1 dX7_piece_18 (by decide) ?_
    refine c_VN_I (own := RX7) (As := [.int a2, .int 0]) (rest := []) B hH (cy_X3_startOfRow B.2.2.2.2.1) (ct_X3_startOfRow B.2.2.2.2.2.2.2 l j3 a2 0 h1 _ _ (kj3) hw) ⟨⟨rfl, rfl⟩, Nat.le_of_ble_eq_true rfl, Nat.le_of_ble_eq_true rfl, Nat.le_of_ble_eq_true rfl, Nat.le_of_ble_eq_true rfl⟩ (rv_3 B hH (kj3)) (tw_687 B.2.2.2.2.1) rfl hl.1 rfl (Nat.le_of_ble_eq_true rfl) dX7_piece_19 ?_
    clear hw hH
    intro r6 h5 H locs hw hH
    refine lv_iconst (v := (-1)) B.1 B.2.1 dX7_piece_22 (by decide) ?_
    refine lv_icmp_ne (tgt := 36) B.1 B.2.1 dX7_piece_23 (by decide) (fun c7 => ?_) (fun c7 => ?_)
    · replace hw := hw.1 c7
      refine lv_iload_n B.1 B.2.1 dX7_piece_36 rfl (lv_at hl 4 rfl) ?_
      refine lv_iconst (v := 0) B.1 B.2.1 dX7_piece_37 (by decide) ?_
      refine lv_iconst (v := 2) B.1 B.2.1 dX7_piece_38 (by decide) ?_
      refine c_S_I (own := RX7) (As := [.int a3, .int 0, .int 2]) (rest := []) B hH (cy_X7_outside B.2.2.2.2.1) (ct_X7_outside B.2.2.2.2.2.2.2 l a3 0 2 h5 _ _  hw) ⟨⟨rfl, rfl⟩, Nat.le_of_ble_eq_true rfl, Nat.le_of_ble_eq_true rfl, Nat.le_of_ble_eq_true rfl, Nat.le_of_ble_eq_true rfl⟩ (tw_361 B.2.2.2.2.1) rfl hl.1 rfl (Nat.le_of_ble_eq_true rfl) dX7_piece_39 ?_
      clear hw hH
      intro r9 h8 H locs hw hH
      refine lv_if_eq (tgt := 55) B.1 B.2.1 dX7_piece_42 (by decide) (fun c10 => ?_) (fun c10 => ?_)
      · replace hw := hw.1 c10
        refine lv_aload B.1 B.2.1 dX7_piece_55 (lv_at hl 0 rfl) ?_
        refine lv_iload_n B.1 B.2.1 dX7_piece_57 rfl (lv_at hl 3 rfl) ?_
        refine lv_iconst (v := 0) B.1 B.2.1 dX7_piece_58 (by decide) ?_
        refine c_VN_I (own := RX7) (As := [.int a2, .int 0]) (rest := []) B hH (cy_X3_startOfRow B.2.2.2.2.1) (ct_X3_startOfRow B.2.2.2.2.2.2.2 l j3 a2 0 h8 _ _ (kj3) hw) ⟨⟨rfl, rfl⟩, Nat.le_of_ble_eq_true rfl, Nat.le_of_ble_eq_true rfl, Nat.le_of_ble_eq_true rfl, Nat.le_of_ble_eq_true rfl⟩ (rv_3 B hH (kj3)) (tw_687 B.2.2.2.2.1) rfl hl.1 rfl (Nat.le_of_ble_eq_true rfl) dX7_piece_59 ?_
        clear hw hH
        intro r12 h11 H locs hw hH
        refine lv_istore (lv' := [(5, .int r12), (4, .ref (zA Z j3)), (0, .ref (zA Z a0)), (1, .int a1), (2, .int a2), (3, .int a3)]) B.1 B.2.1 dX7_piece_62 hl (by decide) (by first | rfl | simp [va_re_cat, Value.category]) ?_
        clear hl
        intro ls hl
        refine lv_iload_n B.1 B.2.1 dX7_piece_64 rfl (lv_at hl 5 rfl) ?_
        by_cases c13 : (a3 = 0)
        · replace hw := hw.1 c13
          refine lv_lookup (off := 27) (tgt := 92) B.1 B.2.1 dX7_piece_65 (by decide) (by rw [c13]; rfl) (by decide) ?_
          refine lv_iload B.1 B.2.1 dX7_piece_92 (lv_at hl 0 rfl) ?_
          exact e_xi B hr hH hw dX7_piece_94 (Nat.le_of_ble_eq_true rfl) (Nat.le_of_ble_eq_true rfl)
        · by_cases c14 : (a3 = 1)
          · replace hw := hw.2.1 c14
            refine lv_lookup (off := 30) (tgt := 95) B.1 B.2.1 dX7_piece_65 (by decide) (by rw [c14]; rfl) (by decide) ?_
            refine lv_aload B.1 B.2.1 dX7_piece_95 (lv_at hl 1 rfl) ?_
            refine lv_iload B.1 B.2.1 dX7_piece_97 (lv_at hl 0 rfl) ?_
            refine c_VN_I (own := RX7) (As := [.int r12]) (rest := []) B hH (cy_X3_rowLength B.2.2.2.2.1) (ct_X3_rowLength B.2.2.2.2.2.2.2 l j3 r12 h11 _ _ (kj3) hw) ⟨⟨rfl, rfl⟩, Nat.le_of_ble_eq_true rfl, Nat.le_of_ble_eq_true rfl, Nat.le_of_ble_eq_true rfl, Nat.le_of_ble_eq_true rfl⟩ (rv_3 B hH (kj3)) (tw_692 B.2.2.2.2.1) rfl hl.1 rfl (Nat.le_of_ble_eq_true rfl) dX7_piece_99 ?_
            clear hw hH
            intro r16 h15 H locs hw hH
            exact e_xi B hr hH hw dX7_piece_102 (Nat.le_of_ble_eq_true rfl) (Nat.le_of_ble_eq_true rfl)
          · replace hw := hw.2.2 c13 c14
            refine lv_lookup (off := 38) (tgt := 103) B.1 B.2.1 dX7_piece_65 (by decide) ((lv_osw (x := a3) (k := 0) c13 (by decide)).trans ((lv_osw (x := a3) (k := 1) c14 (by decide)).trans (rfl))) (by decide) ?_
            refine lv_aload B.1 B.2.1 dX7_piece_103 (lv_at hl 1 rfl) ?_
            refine lv_iload B.1 B.2.1 dX7_piece_105 (lv_at hl 0 rfl) ?_
            refine c_VN_I (own := RX7) (As := [.int r12]) (rest := []) B hH (cy_X3_greatestSound B.2.2.2.2.1) (ct_X3_greatestSound B.2.2.2.2.2.2.2 l j3 r12 h11 _ _ (kj3) hw) ⟨⟨rfl, rfl⟩, Nat.le_of_ble_eq_true rfl, Nat.le_of_ble_eq_true rfl, Nat.le_of_ble_eq_true rfl, Nat.le_of_ble_eq_true rfl⟩ (rv_3 B hH (kj3)) (tw_706 B.2.2.2.2.1) rfl hl.1 rfl (Nat.le_of_ble_eq_true rfl) dX7_piece_107 ?_
            clear hw hH
            intro r18 h17 H locs hw hH
            exact e_xi B hr hH hw dX7_piece_110 (Nat.le_of_ble_eq_true rfl) (Nat.le_of_ble_eq_true rfl)
      · replace hw := hw.2 c10
        exact r_thIAE B hH hB hT (is := 103) (text := "no such number") (tw_362 B.2.2.2.2.1) (tw_12 B.2.2.2.2.1) (by decide +kernel) hl.1 dX7_piece_45 dX7_piece_48 dX7_piece_49 dX7_piece_51 dX7_piece_54 (Nat.le_of_ble_eq_true rfl) (Nat.le_of_ble_eq_true rfl) (Nat.le_of_ble_eq_true rfl) (Nat.le_of_ble_eq_true rfl) hw (Nat.le_of_ble_eq_true rfl) (Nat.le_of_ble_eq_true rfl)
    · replace hw := hw.2 c7
      exact r_thIOB B hH hB hT (is := 179) (text := "no such reel or piece") (tw_629 B.2.2.2.2.1) (tw_19 B.2.2.2.2.1) (by decide +kernel) hl.1 dX7_piece_26 dX7_piece_29 dX7_piece_30 dX7_piece_32 dX7_piece_35 (Nat.le_of_ble_eq_true rfl) (Nat.le_of_ble_eq_true rfl) (Nat.le_of_ble_eq_true rfl) (Nat.le_of_ble_eq_true rfl) hw (Nat.le_of_ble_eq_true rfl) (Nat.le_of_ble_eq_true rfl)
theorem cy_X7_loopOf {s : State} {args : Array Value} (hG : GG s) : CYV s args yX7_loopOf cX7_loopOf 4 (some .int) 2 := CYV.of hG (fun _ _ hG => tw_716 hG) (tw_1 hG) (tw_714 hG) (tw_715 hG) (by decide +kernel)
set_option maxRecDepth 100000 in
set_option maxHeartbeats 4000000 in
theorem ct_X7_loopOf {Z : ZT} (hZ : ZO Z) (l : Launch) (hl9 : l.stackTraces = false) (a0 : Nat) (a1 : Int32) (a2 : Int32) (h : PH) (sz : Nat) (Q : Int32 → PH → Prop) (X : String → PH → Prop) (k0 : kd a0 = 1) (hw : wp_X7_loopOf a0 a1 a2 h Q X) : XI Z l yX7_loopOf cX7_loopOf 4 (some .int) ({ frames := 6, cells := 1, slots := 6, locals := 82 } : Room) h sz [.ref (zA Z a0), .int a1, .int a2] Q X := by
  refine open_X hZ hl9 (by decide +kernel) (by exact Nat.le_of_ble_eq_true rfl) ?_
  intro p e s m below meth c B hr hsz ls hl hH hB hT
  subst hsz
  have hl : lv_has ls 4 [(0, .ref (zA Z a0)), (1, .int a1), (2, .int a2)] := hl
  unfold wp_X7_loopOf at hw
  refine lv_aload_n B.1 B.2.1 dX7_loopOf_0 rfl (lv_at hl 0 rfl) ?_
  refine r_get B hH (own := RX7) (kd_n B (k0) (by decide) (by decide)) (ct_1 (k0)) rfl (ul_1 B.2.2.2.2.1) 0 (by decide) rfl (tw_182 B.2.2.2.2.1) dX7_loopOf_1 ?_
  refine lv_iload_n B.1 B.2.1 dX7_loopOf_4 rfl (lv_at hl 1 rfl) ?_
  refine c_VN_O (own := RX7) (As := [.int a1]) (rest := []) B hH (cy_X5_loopAt B.2.2.2.2.1) (ct_X5_loopAt B.2.2.2.2.2.2.2 l (a0 + 1) a1 h _ _ (kf_1_0 (k0)) hw) ⟨⟨rfl, rfl⟩, Nat.le_of_ble_eq_true rfl, Nat.le_of_ble_eq_true rfl, Nat.le_of_ble_eq_true rfl, Nat.le_of_ble_eq_true rfl⟩ (rv_2 B hH (kf_1_0 (k0))) (tw_717 B.2.2.2.2.1) rfl hl.1 rfl (Nat.le_of_ble_eq_true rfl) dX7_loopOf_5 ?_
  clear hw hH
  intro r2 h1 H locs hw hH
  have kr2 := hw.2
  replace hw := hw.1
  refine x_astore_n (lv' := [(3, va_re (zA Z) r2), (0, .ref (zA Z a0)), (1, .int a1), (2, .int a2)]) B dX7_loopOf_8 rfl hl (by decide) (by first | rfl | simp [va_re_cat]) ?_
  clear hl
  intro ls hl
  refine x_aload_n B dX7_loopOf_9 rfl (lv_at hl 0 rfl) ?_
  refine x_ifnonnull (tgt := 23) B dX7_loopOf_10 (by decide) (fun j3 c4 => ?_) (fun c4 => ?_)
  · replace hw := hw.2 j3 c4
    have kj3 := kr2 j3 c4
    subst c4
    refine lv_iload_n B.1 B.2.1 dX7_loopOf_23 rfl (lv_at hl 3 rfl) ?_
    refine lv_iconst (v := 0) B.1 B.2.1 dX7_loopOf_24 (by decide) ?_
    refine lv_bipush (v := 8) B.1 B.2.1 dX7_loopOf_25 (by decide) ?_
    refine c_S_I (own := RX7) (As := [.int a2, .int 0, .int 8]) (rest := []) B hH (cy_X7_outside B.2.2.2.2.1) (ct_X7_outside B.2.2.2.2.2.2.2 l a2 0 8 h1 _ _  hw) ⟨⟨rfl, rfl⟩, Nat.le_of_ble_eq_true rfl, Nat.le_of_ble_eq_true rfl, Nat.le_of_ble_eq_true rfl, Nat.le_of_ble_eq_true rfl⟩ (tw_361 B.2.2.2.2.1) rfl hl.1 rfl (Nat.le_of_ble_eq_true rfl) dX7_loopOf_27 ?_
    clear hw hH
    intro r6 h5 H locs hw hH
    refine lv_if_eq (tgt := 43) B.1 B.2.1 dX7_loopOf_30 (by decide) (fun c7 => ?_) (fun c7 => ?_)
    · replace hw := hw.1 c7
      refine lv_iload_n B.1 B.2.1 dX7_loopOf_43 rfl (lv_at hl 3 rfl) ?_
      by_cases c8 : (a2 = 0)
      · replace hw := hw.1 c8
        refine lv_tableIn (off := 48) (tgt := 92) B.1 B.2.1 dX7_loopOf_44 (by rw [c8]; decide) (by rw [c8]; decide) (by rw [c8]; rfl) (by decide) ?_
        refine lv_aload_n B.1 B.2.1 dX7_loopOf_92 rfl (lv_at hl 0 rfl) ?_
        refine r_getN B hH (own := RX7) (kd_n B (kj3) (by decide) (by decide)) (ct_4 (kj3)) rfl (ul_4 B.2.2.2.2.1) 2 (by decide) rfl (tw_68 B.2.2.2.2.1) dX7_loopOf_93 ?_
        exact e_xi B hr hH hw dX7_loopOf_96 (Nat.le_of_ble_eq_true rfl) (Nat.le_of_ble_eq_true rfl)
      · by_cases c9 : (a2 = 1)
        · replace hw := hw.2.1 c9
          refine lv_tableIn (off := 53) (tgt := 97) B.1 B.2.1 dX7_loopOf_44 (by rw [c9]; decide) (by rw [c9]; decide) (by rw [c9]; rfl) (by decide) ?_
          refine lv_aload_n B.1 B.2.1 dX7_loopOf_97 rfl (lv_at hl 0 rfl) ?_
          refine r_getN B hH (own := RX7) (kd_n B (kj3) (by decide) (by decide)) (ct_4 (kj3)) rfl (ul_4 B.2.2.2.2.1) 4 (by decide) rfl (tw_73 B.2.2.2.2.1) dX7_loopOf_98 ?_
          exact e_xi B hr hH hw dX7_loopOf_101 (Nat.le_of_ble_eq_true rfl) (Nat.le_of_ble_eq_true rfl)
        · by_cases c10 : (a2 = 2)
          · replace hw := hw.2.2.1 c10
            refine lv_tableIn (off := 58) (tgt := 102) B.1 B.2.1 dX7_loopOf_44 (by rw [c10]; decide) (by rw [c10]; decide) (by rw [c10]; rfl) (by decide) ?_
            refine lv_aload_n B.1 B.2.1 dX7_loopOf_102 rfl (lv_at hl 0 rfl) ?_
            refine r_getN B hH (own := RX7) (kd_n B (kj3) (by decide) (by decide)) (ct_4 (kj3)) rfl (ul_4 B.2.2.2.2.1) 5 (by decide) rfl (tw_75 B.2.2.2.2.1) dX7_loopOf_103 ?_
            exact e_xi B hr hH hw dX7_loopOf_106 (Nat.le_of_ble_eq_true rfl) (Nat.le_of_ble_eq_true rfl)
          · by_cases c11 : (a2 = 3)
            · replace hw := hw.2.2.2.1 c11
              refine lv_tableIn (off := 63) (tgt := 107) B.1 B.2.1 dX7_loopOf_44 (by rw [c11]; decide) (by rw [c11]; decide) (by rw [c11]; rfl) (by decide) ?_
              refine lv_aload_n B.1 B.2.1 dX7_loopOf_107 rfl (lv_at hl 0 rfl) ?_
              refine r_getN B hH (own := RX7) (kd_n B (kj3) (by decide) (by decide)) (ct_4 (kj3)) rfl (ul_4 B.2.2.2.2.1) 6 (by decide) rfl (tw_77 B.2.2.2.2.1) dX7_loopOf_108 ?_
              exact e_xi B hr hH hw dX7_loopOf_111 (Nat.le_of_ble_eq_true rfl) (Nat.le_of_ble_eq_true rfl)
            · by_cases c12 : (a2 = 4)
              · replace hw := hw.2.2.2.2.1 c12
                refine lv_tableIn (off := 68) (tgt := 112) B.1 B.2.1 dX7_loopOf_44 (by rw [c12]; decide) (by rw [c12]; decide) (by rw [c12]; rfl) (by decide) ?_
                refine lv_aload_n B.1 B.2.1 dX7_loopOf_112 rfl (lv_at hl 0 rfl) ?_
                refine lv_aload_n B.1 B.2.1 dX7_loopOf_113 rfl (lv_at hl 0 rfl) ?_
                refine r_getN B hH (own := RX7) (kd_n B (kj3) (by decide) (by decide)) (ct_4 (kj3)) rfl (ul_4 B.2.2.2.2.1) 6 (by decide) rfl (tw_77 B.2.2.2.2.1) dX7_loopOf_114 ?_
                refine c_VN_I (own := RX7) (As := [.int (h5 j3 6)]) (rest := []) B hH (cy_X0_headIn B.2.2.2.2.1) (ct_X0_headIn B.2.2.2.2.2.2.2 l j3 (h5 j3 6) h5 _ _ (kj3) hw) ⟨⟨rfl, rfl⟩, Nat.le_of_ble_eq_true rfl, Nat.le_of_ble_eq_true rfl, Nat.le_of_ble_eq_true rfl, Nat.le_of_ble_eq_true rfl⟩ (rv_4 B hH (kj3)) (tw_719 B.2.2.2.2.1) rfl hl.1 rfl (Nat.le_of_ble_eq_true rfl) dX7_loopOf_117 ?_
                clear hw hH
                intro r14 h13 H locs hw hH
                exact e_xi B hr hH hw dX7_loopOf_120 (Nat.le_of_ble_eq_true rfl) (Nat.le_of_ble_eq_true rfl)
              · by_cases c15 : (a2 = 5)
                · replace hw := hw.2.2.2.2.2.1 c15
                  refine lv_tableIn (off := 77) (tgt := 121) B.1 B.2.1 dX7_loopOf_44 (by rw [c15]; decide) (by rw [c15]; decide) (by rw [c15]; rfl) (by decide) ?_
                  refine lv_aload_n B.1 B.2.1 dX7_loopOf_121 rfl (lv_at hl 0 rfl) ?_
                  refine r_getN B hH (own := RX7) (kd_n B (kj3) (by decide) (by decide)) (ct_4 (kj3)) rfl (ul_4 B.2.2.2.2.1) 0 (by decide) rfl (tw_64 B.2.2.2.2.1) dX7_loopOf_122 ?_
                  refine lv_aload_n B.1 B.2.1 dX7_loopOf_125 rfl (lv_at hl 0 rfl) ?_
                  refine lv_aload_n B.1 B.2.1 dX7_loopOf_126 rfl (lv_at hl 0 rfl) ?_
                  refine r_getN B hH (own := RX7) (kd_n B (kj3) (by decide) (by decide)) (ct_4 (kj3)) rfl (ul_4 B.2.2.2.2.1) 6 (by decide) rfl (tw_77 B.2.2.2.2.1) dX7_loopOf_127 ?_
                  refine c_VN_I (own := RX7) (As := [.int (h5 j3 6)]) (rest := [.ref (zA Z (j3 + 1))]) B hH (cy_X0_headIn B.2.2.2.2.1) (ct_X0_headIn B.2.2.2.2.2.2.2 l j3 (h5 j3 6) h5 _ _ (kj3) hw) ⟨⟨rfl, rfl⟩, Nat.le_of_ble_eq_true rfl, Nat.le_of_ble_eq_true rfl, Nat.le_of_ble_eq_true rfl, Nat.le_of_ble_eq_true rfl⟩ (rv_4 B hH (kj3)) (tw_719 B.2.2.2.2.1) rfl hl.1 rfl (Nat.le_of_ble_eq_true rfl) dX7_loopOf_130 ?_
                  clear hw hH
                  intro r17 h16 H locs hw hH
                  refine c_S_I (own := RX7) (As := [.ref (zA Z (j3 + 1)), .int r17]) (rest := []) B hH (cy_X7_get B.2.2.2.2.1) (ct_X7_get B.2.2.2.2.2.2.2 l (j3 + 1) r17 h16 _ _ (kf_4_0 (kj3)) hw) ⟨⟨rfl, rfl⟩, Nat.le_of_ble_eq_true rfl, Nat.le_of_ble_eq_true rfl, Nat.le_of_ble_eq_true rfl, Nat.le_of_ble_eq_true rfl⟩ (tw_679 B.2.2.2.2.1) rfl hl.1 rfl (Nat.le_of_ble_eq_true rfl) dX7_loopOf_133 ?_
                  clear hw hH
                  intro r19 h18 H locs hw hH
                  exact e_xi B hr hH hw dX7_loopOf_136 (Nat.le_of_ble_eq_true rfl) (Nat.le_of_ble_eq_true rfl)
                · by_cases c20 : (a2 = 6)
                  · replace hw := hw.2.2.2.2.2.2.1 c20
                    refine lv_tableIn (off := 93) (tgt := 137) B.1 B.2.1 dX7_loopOf_44 (by rw [c20]; decide) (by rw [c20]; decide) (by rw [c20]; rfl) (by decide) ?_
                    refine lv_aload_n B.1 B.2.1 dX7_loopOf_137 rfl (lv_at hl 0 rfl) ?_
                    refine r_getN B hH (own := RX7) (kd_n B (kj3) (by decide) (by decide)) (ct_4 (kj3)) rfl (ul_4 B.2.2.2.2.1) 7 (by decide) rfl (tw_81 B.2.2.2.2.1) dX7_loopOf_138 ?_
                    refine lv_if_eq (tgt := 148) B.1 B.2.1 dX7_loopOf_141 (by decide) (fun c21 => ?_) (fun c21 => ?_)
                    · replace hw := hw.1 c21
                      refine lv_iconst (v := 0) B.1 B.2.1 dX7_loopOf_148 (by decide) ?_
                      exact e_xi B hr hH hw dX7_loopOf_149 (Nat.le_of_ble_eq_true rfl) (Nat.le_of_ble_eq_true rfl)
                    · replace hw := hw.2 c21
                      refine lv_iconst (v := 1) B.1 B.2.1 dX7_loopOf_144 (by decide) ?_
                      refine lv_goto (tgt := 149) B.1 B.2.1 dX7_loopOf_145 (by decide) ?_
                      exact e_xi B hr hH hw dX7_loopOf_149 (Nat.le_of_ble_eq_true rfl) (Nat.le_of_ble_eq_true rfl)
                  · by_cases c22 : (a2 = 7)
                    · replace hw := hw.2.2.2.2.2.2.2.1 c22
                      refine lv_tableIn (off := 106) (tgt := 150) B.1 B.2.1 dX7_loopOf_44 (by rw [c22]; decide) (by rw [c22]; decide) (by rw [c22]; rfl) (by decide) ?_
                      refine lv_aload_n B.1 B.2.1 dX7_loopOf_150 rfl (lv_at hl 0 rfl) ?_
                      refine c_VN_I (own := RX7) (As := []) (rest := []) B hH (cy_X0_period B.2.2.2.2.1) (ct_X0_period B.2.2.2.2.2.2.2 l j3 h5 _ _ (kj3) hw) ⟨⟨rfl, rfl⟩, Nat.le_of_ble_eq_true rfl, Nat.le_of_ble_eq_true rfl, Nat.le_of_ble_eq_true rfl, Nat.le_of_ble_eq_true rfl⟩ (rv_4 B hH (kj3)) (tw_720 B.2.2.2.2.1) rfl hl.1 rfl (Nat.le_of_ble_eq_true rfl) dX7_loopOf_151 ?_
                      clear hw hH
                      intro r24 h23 H locs hw hH
                      exact e_xi B hr hH hw dX7_loopOf_154 (Nat.le_of_ble_eq_true rfl) (Nat.le_of_ble_eq_true rfl)
                    · replace hw := hw.2.2.2.2.2.2.2.2 c8 c9 c10 c11 c12 c15 c20 c22
                      have t0 := lv_neT (x := a2) (k := 0) (a := 0) c8 (by decide)
                      have t1 := lv_neT (x := a2) (k := 1) (a := 1) c9 (by decide)
                      have t2 := lv_neT (x := a2) (k := 2) (a := 2) c10 (by decide)
                      have t3 := lv_neT (x := a2) (k := 3) (a := 3) c11 (by decide)
                      have t4 := lv_neT (x := a2) (k := 4) (a := 4) c12 (by decide)
                      have t5 := lv_neT (x := a2) (k := 5) (a := 5) c15 (by decide)
                      have t6 := lv_neT (x := a2) (k := 6) (a := 6) c20 (by decide)
                      have t7 := lv_neT (x := a2) (k := 7) (a := 7) c22 (by decide)
                      refine lv_tableOut (tgt := 155) B.1 B.2.1 dX7_loopOf_44 (by omega) (by decide) ?_
                      refine lv_aload_n B.1 B.2.1 dX7_loopOf_155 rfl (lv_at hl 0 rfl) ?_
                      refine r_getN B hH (own := RX7) (kd_n B (kj3) (by decide) (by decide)) (ct_4 (kj3)) rfl (ul_4 B.2.2.2.2.1) 3 (by decide) rfl (tw_70 B.2.2.2.2.1) dX7_loopOf_156 ?_
                      exact e_xi B hr hH hw dX7_loopOf_159 (Nat.le_of_ble_eq_true rfl) (Nat.le_of_ble_eq_true rfl)
    · replace hw := hw.2 c7
      exact r_thIAE B hH hB hT (is := 103) (text := "no such number") (tw_362 B.2.2.2.2.1) (tw_12 B.2.2.2.2.1) (by decide +kernel) hl.1 dX7_loopOf_33 dX7_loopOf_36 dX7_loopOf_37 dX7_loopOf_39 dX7_loopOf_42 (Nat.le_of_ble_eq_true rfl) (Nat.le_of_ble_eq_true rfl) (Nat.le_of_ble_eq_true rfl) (Nat.le_of_ble_eq_true rfl) hw (Nat.le_of_ble_eq_true rfl) (Nat.le_of_ble_eq_true rfl)
  · replace hw := hw.1 c4
    subst c4
    exact r_thIOB B hH hB hT (is := 188) (text := "no such loop") (tw_629 B.2.2.2.2.1) (tw_19 B.2.2.2.2.1) (by decide +kernel) hl.1 dX7_loopOf_13 dX7_loopOf_16 dX7_loopOf_17 dX7_loopOf_19 dX7_loopOf_22 (Nat.le_of_ble_eq_true rfl) (Nat.le_of_ble_eq_true rfl) (Nat.le_of_ble_eq_true rfl) (Nat.le_of_ble_eq_true rfl) hw (Nat.le_of_ble_eq_true rfl) (Nat.le_of_ble_eq_true rfl)
theorem cy_X7_cell {s : State} {args : Array Value} (hG : GG s) : CYV s args yX7_cell cX7_cell 4 (some .int) 2 := CYV.of hG (fun _ _ hG => tw_727 hG) (tw_1 hG) (tw_725 hG) (tw_726 hG) (by decide +kernel)
set_option maxRecDepth 100000 in
set_option maxHeartbeats 4000000 in
theorem ct_X7_cell {Z : ZT} (hZ : ZO Z) (l : Launch) (hl9 : l.stackTraces = false) (a0 : Nat) (a1 : Int32) (a2 : Int32) (h : PH) (sz : Nat) (Q : Int32 → PH → Prop) (X : String → PH → Prop) (k0 : kd a0 = 1) (hw : wp_X7_cell a0 a1 a2 h Q X) : XI Z l yX7_cell cX7_cell 4 (some .int) ({ frames := 6, cells := 1, slots := 6, locals := 82 } : Room) h sz [.ref (zA Z a0), .int a1, .int a2] Q X := by
  refine open_X hZ hl9 (by decide +kernel) (by exact Nat.le_of_ble_eq_true rfl) ?_
  intro p e s m below meth c B hr hsz ls hl hH hB hT
  subst hsz
  have hl : lv_has ls 4 [(0, .ref (zA Z a0)), (1, .int a1), (2, .int a2)] := hl
  unfold wp_X7_cell at hw
  refine lv_aload_n B.1 B.2.1 dX7_cell_0 rfl (lv_at hl 0 rfl) ?_
  refine r_get B hH (own := RX7) (kd_n B (k0) (by decide) (by decide)) (ct_1 (k0)) rfl (ul_1 B.2.2.2.2.1) 0 (by decide) rfl (tw_182 B.2.2.2.2.1) dX7_cell_1 ?_
  refine lv_iload_n B.1 B.2.1 dX7_cell_4 rfl (lv_at hl 1 rfl) ?_
  refine c_VN_O (own := RX7) (As := [.int a1]) (rest := []) B hH (cy_X5_loopAt B.2.2.2.2.1) (ct_X5_loopAt B.2.2.2.2.2.2.2 l (a0 + 1) a1 h _ _ (kf_1_0 (k0)) hw) ⟨⟨rfl, rfl⟩, Nat.le_of_ble_eq_true rfl, Nat.le_of_ble_eq_true rfl, Nat.le_of_ble_eq_true rfl, Nat.le_of_ble_eq_true rfl⟩ (rv_2 B hH (kf_1_0 (k0))) (tw_717 B.2.2.2.2.1) rfl hl.1 rfl (Nat.le_of_ble_eq_true rfl) dX7_cell_5 ?_
  clear hw hH
  intro r2 h1 H locs hw hH
  have kr2 := hw.2
  replace hw := hw.1
  refine x_astore_n (lv' := [(3, va_re (zA Z) r2), (0, .ref (zA Z a0)), (1, .int a1), (2, .int a2)]) B dX7_cell_8 rfl hl (by decide) (by first | rfl | simp [va_re_cat]) ?_
  clear hl
  intro ls hl
  refine x_aload_n B dX7_cell_9 rfl (lv_at hl 0 rfl) ?_
  refine x_ifnull (tgt := 27) B dX7_cell_10 (by decide) (fun c4 => ?_) (fun j3 c4 => ?_)
  · replace hw := hw.1 c4
    subst c4
    exact r_thIOB B hH hB hT (is := 215) (text := "no such loop or cell") (tw_629 B.2.2.2.2.1) (tw_19 B.2.2.2.2.1) (by decide +kernel) hl.1 dX7_cell_27 dX7_cell_30 dX7_cell_31 dX7_cell_33 dX7_cell_36 (Nat.le_of_ble_eq_true rfl) (Nat.le_of_ble_eq_true rfl) (Nat.le_of_ble_eq_true rfl) (Nat.le_of_ble_eq_true rfl) hw (Nat.le_of_ble_eq_true rfl) (Nat.le_of_ble_eq_true rfl)
  · replace hw := hw.2 j3 c4
    have kj3 := kr2 j3 c4
    subst c4
    refine lv_iload_n B.1 B.2.1 dX7_cell_13 rfl (lv_at hl 3 rfl) ?_
    refine lv_iconst (v := 0) B.1 B.2.1 dX7_cell_14 (by decide) ?_
    refine lv_aload_n B.1 B.2.1 dX7_cell_15 rfl (lv_at hl 0 rfl) ?_
    refine r_getN B hH (own := RX7) (kd_n B (kj3) (by decide) (by decide)) (ct_4 (kj3)) rfl (ul_4 B.2.2.2.2.1) 2 (by decide) rfl (tw_68 B.2.2.2.2.1) dX7_cell_16 ?_
    refine lv_iconst (v := 1) B.1 B.2.1 dX7_cell_19 (by decide) ?_
    refine lv_isub B.1 B.2.1 dX7_cell_20 ?_
    refine c_S_I (own := RX7) (As := [.int a2, .int 0, .int ((h1 j3 2) - 1)]) (rest := []) B hH (cy_X7_outside B.2.2.2.2.1) (ct_X7_outside B.2.2.2.2.2.2.2 l a2 0 ((h1 j3 2) - 1) h1 _ _  hw) ⟨⟨rfl, rfl⟩, Nat.le_of_ble_eq_true rfl, Nat.le_of_ble_eq_true rfl, Nat.le_of_ble_eq_true rfl, Nat.le_of_ble_eq_true rfl⟩ (tw_361 B.2.2.2.2.1) rfl hl.1 rfl (Nat.le_of_ble_eq_true rfl) dX7_cell_21 ?_
    clear hw hH
    intro r6 h5 H locs hw hH
    refine lv_if_eq (tgt := 37) B.1 B.2.1 dX7_cell_24 (by decide) (fun c7 => ?_) (fun c7 => ?_)
    · replace hw := hw.1 c7
      refine lv_aload_n B.1 B.2.1 dX7_cell_37 rfl (lv_at hl 0 rfl) ?_
      refine r_getN B hH (own := RX7) (kd_n B (kj3) (by decide) (by decide)) (ct_4 (kj3)) rfl (ul_4 B.2.2.2.2.1) 0 (by decide) rfl (tw_64 B.2.2.2.2.1) dX7_cell_38 ?_
      refine lv_iload_n B.1 B.2.1 dX7_cell_41 rfl (lv_at hl 3 rfl) ?_
      refine c_S_I (own := RX7) (As := [.ref (zA Z (j3 + 1)), .int a2]) (rest := []) B hH (cy_X7_get B.2.2.2.2.1) (ct_X7_get B.2.2.2.2.2.2.2 l (j3 + 1) a2 h5 _ _ (kf_4_0 (kj3)) hw) ⟨⟨rfl, rfl⟩, Nat.le_of_ble_eq_true rfl, Nat.le_of_ble_eq_true rfl, Nat.le_of_ble_eq_true rfl, Nat.le_of_ble_eq_true rfl⟩ (tw_679 B.2.2.2.2.1) rfl hl.1 rfl (Nat.le_of_ble_eq_true rfl) dX7_cell_42 ?_
      clear hw hH
      intro r9 h8 H locs hw hH
      exact e_xi B hr hH hw dX7_cell_45 (Nat.le_of_ble_eq_true rfl) (Nat.le_of_ble_eq_true rfl)
    · replace hw := hw.2 c7
      exact r_thIOB B hH hB hT (is := 215) (text := "no such loop or cell") (tw_629 B.2.2.2.2.1) (tw_19 B.2.2.2.2.1) (by decide +kernel) hl.1 dX7_cell_27 dX7_cell_30 dX7_cell_31 dX7_cell_33 dX7_cell_36 (Nat.le_of_ble_eq_true rfl) (Nat.le_of_ble_eq_true rfl) (Nat.le_of_ble_eq_true rfl) (Nat.le_of_ble_eq_true rfl) hw (Nat.le_of_ble_eq_true rfl) (Nat.le_of_ble_eq_true rfl)
theorem cy_X7_throwFor {s : State} {args : Array Value} (hG : GG s) : CYS s args yX7_throwFor cX7_throwFor 1 none 1 := CYS.of hG (fun _ _ hG => tw_743 hG) (tw_1 hG) (tw_742 hG) (by decide +kernel)
set_option maxRecDepth 100000 in
set_option maxHeartbeats 4000000 in
theorem ct_X7_throwFor {Z : ZT} (hZ : ZO Z) (l : Launch) (hl9 : l.stackTraces = false) (a0 : Int32) (h : PH) (sz : Nat) (Q : PH → Prop) (X : String → PH → Prop)  (hw : wp_X7_throwFor a0 h Q X) : XV Z l yX7_throwFor cX7_throwFor 1 none ({ frames := 6, cells := 1, slots := 6, locals := 82 } : Room) h sz [.int a0] Q X := by
  refine open_X hZ hl9 (by decide +kernel) (by exact Nat.le_of_ble_eq_true rfl) ?_
  intro p e s m below meth c B hr hsz ls hl hH hB hT
  subst hsz
  have hl : lv_has ls 1 [(0, .int a0)] := hl
  unfold wp_X7_throwFor at hw
  refine lv_iload_n B.1 B.2.1 dX7_throwFor_0 rfl (lv_at hl 0 rfl) ?_
  refine lv_iconst (v := 1) B.1 B.2.1 dX7_throwFor_1 (by decide) ?_
  refine lv_icmp_ne (tgt := 15) B.1 B.2.1 dX7_throwFor_2 (by decide) (fun c1 => ?_) (fun c1 => ?_)
  · replace hw := hw.1 c1
    refine lv_iload_n B.1 B.2.1 dX7_throwFor_15 rfl (lv_at hl 0 rfl) ?_
    refine lv_iconst (v := 2) B.1 B.2.1 dX7_throwFor_16 (by decide) ?_
    refine lv_icmp_ne (tgt := 30) B.1 B.2.1 dX7_throwFor_17 (by decide) (fun c2 => ?_) (fun c2 => ?_)
    · replace hw := hw.1 c2
      refine lv_iload_n B.1 B.2.1 dX7_throwFor_30 rfl (lv_at hl 0 rfl) ?_
      refine lv_iconst (v := 3) B.1 B.2.1 dX7_throwFor_31 (by decide) ?_
      refine lv_icmp_ne (tgt := 45) B.1 B.2.1 dX7_throwFor_32 (by decide) (fun c3 => ?_) (fun c3 => ?_)
      · replace hw := hw.1 c3
        exact e_xv B hr hH hw dX7_throwFor_45 (Nat.le_of_ble_eq_true rfl) (Nat.le_of_ble_eq_true rfl)
      · replace hw := hw.2 c3
        exact r_thISE B hH hB hT (is := 248) (text := "not in this state") (tw_433 B.2.2.2.2.1) (tw_13 B.2.2.2.2.1) (by decide +kernel) hl.1 dX7_throwFor_35 dX7_throwFor_38 dX7_throwFor_39 dX7_throwFor_41 dX7_throwFor_44 (Nat.le_of_ble_eq_true rfl) (Nat.le_of_ble_eq_true rfl) (Nat.le_of_ble_eq_true rfl) (Nat.le_of_ble_eq_true rfl) hw (Nat.le_of_ble_eq_true rfl) (Nat.le_of_ble_eq_true rfl)
    · replace hw := hw.2 c2
      exact r_thIAE B hH hB hT (is := 246) (text := "an argument is out of its range") (tw_362 B.2.2.2.2.1) (tw_12 B.2.2.2.2.1) (by decide +kernel) hl.1 dX7_throwFor_20 dX7_throwFor_23 dX7_throwFor_24 dX7_throwFor_26 dX7_throwFor_29 (Nat.le_of_ble_eq_true rfl) (Nat.le_of_ble_eq_true rfl) (Nat.le_of_ble_eq_true rfl) (Nat.le_of_ble_eq_true rfl) hw (Nat.le_of_ble_eq_true rfl) (Nat.le_of_ble_eq_true rfl)
  · replace hw := hw.2 c1
    exact r_thIOB B hH hB hT (is := 244) (text := "no such reel, cell, place or loop") (tw_629 B.2.2.2.2.1) (tw_19 B.2.2.2.2.1) (by decide +kernel) hl.1 dX7_throwFor_5 dX7_throwFor_8 dX7_throwFor_9 dX7_throwFor_11 dX7_throwFor_14 (Nat.le_of_ble_eq_true rfl) (Nat.le_of_ble_eq_true rfl) (Nat.le_of_ble_eq_true rfl) (Nat.le_of_ble_eq_true rfl) hw (Nat.le_of_ble_eq_true rfl) (Nat.le_of_ble_eq_true rfl)
theorem cy_X7_act {s : State} {args : Array Value} (hG : GG s) : CYV s args yX7_act cX7_act 6 (some .int) 5 := CYV.of hG (fun _ _ hG => tw_739 hG) (tw_1 hG) (tw_738 hG) (tp_51 hG) (by decide +kernel)
set_option maxRecDepth 100000 in
set_option maxHeartbeats 4000000 in
theorem ct_X7_act {Z : ZT} (hZ : ZO Z) (l : Launch) (hl9 : l.stackTraces = false) (a0 : Nat) (a1 : Int32) (a2 : Int32) (a3 : Int32) (a4 : Int32) (a5 : Int32) (h : PH) (sz : Nat) (Q : Int32 → PH → Prop) (X : String → PH → Prop) (k0 : kd a0 = 1) (hw : wp_X7_act a0 a1 a2 a3 a4 a5 h Q X) : XI Z l yX7_act cX7_act 6 (some .int) ({ frames := 7, cells := 1, slots := 6, locals := 117 } : Room) h sz [.ref (zA Z a0), .int a1, .int a2, .int a3, .int a4, .int a5] Q X := by
  refine open_X hZ hl9 (by decide +kernel) (by exact Nat.le_of_ble_eq_true rfl) ?_
  intro p e s m below meth c B hr hsz ls hl hH hB hT
  subst hsz
  have hl : lv_has ls 6 [(0, .ref (zA Z a0)), (1, .int a1), (2, .int a2), (3, .int a3), (4, .int a4), (5, .int a5)] := hl
  unfold wp_X7_act at hw
  refine lv_aload_n B.1 B.2.1 dX7_act_0 rfl (lv_at hl 0 rfl) ?_
  refine r_get B hH (own := RX7) (kd_n B (k0) (by decide) (by decide)) (ct_1 (k0)) rfl (ul_1 B.2.2.2.2.1) 0 (by decide) rfl (tw_182 B.2.2.2.2.1) dX7_act_1 ?_
  refine lv_iload_n B.1 B.2.1 dX7_act_4 rfl (lv_at hl 1 rfl) ?_
  refine lv_iload_n B.1 B.2.1 dX7_act_5 rfl (lv_at hl 2 rfl) ?_
  refine lv_iload_n B.1 B.2.1 dX7_act_6 rfl (lv_at hl 3 rfl) ?_
  refine lv_iload B.1 B.2.1 dX7_act_7 (lv_at hl 4 rfl) ?_
  refine lv_iload B.1 B.2.1 dX7_act_9 (lv_at hl 5 rfl) ?_
  refine c_VN_I (own := RX7) (As := [.int a1, .int a2, .int a3, .int a4, .int a5]) (rest := []) B hH (cy_X5_whyNot B.2.2.2.2.1) (ct_X5_whyNot B.2.2.2.2.2.2.2 l (a0 + 1) a1 a2 a3 a4 a5 h _ _ (kf_1_0 (k0)) hw) ⟨⟨rfl, rfl⟩, Nat.le_of_ble_eq_true rfl, Nat.le_of_ble_eq_true rfl, Nat.le_of_ble_eq_true rfl, Nat.le_of_ble_eq_true rfl⟩ (rv_2 B hH (kf_1_0 (k0))) (tw_740 B.2.2.2.2.1) rfl hl.1 rfl (Nat.le_of_ble_eq_true rfl) dX7_act_11 ?_
  clear hw hH
  intro r2 h1 H locs hw hH
  refine x_S_V (own := RX7) (As := [.int r2]) (rest := []) B hH hB (cy_X7_throwFor B.2.2.2.2.1) (ct_X7_throwFor B.2.2.2.2.2.2.2 l hB.2.2.2 r2 h1 _ _ _  hw) ⟨⟨rfl, rfl⟩, Nat.le_of_ble_eq_true rfl, Nat.le_of_ble_eq_true rfl, Nat.le_of_ble_eq_true rfl, Nat.le_of_ble_eq_true rfl⟩ (tw_741 B.2.2.2.2.1) rfl hl.1 rfl (Nat.le_of_ble_eq_true rfl) dX7_act_14 (fun E h q ce H locs hw hH hce hcv hcl => ?_) ?_
  · exact x_out B hH hT hw hce hcv hcl (Nat.le_of_ble_eq_true rfl) (Nat.le_of_ble_eq_true rfl)
  clear hw hH
  intro h3 H locs hw hH
  refine lv_aload_n B.1 B.2.1 dX7_act_17 rfl (lv_at hl 0 rfl) ?_
  refine r_get B hH (own := RX7) (kd_n B (k0) (by decide) (by decide)) (ct_1 (k0)) rfl (ul_1 B.2.2.2.2.1) 2 (by decide) rfl (tw_184 B.2.2.2.2.1) dX7_act_18 ?_
  refine lv_aload_n B.1 B.2.1 dX7_act_21 rfl (lv_at hl 0 rfl) ?_
  refine r_get B hH (own := RX7) (kd_n B (k0) (by decide) (by decide)) (ct_1 (k0)) rfl (ul_1 B.2.2.2.2.1) 0 (by decide) rfl (tw_182 B.2.2.2.2.1) dX7_act_22 ?_
  refine c_VN_V (own := RX7) (As := [.ref (zA Z (a0 + 1))]) (rest := []) B hH (cy_X2_remember B.2.2.2.2.1) (ct_X2_remember B.2.2.2.2.2.2.2 l (a0 + 43) (a0 + 1) h3 _ _ (kf_1_2 (k0)) (kf_1_0 (k0)) hw) ⟨⟨rfl, rfl⟩, Nat.le_of_ble_eq_true rfl, Nat.le_of_ble_eq_true rfl, Nat.le_of_ble_eq_true rfl, Nat.le_of_ble_eq_true rfl⟩ (rv_6 B hH (kf_1_2 (k0))) (tw_747 B.2.2.2.2.1) rfl hl.1 rfl (Nat.le_of_ble_eq_true rfl) dX7_act_25 ?_
  clear hw hH
  intro h5 H locs hw hH
  refine lv_aload_n B.1 B.2.1 dX7_act_28 rfl (lv_at hl 0 rfl) ?_
  refine r_get B hH (own := RX7) (kd_n B (k0) (by decide) (by decide)) (ct_1 (k0)) rfl (ul_1 B.2.2.2.2.1) 0 (by decide) rfl (tw_182 B.2.2.2.2.1) dX7_act_29 ?_
  refine lv_iload_n B.1 B.2.1 dX7_act_32 rfl (lv_at hl 1 rfl) ?_
  refine lv_iload_n B.1 B.2.1 dX7_act_33 rfl (lv_at hl 2 rfl) ?_
  refine lv_iload_n B.1 B.2.1 dX7_act_34 rfl (lv_at hl 3 rfl) ?_
  refine lv_iload B.1 B.2.1 dX7_act_35 (lv_at hl 4 rfl) ?_
  refine lv_iload B.1 B.2.1 dX7_act_37 (lv_at hl 5 rfl) ?_
  refine c_VN_I (own := RX7) (As := [.int a1, .int a2, .int a3, .int a4, .int a5]) (rest := []) B hH (cy_X5_carryOut B.2.2.2.2.1) (ct_X5_carryOut B.2.2.2.2.2.2.2 l (a0 + 1) a1 a2 a3 a4 a5 h5 _ _ (kf_1_0 (k0)) hw) ⟨⟨rfl, rfl⟩, Nat.le_of_ble_eq_true rfl, Nat.le_of_ble_eq_true rfl, Nat.le_of_ble_eq_true rfl, Nat.le_of_ble_eq_true rfl⟩ (rv_2 B hH (kf_1_0 (k0))) (tw_778 B.2.2.2.2.1) rfl hl.1 rfl (Nat.le_of_ble_eq_true rfl) dX7_act_39 ?_
  clear hw hH
  intro r7 h6 H locs hw hH
  exact e_xi B hr hH hw dX7_act_42 (Nat.le_of_ble_eq_true rfl) (Nat.le_of_ble_eq_true rfl)
theorem cy_X7_reel {s : State} {args : Array Value} (hG : GG s) : CYV s args yX7_reel cX7_reel 2 (some .int) 1 := CYV.of hG (fun _ _ hG => tw_735 hG) (tw_1 hG) (tw_733 hG) (tw_734 hG) (by decide +kernel)
set_option maxRecDepth 100000 in
set_option maxHeartbeats 4000000 in
theorem ct_X7_reel {Z : ZT} (hZ : ZO Z) (l : Launch) (hl9 : l.stackTraces = false) (a0 : Nat) (a1 : Int32) (h : PH) (sz : Nat) (Q : Int32 → PH → Prop) (X : String → PH → Prop) (k0 : kd a0 = 1) (hw : wp_X7_reel a0 a1 h Q X) : XI Z l yX7_reel cX7_reel 2 (some .int) ({ frames := 8, cells := 1, slots := 6, locals := 142 } : Room) h sz [.ref (zA Z a0), .int a1] Q X := by
  refine open_X hZ hl9 (by decide +kernel) (by exact Nat.le_of_ble_eq_true rfl) ?_
  intro p e s m below meth c B hr hsz ls hl hH hB hT
  subst hsz
  have hl : lv_has ls 2 [(0, .ref (zA Z a0)), (1, .int a1)] := hl
  unfold wp_X7_reel at hw
  refine lv_aload_n B.1 B.2.1 dX7_reel_0 rfl (lv_at hl 0 rfl) ?_
  refine lv_bipush (v := 114) B.1 B.2.1 dX7_reel_1 (by decide) ?_
  refine lv_iload_n B.1 B.2.1 dX7_reel_3 rfl (lv_at hl 1 rfl) ?_
  refine lv_iconst (v := 0) B.1 B.2.1 dX7_reel_4 (by decide) ?_
  refine lv_iconst (v := 0) B.1 B.2.1 dX7_reel_5 (by decide) ?_
  refine lv_iconst (v := 0) B.1 B.2.1 dX7_reel_6 (by decide) ?_
  refine x_V_I (own := RX7) (As := [.int 114, .int a1, .int 0, .int 0, .int 0]) (rest := []) B hH hB (cy_X7_act B.2.2.2.2.1) (ct_X7_act B.2.2.2.2.2.2.2 l hB.2.2.2 a0 114 a1 0 0 0 h _ _ _ (k0) hw) ⟨⟨rfl, rfl⟩, Nat.le_of_ble_eq_true rfl, Nat.le_of_ble_eq_true rfl, Nat.le_of_ble_eq_true rfl, Nat.le_of_ble_eq_true rfl⟩ (rv_1 B hH (k0)) (tw_736 B.2.2.2.2.1) rfl hl.1 rfl (Nat.le_of_ble_eq_true rfl) dX7_reel_7 (fun E h q ce H locs hw hH hce hcv hcl => ?_) ?_
  · exact x_out B hH hT hw hce hcv hcl (Nat.le_of_ble_eq_true rfl) (Nat.le_of_ble_eq_true rfl)
  clear hw hH
  intro r2 h1 H locs hw hH
  exact e_xi B hr hH hw dX7_reel_10 (Nat.le_of_ble_eq_true rfl) (Nat.le_of_ble_eq_true rfl)
theorem cy_X7_paint {s : State} {args : Array Value} (hG : GG s) : CYV s args yX7_paint cX7_paint 5 (some .int) 4 := CYV.of hG (fun _ _ hG => tw_785 hG) (tw_1 hG) (tw_783 hG) (tw_784 hG) (by decide +kernel)
set_option maxRecDepth 100000 in
set_option maxHeartbeats 4000000 in
theorem ct_X7_paint {Z : ZT} (hZ : ZO Z) (l : Launch) (hl9 : l.stackTraces = false) (a0 : Nat) (a1 : Int32) (a2 : Int32) (a3 : Int32) (a4 : Int32) (h : PH) (sz : Nat) (Q : Int32 → PH → Prop) (X : String → PH → Prop) (k0 : kd a0 = 1) (hw : wp_X7_paint a0 a1 a2 a3 a4 h Q X) : XI Z l yX7_paint cX7_paint 5 (some .int) ({ frames := 8, cells := 1, slots := 6, locals := 142 } : Room) h sz [.ref (zA Z a0), .int a1, .int a2, .int a3, .int a4] Q X := by
  refine open_X hZ hl9 (by decide +kernel) (by exact Nat.le_of_ble_eq_true rfl) ?_
  intro p e s m below meth c B hr hsz ls hl hH hB hT
  subst hsz
  have hl : lv_has ls 5 [(0, .ref (zA Z a0)), (1, .int a1), (2, .int a2), (3, .int a3), (4, .int a4)] := hl
  unfold wp_X7_paint at hw
  refine lv_aload_n B.1 B.2.1 dX7_paint_0 rfl (lv_at hl 0 rfl) ?_
  refine lv_bipush (v := 112) B.1 B.2.1 dX7_paint_1 (by decide) ?_
  refine lv_iload_n B.1 B.2.1 dX7_paint_3 rfl (lv_at hl 1 rfl) ?_
  refine lv_iload_n B.1 B.2.1 dX7_paint_4 rfl (lv_at hl 2 rfl) ?_
  refine lv_iload_n B.1 B.2.1 dX7_paint_5 rfl (lv_at hl 3 rfl) ?_
  refine lv_iload B.1 B.2.1 dX7_paint_6 (lv_at hl 4 rfl) ?_
  refine x_V_I (own := RX7) (As := [.int 112, .int a1, .int a2, .int a3, .int a4]) (rest := []) B hH hB (cy_X7_act B.2.2.2.2.1) (ct_X7_act B.2.2.2.2.2.2.2 l hB.2.2.2 a0 112 a1 a2 a3 a4 h _ _ _ (k0) hw) ⟨⟨rfl, rfl⟩, Nat.le_of_ble_eq_true rfl, Nat.le_of_ble_eq_true rfl, Nat.le_of_ble_eq_true rfl, Nat.le_of_ble_eq_true rfl⟩ (rv_1 B hH (k0)) (tw_736 B.2.2.2.2.1) rfl hl.1 rfl (Nat.le_of_ble_eq_true rfl) dX7_paint_8 (fun E h q ce H locs hw hH hce hcv hcl => ?_) ?_
  · exact x_out B hH hT hw hce hcv hcl (Nat.le_of_ble_eq_true rfl) (Nat.le_of_ble_eq_true rfl)
  clear hw hH
  intro r2 h1 H locs hw hH
  exact e_xi B hr hH hw dX7_paint_11 (Nat.le_of_ble_eq_true rfl) (Nat.le_of_ble_eq_true rfl)
theorem cy_X7_loop {s : State} {args : Array Value} (hG : GG s) : CYV s args yX7_loop cX7_loop 1 (some .int) 0 := CYV.of hG (fun _ _ hG => tw_792 hG) (tw_1 hG) (tw_790 hG) (tw_791 hG) (by decide +kernel)
set_option maxRecDepth 100000 in
set_option maxHeartbeats 4000000 in
theorem ct_X7_loop {Z : ZT} (hZ : ZO Z) (l : Launch) (hl9 : l.stackTraces = false) (a0 : Nat) (h : PH) (sz : Nat) (Q : Int32 → PH → Prop) (X : String → PH → Prop) (k0 : kd a0 = 1) (hw : wp_X7_loop a0 h Q X) : XI Z l yX7_loop cX7_loop 1 (some .int) ({ frames := 8, cells := 1, slots := 6, locals := 142 } : Room) h sz [.ref (zA Z a0)] Q X := by
  refine open_X hZ hl9 (by decide +kernel) (by exact Nat.le_of_ble_eq_true rfl) ?_
  intro p e s m below meth c B hr hsz ls hl hH hB hT
  subst hsz
  have hl : lv_has ls 1 [(0, .ref (zA Z a0))] := hl
  unfold wp_X7_loop at hw
  refine lv_aload_n B.1 B.2.1 dX7_loop_0 rfl (lv_at hl 0 rfl) ?_
  refine lv_bipush (v := 108) B.1 B.2.1 dX7_loop_1 (by decide) ?_
  refine lv_iconst (v := 0) B.1 B.2.1 dX7_loop_3 (by decide) ?_
  refine lv_iconst (v := 0) B.1 B.2.1 dX7_loop_4 (by decide) ?_
  refine lv_iconst (v := 0) B.1 B.2.1 dX7_loop_5 (by decide) ?_
  refine lv_iconst (v := 0) B.1 B.2.1 dX7_loop_6 (by decide) ?_
  refine x_V_I (own := RX7) (As := [.int 108, .int 0, .int 0, .int 0, .int 0]) (rest := []) B hH hB (cy_X7_act B.2.2.2.2.1) (ct_X7_act B.2.2.2.2.2.2.2 l hB.2.2.2 a0 108 0 0 0 0 h _ _ _ (k0) hw) ⟨⟨rfl, rfl⟩, Nat.le_of_ble_eq_true rfl, Nat.le_of_ble_eq_true rfl, Nat.le_of_ble_eq_true rfl, Nat.le_of_ble_eq_true rfl⟩ (rv_1 B hH (k0)) (tw_736 B.2.2.2.2.1) rfl hl.1 rfl (Nat.le_of_ble_eq_true rfl) dX7_loop_7 (fun E h q ce H locs hw hH hce hcv hcl => ?_) ?_
  · exact x_out B hH hT hw hce hcv hcl (Nat.le_of_ble_eq_true rfl) (Nat.le_of_ble_eq_true rfl)
  clear hw hH
  intro r2 h1 H locs hw hH
  exact e_xi B hr hH hw dX7_loop_10 (Nat.le_of_ble_eq_true rfl) (Nat.le_of_ble_eq_true rfl)
theorem cy_X7_splice {s : State} {args : Array Value} (hG : GG s) : CYV s args yX7_splice cX7_splice 5 (some .int) 4 := CYV.of hG (fun _ _ hG => tw_799 hG) (tw_1 hG) (tw_797 hG) (tw_798 hG) (by decide +kernel)
set_option maxRecDepth 100000 in
set_option maxHeartbeats 4000000 in
theorem ct_X7_splice {Z : ZT} (hZ : ZO Z) (l : Launch) (hl9 : l.stackTraces = false) (a0 : Nat) (a1 : Int32) (a2 : Int32) (a3 : Int32) (a4 : Int32) (h : PH) (sz : Nat) (Q : Int32 → PH → Prop) (X : String → PH → Prop) (k0 : kd a0 = 1) (hw : wp_X7_splice a0 a1 a2 a3 a4 h Q X) : XI Z l yX7_splice cX7_splice 5 (some .int) ({ frames := 8, cells := 1, slots := 6, locals := 142 } : Room) h sz [.ref (zA Z a0), .int a1, .int a2, .int a3, .int a4] Q X := by
  refine open_X hZ hl9 (by decide +kernel) (by exact Nat.le_of_ble_eq_true rfl) ?_
  intro p e s m below meth c B hr hsz ls hl hH hB hT
  subst hsz
  have hl : lv_has ls 5 [(0, .ref (zA Z a0)), (1, .int a1), (2, .int a2), (3, .int a3), (4, .int a4)] := hl
  unfold wp_X7_splice at hw
  refine lv_aload_n B.1 B.2.1 dX7_splice_0 rfl (lv_at hl 0 rfl) ?_
  refine lv_bipush (v := 99) B.1 B.2.1 dX7_splice_1 (by decide) ?_
  refine lv_iload_n B.1 B.2.1 dX7_splice_3 rfl (lv_at hl 1 rfl) ?_
  refine lv_iload_n B.1 B.2.1 dX7_splice_4 rfl (lv_at hl 2 rfl) ?_
  refine lv_iload_n B.1 B.2.1 dX7_splice_5 rfl (lv_at hl 3 rfl) ?_
  refine lv_iload B.1 B.2.1 dX7_splice_6 (lv_at hl 4 rfl) ?_
  refine x_V_I (own := RX7) (As := [.int 99, .int a1, .int a2, .int a3, .int a4]) (rest := []) B hH hB (cy_X7_act B.2.2.2.2.1) (ct_X7_act B.2.2.2.2.2.2.2 l hB.2.2.2 a0 99 a1 a2 a3 a4 h _ _ _ (k0) hw) ⟨⟨rfl, rfl⟩, Nat.le_of_ble_eq_true rfl, Nat.le_of_ble_eq_true rfl, Nat.le_of_ble_eq_true rfl, Nat.le_of_ble_eq_true rfl⟩ (rv_1 B hH (k0)) (tw_736 B.2.2.2.2.1) rfl hl.1 rfl (Nat.le_of_ble_eq_true rfl) dX7_splice_8 (fun E h q ce H locs hw hH hce hcv hcl => ?_) ?_
  · exact x_out B hH hT hw hce hcv hcl (Nat.le_of_ble_eq_true rfl) (Nat.le_of_ble_eq_true rfl)
  clear hw hH
  intro r2 h1 H locs hw hH
  exact e_xi B hr hH hw dX7_splice_11 (Nat.le_of_ble_eq_true rfl) (Nat.le_of_ble_eq_true rfl)
theorem cy_X7_unsplice {s : State} {args : Array Value} (hG : GG s) : CYV s args yX7_unsplice cX7_unsplice 2 (some .int) 1 := CYV.of hG (fun _ _ hG => tw_806 hG) (tw_1 hG) (tw_804 hG) (tw_805 hG) (by decide +kernel)
set_option maxRecDepth 100000 in
set_option maxHeartbeats 4000000 in
theorem ct_X7_unsplice {Z : ZT} (hZ : ZO Z) (l : Launch) (hl9 : l.stackTraces = false) (a0 : Nat) (a1 : Int32) (h : PH) (sz : Nat) (Q : Int32 → PH → Prop) (X : String → PH → Prop) (k0 : kd a0 = 1) (hw : wp_X7_unsplice a0 a1 h Q X) : XI Z l yX7_unsplice cX7_unsplice 2 (some .int) ({ frames := 8, cells := 1, slots := 6, locals := 142 } : Room) h sz [.ref (zA Z a0), .int a1] Q X := by
  refine open_X hZ hl9 (by decide +kernel) (by exact Nat.le_of_ble_eq_true rfl) ?_
  intro p e s m below meth c B hr hsz ls hl hH hB hT
  subst hsz
  have hl : lv_has ls 2 [(0, .ref (zA Z a0)), (1, .int a1)] := hl
  unfold wp_X7_unsplice at hw
  refine lv_aload_n B.1 B.2.1 dX7_unsplice_0 rfl (lv_at hl 0 rfl) ?_
  refine lv_bipush (v := 117) B.1 B.2.1 dX7_unsplice_1 (by decide) ?_
  refine lv_iload_n B.1 B.2.1 dX7_unsplice_3 rfl (lv_at hl 1 rfl) ?_
  refine lv_iconst (v := 0) B.1 B.2.1 dX7_unsplice_4 (by decide) ?_
  refine lv_iconst (v := 0) B.1 B.2.1 dX7_unsplice_5 (by decide) ?_
  refine lv_iconst (v := 0) B.1 B.2.1 dX7_unsplice_6 (by decide) ?_
  refine x_V_I (own := RX7) (As := [.int 117, .int a1, .int 0, .int 0, .int 0]) (rest := []) B hH hB (cy_X7_act B.2.2.2.2.1) (ct_X7_act B.2.2.2.2.2.2.2 l hB.2.2.2 a0 117 a1 0 0 0 h _ _ _ (k0) hw) ⟨⟨rfl, rfl⟩, Nat.le_of_ble_eq_true rfl, Nat.le_of_ble_eq_true rfl, Nat.le_of_ble_eq_true rfl, Nat.le_of_ble_eq_true rfl⟩ (rv_1 B hH (k0)) (tw_736 B.2.2.2.2.1) rfl hl.1 rfl (Nat.le_of_ble_eq_true rfl) dX7_unsplice_7 (fun E h q ce H locs hw hH hce hcv hcl => ?_) ?_
  · exact x_out B hH hT hw hce hcv hcl (Nat.le_of_ble_eq_true rfl) (Nat.le_of_ble_eq_true rfl)
  clear hw hH
  intro r2 h1 H locs hw hH
  exact e_xi B hr hH hw dX7_unsplice_10 (Nat.le_of_ble_eq_true rfl) (Nat.le_of_ble_eq_true rfl)
theorem cy_X7_speed {s : State} {args : Array Value} (hG : GG s) : CYV s args yX7_speed cX7_speed 4 (some .int) 3 := CYV.of hG (fun _ _ hG => tw_813 hG) (tw_1 hG) (tw_811 hG) (tw_812 hG) (by decide +kernel)
set_option maxRecDepth 100000 in
set_option maxHeartbeats 4000000 in
theorem ct_X7_speed {Z : ZT} (hZ : ZO Z) (l : Launch) (hl9 : l.stackTraces = false) (a0 : Nat) (a1 : Int32) (a2 : Int32) (a3 : Int32) (h : PH) (sz : Nat) (Q : Int32 → PH → Prop) (X : String → PH → Prop) (k0 : kd a0 = 1) (hw : wp_X7_speed a0 a1 a2 a3 h Q X) : XI Z l yX7_speed cX7_speed 4 (some .int) ({ frames := 8, cells := 1, slots := 6, locals := 142 } : Room) h sz [.ref (zA Z a0), .int a1, .int a2, .int a3] Q X := by
  refine open_X hZ hl9 (by decide +kernel) (by exact Nat.le_of_ble_eq_true rfl) ?_
  intro p e s m below meth c B hr hsz ls hl hH hB hT
  subst hsz
  have hl : lv_has ls 4 [(0, .ref (zA Z a0)), (1, .int a1), (2, .int a2), (3, .int a3)] := hl
  unfold wp_X7_speed at hw
  refine lv_aload_n B.1 B.2.1 dX7_speed_0 rfl (lv_at hl 0 rfl) ?_
  refine lv_bipush (v := 118) B.1 B.2.1 dX7_speed_1 (by decide) ?_
  refine lv_iload_n B.1 B.2.1 dX7_speed_3 rfl (lv_at hl 1 rfl) ?_
  refine lv_iload_n B.1 B.2.1 dX7_speed_4 rfl (lv_at hl 2 rfl) ?_
  refine lv_iload_n B.1 B.2.1 dX7_speed_5 rfl (lv_at hl 3 rfl) ?_
  refine lv_iconst (v := 0) B.1 B.2.1 dX7_speed_6 (by decide) ?_
  refine x_V_I (own := RX7) (As := [.int 118, .int a1, .int a2, .int a3, .int 0]) (rest := []) B hH hB (cy_X7_act B.2.2.2.2.1) (ct_X7_act B.2.2.2.2.2.2.2 l hB.2.2.2 a0 118 a1 a2 a3 0 h _ _ _ (k0) hw) ⟨⟨rfl, rfl⟩, Nat.le_of_ble_eq_true rfl, Nat.le_of_ble_eq_true rfl, Nat.le_of_ble_eq_true rfl, Nat.le_of_ble_eq_true rfl⟩ (rv_1 B hH (k0)) (tw_736 B.2.2.2.2.1) rfl hl.1 rfl (Nat.le_of_ble_eq_true rfl) dX7_speed_7 (fun E h q ce H locs hw hH hce hcv hcl => ?_) ?_
  · exact x_out B hH hT hw hce hcv hcl (Nat.le_of_ble_eq_true rfl) (Nat.le_of_ble_eq_true rfl)
  clear hw hH
  intro r2 h1 H locs hw hH
  exact e_xi B hr hH hw dX7_speed_10 (Nat.le_of_ble_eq_true rfl) (Nat.le_of_ble_eq_true rfl)
theorem cy_X7_mute {s : State} {args : Array Value} (hG : GG s) : CYV s args yX7_mute cX7_mute 3 (some .int) 2 := CYV.of hG (fun _ _ hG => tw_820 hG) (tw_1 hG) (tw_818 hG) (tw_819 hG) (by decide +kernel)
set_option maxRecDepth 100000 in
set_option maxHeartbeats 4000000 in
theorem ct_X7_mute {Z : ZT} (hZ : ZO Z) (l : Launch) (hl9 : l.stackTraces = false) (a0 : Nat) (a1 : Int32) (a2 : Int32) (h : PH) (sz : Nat) (Q : Int32 → PH → Prop) (X : String → PH → Prop) (k0 : kd a0 = 1) (hw : wp_X7_mute a0 a1 a2 h Q X) : XI Z l yX7_mute cX7_mute 3 (some .int) ({ frames := 8, cells := 1, slots := 6, locals := 142 } : Room) h sz [.ref (zA Z a0), .int a1, .int a2] Q X := by
  refine open_X hZ hl9 (by decide +kernel) (by exact Nat.le_of_ble_eq_true rfl) ?_
  intro p e s m below meth c B hr hsz ls hl hH hB hT
  subst hsz
  have hl : lv_has ls 3 [(0, .ref (zA Z a0)), (1, .int a1), (2, .int a2)] := hl
  unfold wp_X7_mute at hw
  refine lv_aload_n B.1 B.2.1 dX7_mute_0 rfl (lv_at hl 0 rfl) ?_
  refine lv_bipush (v := 109) B.1 B.2.1 dX7_mute_1 (by decide) ?_
  refine lv_iload_n B.1 B.2.1 dX7_mute_3 rfl (lv_at hl 1 rfl) ?_
  refine lv_iload_n B.1 B.2.1 dX7_mute_4 rfl (lv_at hl 2 rfl) ?_
  refine lv_if_eq (tgt := 12) B.1 B.2.1 dX7_mute_5 (by decide) (fun c1 => ?_) (fun c1 => ?_)
  · replace hw := hw.1 c1
    refine lv_iconst (v := 0) B.1 B.2.1 dX7_mute_12 (by decide) ?_
    refine lv_iconst (v := 0) B.1 B.2.1 dX7_mute_13 (by decide) ?_
    refine lv_iconst (v := 0) B.1 B.2.1 dX7_mute_14 (by decide) ?_
    refine x_V_I (own := RX7) (As := [.int 109, .int a1, .int 0, .int 0, .int 0]) (rest := []) B hH hB (cy_X7_act B.2.2.2.2.1) (ct_X7_act B.2.2.2.2.2.2.2 l hB.2.2.2 a0 109 a1 0 0 0 h _ _ _ (k0) hw) ⟨⟨rfl, rfl⟩, Nat.le_of_ble_eq_true rfl, Nat.le_of_ble_eq_true rfl, Nat.le_of_ble_eq_true rfl, Nat.le_of_ble_eq_true rfl⟩ (rv_1 B hH (k0)) (tw_736 B.2.2.2.2.1) rfl hl.1 rfl (Nat.le_of_ble_eq_true rfl) dX7_mute_15 (fun E h q ce H locs hw hH hce hcv hcl => ?_) ?_
    · exact x_out B hH hT hw hce hcv hcl (Nat.le_of_ble_eq_true rfl) (Nat.le_of_ble_eq_true rfl)
    clear hw hH
    intro r3 h2 H locs hw hH
    exact e_xi B hr hH hw dX7_mute_18 (Nat.le_of_ble_eq_true rfl) (Nat.le_of_ble_eq_true rfl)
  · replace hw := hw.2 c1
    refine lv_iconst (v := 1) B.1 B.2.1 dX7_mute_8 (by decide) ?_
    refine lv_goto (tgt := 13) B.1 B.2.1 dX7_mute_9 (by decide) ?_
    refine lv_iconst (v := 0) B.1 B.2.1 dX7_mute_13 (by decide) ?_
    refine lv_iconst (v := 0) B.1 B.2.1 dX7_mute_14 (by decide) ?_
    refine x_V_I (own := RX7) (As := [.int 109, .int a1, .int 1, .int 0, .int 0]) (rest := []) B hH hB (cy_X7_act B.2.2.2.2.1) (ct_X7_act B.2.2.2.2.2.2.2 l hB.2.2.2 a0 109 a1 1 0 0 h _ _ _ (k0) hw) ⟨⟨rfl, rfl⟩, Nat.le_of_ble_eq_true rfl, Nat.le_of_ble_eq_true rfl, Nat.le_of_ble_eq_true rfl, Nat.le_of_ble_eq_true rfl⟩ (rv_1 B hH (k0)) (tw_736 B.2.2.2.2.1) rfl hl.1 rfl (Nat.le_of_ble_eq_true rfl) dX7_mute_15 (fun E h q ce H locs hw hH hce hcv hcl => ?_) ?_
    · exact x_out B hH hT hw hce hcv hcl (Nat.le_of_ble_eq_true rfl) (Nat.le_of_ble_eq_true rfl)
    clear hw hH
    intro r5 h4 H locs hw hH
    exact e_xi B hr hH hw dX7_mute_18 (Nat.le_of_ble_eq_true rfl) (Nat.le_of_ble_eq_true rfl)
theorem cy_X7_ticks {s : State} {args : Array Value} (hG : GG s) : CYV s args yX7_ticks cX7_ticks 2 (some .int) 1 := CYV.of hG (fun _ _ hG => tw_827 hG) (tw_1 hG) (tw_825 hG) (tw_826 hG) (by decide +kernel)
set_option maxRecDepth 100000 in
set_option maxHeartbeats 4000000 in
theorem ct_X7_ticks {Z : ZT} (hZ : ZO Z) (l : Launch) (hl9 : l.stackTraces = false) (a0 : Nat) (a1 : Int32) (h : PH) (sz : Nat) (Q : Int32 → PH → Prop) (X : String → PH → Prop) (k0 : kd a0 = 1) (hw : wp_X7_ticks a0 a1 h Q X) : XI Z l yX7_ticks cX7_ticks 2 (some .int) ({ frames := 8, cells := 1, slots := 6, locals := 142 } : Room) h sz [.ref (zA Z a0), .int a1] Q X := by
  refine open_X hZ hl9 (by decide +kernel) (by exact Nat.le_of_ble_eq_true rfl) ?_
  intro p e s m below meth c B hr hsz ls hl hH hB hT
  subst hsz
  have hl : lv_has ls 2 [(0, .ref (zA Z a0)), (1, .int a1)] := hl
  unfold wp_X7_ticks at hw
  refine lv_aload_n B.1 B.2.1 dX7_ticks_0 rfl (lv_at hl 0 rfl) ?_
  refine lv_bipush (v := 116) B.1 B.2.1 dX7_ticks_1 (by decide) ?_
  refine lv_iload_n B.1 B.2.1 dX7_ticks_3 rfl (lv_at hl 1 rfl) ?_
  refine lv_iconst (v := 0) B.1 B.2.1 dX7_ticks_4 (by decide) ?_
  refine lv_iconst (v := 0) B.1 B.2.1 dX7_ticks_5 (by decide) ?_
  refine lv_iconst (v := 0) B.1 B.2.1 dX7_ticks_6 (by decide) ?_
  refine x_V_I (own := RX7) (As := [.int 116, .int a1, .int 0, .int 0, .int 0]) (rest := []) B hH hB (cy_X7_act B.2.2.2.2.1) (ct_X7_act B.2.2.2.2.2.2.2 l hB.2.2.2 a0 116 a1 0 0 0 h _ _ _ (k0) hw) ⟨⟨rfl, rfl⟩, Nat.le_of_ble_eq_true rfl, Nat.le_of_ble_eq_true rfl, Nat.le_of_ble_eq_true rfl, Nat.le_of_ble_eq_true rfl⟩ (rv_1 B hH (k0)) (tw_736 B.2.2.2.2.1) rfl hl.1 rfl (Nat.le_of_ble_eq_true rfl) dX7_ticks_7 (fun E h q ce H locs hw hH hce hcv hcl => ?_) ?_
  · exact x_out B hH hT hw hce hcv hcl (Nat.le_of_ble_eq_true rfl) (Nat.le_of_ble_eq_true rfl)
  clear hw hH
  intro r2 h1 H locs hw hH
  exact e_xi B hr hH hw dX7_ticks_10 (Nat.le_of_ble_eq_true rfl) (Nat.le_of_ble_eq_true rfl)
theorem cy_X7_record {s : State} {args : Array Value} (hG : GG s) : CYV s args yX7_record cX7_record 3 (some .int) 2 := CYV.of hG (fun _ _ hG => tw_834 hG) (tw_1 hG) (tw_832 hG) (tw_833 hG) (by decide +kernel)
set_option maxRecDepth 100000 in
set_option maxHeartbeats 4000000 in
theorem ct_X7_record {Z : ZT} (hZ : ZO Z) (l : Launch) (hl9 : l.stackTraces = false) (a0 : Nat) (a1 : Int32) (a2 : Int32) (h : PH) (sz : Nat) (Q : Int32 → PH → Prop) (X : String → PH → Prop) (k0 : kd a0 = 1) (hw : wp_X7_record a0 a1 a2 h Q X) : XI Z l yX7_record cX7_record 3 (some .int) ({ frames := 8, cells := 1, slots := 6, locals := 142 } : Room) h sz [.ref (zA Z a0), .int a1, .int a2] Q X := by
  refine open_X hZ hl9 (by decide +kernel) (by exact Nat.le_of_ble_eq_true rfl) ?_
  intro p e s m below meth c B hr hsz ls hl hH hB hT
  subst hsz
  have hl : lv_has ls 3 [(0, .ref (zA Z a0)), (1, .int a1), (2, .int a2)] := hl
  unfold wp_X7_record at hw
  refine lv_aload_n B.1 B.2.1 dX7_record_0 rfl (lv_at hl 0 rfl) ?_
  refine lv_bipush (v := 119) B.1 B.2.1 dX7_record_1 (by decide) ?_
  refine lv_iload_n B.1 B.2.1 dX7_record_3 rfl (lv_at hl 1 rfl) ?_
  refine lv_iload_n B.1 B.2.1 dX7_record_4 rfl (lv_at hl 2 rfl) ?_
  refine lv_iconst (v := 0) B.1 B.2.1 dX7_record_5 (by decide) ?_
  refine lv_iconst (v := 0) B.1 B.2.1 dX7_record_6 (by decide) ?_
  refine x_V_I (own := RX7) (As := [.int 119, .int a1, .int a2, .int 0, .int 0]) (rest := []) B hH hB (cy_X7_act B.2.2.2.2.1) (ct_X7_act B.2.2.2.2.2.2.2 l hB.2.2.2 a0 119 a1 a2 0 0 h _ _ _ (k0) hw) ⟨⟨rfl, rfl⟩, Nat.le_of_ble_eq_true rfl, Nat.le_of_ble_eq_true rfl, Nat.le_of_ble_eq_true rfl, Nat.le_of_ble_eq_true rfl⟩ (rv_1 B hH (k0)) (tw_736 B.2.2.2.2.1) rfl hl.1 rfl (Nat.le_of_ble_eq_true rfl) dX7_record_7 (fun E h q ce H locs hw hH hce hcv hcl => ?_) ?_
  · exact x_out B hH hT hw hce hcv hcl (Nat.le_of_ble_eq_true rfl) (Nat.le_of_ble_eq_true rfl)
  clear hw hH
  intro r2 h1 H locs hw hH
  exact e_xi B hr hH hw dX7_record_10 (Nat.le_of_ble_eq_true rfl) (Nat.le_of_ble_eq_true rfl)
theorem cy_X7_undo {s : State} {args : Array Value} (hG : GG s) : CYV s args yX7_undo cX7_undo 1 (some .int) 0 := CYV.of hG (fun _ _ hG => tw_841 hG) (tw_1 hG) (tw_839 hG) (tw_840 hG) (by decide +kernel)
set_option maxRecDepth 100000 in
set_option maxHeartbeats 4000000 in
theorem ct_X7_undo {Z : ZT} (hZ : ZO Z) (l : Launch) (hl9 : l.stackTraces = false) (a0 : Nat) (h : PH) (sz : Nat) (Q : Int32 → PH → Prop) (X : String → PH → Prop) (k0 : kd a0 = 1) (hw : wp_X7_undo a0 h Q X) : XI Z l yX7_undo cX7_undo 1 (some .int) ({ frames := 6, cells := 1, slots := 6, locals := 116 } : Room) h sz [.ref (zA Z a0)] Q X := by
  refine open_X hZ hl9 (by decide +kernel) (by exact Nat.le_of_ble_eq_true rfl) ?_
  intro p e s m below meth c B hr hsz ls hl hH hB hT
  subst hsz
  have hl : lv_has ls 1 [(0, .ref (zA Z a0))] := hl
  unfold wp_X7_undo at hw
  refine lv_aload_n B.1 B.2.1 dX7_undo_0 rfl (lv_at hl 0 rfl) ?_
  refine r_get B hH (own := RX7) (kd_n B (k0) (by decide) (by decide)) (ct_1 (k0)) rfl (ul_1 B.2.2.2.2.1) 2 (by decide) rfl (tw_184 B.2.2.2.2.1) dX7_undo_1 ?_
  refine r_getN B hH (own := RX7) (kd_n B (kf_1_2 (k0)) (by decide) (by decide)) (ct_6 (kf_1_2 (k0))) rfl (ul_6 B.2.2.2.2.1) 2 (by decide) rfl (tw_135 B.2.2.2.2.1) dX7_undo_4 ?_
  refine lv_if_ne (tgt := 20) B.1 B.2.1 dX7_undo_7 (by decide) (fun c1 => ?_) (fun c1 => ?_)
  · replace hw := hw.1 c1
    refine lv_aload_n B.1 B.2.1 dX7_undo_20 rfl (lv_at hl 0 rfl) ?_
    refine r_get B hH (own := RX7) (kd_n B (k0) (by decide) (by decide)) (ct_1 (k0)) rfl (ul_1 B.2.2.2.2.1) 2 (by decide) rfl (tw_184 B.2.2.2.2.1) dX7_undo_21 ?_
    refine lv_aload_n B.1 B.2.1 dX7_undo_24 rfl (lv_at hl 0 rfl) ?_
    refine r_get B hH (own := RX7) (kd_n B (k0) (by decide) (by decide)) (ct_1 (k0)) rfl (ul_1 B.2.2.2.2.1) 0 (by decide) rfl (tw_182 B.2.2.2.2.1) dX7_undo_25 ?_
    refine c_VN_I (own := RX7) (As := [.ref (zA Z (a0 + 1))]) (rest := []) B hH (cy_X2_takeBack B.2.2.2.2.1) (ct_X2_takeBack B.2.2.2.2.2.2.2 l (a0 + 43) (a0 + 1) h _ _ (kf_1_2 (k0)) (kf_1_0 (k0)) hw) ⟨⟨rfl, rfl⟩, Nat.le_of_ble_eq_true rfl, Nat.le_of_ble_eq_true rfl, Nat.le_of_ble_eq_true rfl, Nat.le_of_ble_eq_true rfl⟩ (rv_6 B hH (kf_1_2 (k0))) (tw_843 B.2.2.2.2.1) rfl hl.1 rfl (Nat.le_of_ble_eq_true rfl) dX7_undo_28 ?_
    clear hw hH
    intro r3 h2 H locs hw hH
    exact e_xi B hr hH hw dX7_undo_31 (Nat.le_of_ble_eq_true rfl) (Nat.le_of_ble_eq_true rfl)
  · replace hw := hw.2 c1
    exact r_thISE B hH hB hT (is := 224) (text := "no state is remembered") (tw_433 B.2.2.2.2.1) (tw_13 B.2.2.2.2.1) (by decide +kernel) hl.1 dX7_undo_10 dX7_undo_13 dX7_undo_14 dX7_undo_16 dX7_undo_19 (Nat.le_of_ble_eq_true rfl) (Nat.le_of_ble_eq_true rfl) (Nat.le_of_ble_eq_true rfl) (Nat.le_of_ble_eq_true rfl) hw (Nat.le_of_ble_eq_true rfl) (Nat.le_of_ble_eq_true rfl)
theorem cy_X7_soundIn {s : State} {args : Array Value} (hG : GG s) : CYV s args yX7_soundIn cX7_soundIn 2 (some .int) 1 := CYV.of hG (fun _ _ hG => tw_853 hG) (tw_1 hG) (tw_851 hG) (tw_852 hG) (by decide +kernel)
set_option maxRecDepth 100000 in
set_option maxHeartbeats 4000000 in
theorem ct_X7_soundIn {Z : ZT} (hZ : ZO Z) (l : Launch) (hl9 : l.stackTraces = false) (a0 : Nat) (a1 : Int32) (h : PH) (sz : Nat) (Q : Int32 → PH → Prop) (X : String → PH → Prop) (k0 : kd a0 = 1) (hw : wp_X7_soundIn a0 a1 h Q X) : XI Z l yX7_soundIn cX7_soundIn 2 (some .int) ({ frames := 6, cells := 1, slots := 6, locals := 82 } : Room) h sz [.ref (zA Z a0), .int a1] Q X := by
  refine open_X hZ hl9 (by decide +kernel) (by exact Nat.le_of_ble_eq_true rfl) ?_
  intro p e s m below meth c B hr hsz ls hl hH hB hT
  subst hsz
  have hl : lv_has ls 2 [(0, .ref (zA Z a0)), (1, .int a1)] := hl
  unfold wp_X7_soundIn at hw
  refine lv_iload_n B.1 B.2.1 dX7_soundIn_0 rfl (lv_at hl 1 rfl) ?_
  refine lv_iconst (v := 0) B.1 B.2.1 dX7_soundIn_1 (by decide) ?_
  refine lv_ldc (own := RX7) B.1 B.2.1 B.2.2.2.1 (tw_854 B.2.2.2.2.1) dX7_soundIn_2 ?_
  refine c_S_I (own := RX7) (As := [.int a1, .int 0, .int 1000000]) (rest := []) B hH (cy_X7_outside B.2.2.2.2.1) (ct_X7_outside B.2.2.2.2.2.2.2 l a1 0 1000000 h _ _  hw) ⟨⟨rfl, rfl⟩, Nat.le_of_ble_eq_true rfl, Nat.le_of_ble_eq_true rfl, Nat.le_of_ble_eq_true rfl, Nat.le_of_ble_eq_true rfl⟩ (tw_361 B.2.2.2.2.1) rfl hl.1 rfl (Nat.le_of_ble_eq_true rfl) dX7_soundIn_4 ?_
  clear hw hH
  intro r2 h1 H locs hw hH
  refine lv_if_eq (tgt := 20) B.1 B.2.1 dX7_soundIn_7 (by decide) (fun c3 => ?_) (fun c3 => ?_)
  · replace hw := hw.1 c3
    refine lv_aload_n B.1 B.2.1 dX7_soundIn_20 rfl (lv_at hl 0 rfl) ?_
    refine r_get B hH (own := RX7) (kd_n B (k0) (by decide) (by decide)) (ct_1 (k0)) rfl (ul_1 B.2.2.2.2.1) 0 (by decide) rfl (tw_182 B.2.2.2.2.1) dX7_soundIn_21 ?_
    refine lv_iload_n B.1 B.2.1 dX7_soundIn_24 rfl (lv_at hl 1 rfl) ?_
    refine c_VN_I (own := RX7) (As := [.int a1]) (rest := []) B hH (cy_X5_soundBehind B.2.2.2.2.1) (ct_X5_soundBehind B.2.2.2.2.2.2.2 l (a0 + 1) a1 h1 _ _ (kf_1_0 (k0)) hw) ⟨⟨rfl, rfl⟩, Nat.le_of_ble_eq_true rfl, Nat.le_of_ble_eq_true rfl, Nat.le_of_ble_eq_true rfl, Nat.le_of_ble_eq_true rfl⟩ (rv_2 B hH (kf_1_0 (k0))) (tw_607 B.2.2.2.2.1) rfl hl.1 rfl (Nat.le_of_ble_eq_true rfl) dX7_soundIn_25 ?_
    clear hw hH
    intro r5 h4 H locs hw hH
    exact e_xi B hr hH hw dX7_soundIn_28 (Nat.le_of_ble_eq_true rfl) (Nat.le_of_ble_eq_true rfl)
  · replace hw := hw.2 c3
    exact r_thIAE B hH hB hT (is := 251) (text := "n is out of range") (tw_362 B.2.2.2.2.1) (tw_12 B.2.2.2.2.1) (by decide +kernel) hl.1 dX7_soundIn_10 dX7_soundIn_13 dX7_soundIn_14 dX7_soundIn_16 dX7_soundIn_19 (Nat.le_of_ble_eq_true rfl) (Nat.le_of_ble_eq_true rfl) (Nat.le_of_ble_eq_true rfl) (Nat.le_of_ble_eq_true rfl) hw (Nat.le_of_ble_eq_true rfl) (Nat.le_of_ble_eq_true rfl)
theorem cy_X7_meet {s : State} {args : Array Value} (hG : GG s) : CYV s args yX7_meet cX7_meet 6 (some .int) 3 := CYV.of hG (fun _ _ hG => tw_862 hG) (tw_1 hG) (tw_860 hG) (tw_861 hG) (by decide +kernel)
set_option maxRecDepth 100000 in
set_option maxHeartbeats 4000000 in
theorem ct_X7_meet {Z : ZT} (hZ : ZO Z) (l : Launch) (hl9 : l.stackTraces = false) (a0 : Nat) (a1 : Int32) (a2 : Int32) (a3 : Int32) (h : PH) (sz : Nat) (Q : Int32 → PH → Prop) (X : String → PH → Prop) (k0 : kd a0 = 1) (hw : wp_X7_meet a0 a1 a2 a3 h Q X) : XI Z l yX7_meet cX7_meet 6 (some .int) ({ frames := 6, cells := 1, slots := 6, locals := 107 } : Room) h sz [.ref (zA Z a0), .int a1, .int a2, .int a3] Q X := by
  refine open_X hZ hl9 (by decide +kernel) (by exact Nat.le_of_ble_eq_true rfl) ?_
  intro p e s m below meth c B hr hsz ls hl hH hB hT
  subst hsz
  have hl : lv_has ls 6 [(0, .ref (zA Z a0)), (1, .int a1), (2, .int a2), (3, .int a3)] := hl
  unfold wp_X7_meet at hw
  refine lv_aload_n B.1 B.2.1 dX7_meet_0 rfl (lv_at hl 0 rfl) ?_
  refine r_get B hH (own := RX7) (kd_n B (k0) (by decide) (by decide)) (ct_1 (k0)) rfl (ul_1 B.2.2.2.2.1) 0 (by decide) rfl (tw_182 B.2.2.2.2.1) dX7_meet_1 ?_
  refine lv_iload_n B.1 B.2.1 dX7_meet_4 rfl (lv_at hl 1 rfl) ?_
  refine c_VN_O (own := RX7) (As := [.int a1]) (rest := []) B hH (cy_X5_loopAt B.2.2.2.2.1) (ct_X5_loopAt B.2.2.2.2.2.2.2 l (a0 + 1) a1 h _ _ (kf_1_0 (k0)) hw) ⟨⟨rfl, rfl⟩, Nat.le_of_ble_eq_true rfl, Nat.le_of_ble_eq_true rfl, Nat.le_of_ble_eq_true rfl, Nat.le_of_ble_eq_true rfl⟩ (rv_2 B hH (kf_1_0 (k0))) (tw_717 B.2.2.2.2.1) rfl hl.1 rfl (Nat.le_of_ble_eq_true rfl) dX7_meet_5 ?_
  clear hw hH
  intro r2 h1 H locs hw hH
  have kr2 := hw.2
  replace hw := hw.1
  refine x_astore (lv' := [(4, va_re (zA Z) r2), (0, .ref (zA Z a0)), (1, .int a1), (2, .int a2), (3, .int a3)]) B dX7_meet_8 hl (by decide) (by first | rfl | simp [va_re_cat]) ?_
  clear hl
  intro ls hl
  refine lv_aload_n B.1 B.2.1 dX7_meet_10 rfl (lv_at hl 1 rfl) ?_
  refine r_get B hH (own := RX7) (kd_n B (k0) (by decide) (by decide)) (ct_1 (k0)) rfl (ul_1 B.2.2.2.2.1) 0 (by decide) rfl (tw_182 B.2.2.2.2.1) dX7_meet_11 ?_
  refine lv_iload_n B.1 B.2.1 dX7_meet_14 rfl (lv_at hl 3 rfl) ?_
  refine c_VN_O (own := RX7) (As := [.int a2]) (rest := []) B hH (cy_X5_loopAt B.2.2.2.2.1) (ct_X5_loopAt B.2.2.2.2.2.2.2 l (a0 + 1) a2 h1 _ _ (kf_1_0 (k0)) hw) ⟨⟨rfl, rfl⟩, Nat.le_of_ble_eq_true rfl, Nat.le_of_ble_eq_true rfl, Nat.le_of_ble_eq_true rfl, Nat.le_of_ble_eq_true rfl⟩ (rv_2 B hH (kf_1_0 (k0))) (tw_717 B.2.2.2.2.1) rfl hl.1 rfl (Nat.le_of_ble_eq_true rfl) dX7_meet_15 ?_
  clear hw hH
  intro r4 h3 H locs hw hH
  have kr4 := hw.2
  replace hw := hw.1
  refine x_astore (lv' := [(5, va_re (zA Z) r4), (4, va_re (zA Z) r2), (0, .ref (zA Z a0)), (1, .int a1), (2, .int a2), (3, .int a3)]) B dX7_meet_18 hl (by decide) (by first | rfl | simp [va_re_cat]) ?_
  clear hl
  intro ls hl
  refine x_aload B dX7_meet_20 (lv_at hl 1 rfl) ?_
  refine x_ifnull (tgt := 30) B dX7_meet_22 (by decide) (fun c6 => ?_) (fun j5 c6 => ?_)
  · replace hw := hw.1 c6
    subst c6
    exact r_thIOB B hH hB hT (is := 188) (text := "no such loop") (tw_629 B.2.2.2.2.1) (tw_19 B.2.2.2.2.1) (by decide +kernel) hl.1 dX7_meet_30 dX7_meet_33 dX7_meet_34 dX7_meet_36 dX7_meet_39 (Nat.le_of_ble_eq_true rfl) (Nat.le_of_ble_eq_true rfl) (Nat.le_of_ble_eq_true rfl) (Nat.le_of_ble_eq_true rfl) hw (Nat.le_of_ble_eq_true rfl) (Nat.le_of_ble_eq_true rfl)
  · replace hw := hw.2 j5 c6
    have kj5 := kr2 j5 c6
    subst c6
    refine x_aload B dX7_meet_25 (lv_at hl 0 rfl) ?_
    refine x_ifnonnull (tgt := 40) B dX7_meet_27 (by decide) (fun j7 c8 => ?_) (fun c8 => ?_)
    · replace hw := hw.2 j7 c8
      have kj7 := kr4 j7 c8
      subst c8
      refine lv_iload_n B.1 B.2.1 dX7_meet_40 rfl (lv_at hl 5 rfl) ?_
      refine lv_iconst (v := 0) B.1 B.2.1 dX7_meet_41 (by decide) ?_
      refine lv_iconst (v := 1) B.1 B.2.1 dX7_meet_42 (by decide) ?_
      refine c_S_I (own := RX7) (As := [.int a3, .int 0, .int 1]) (rest := []) B hH (cy_X7_outside B.2.2.2.2.1) (ct_X7_outside B.2.2.2.2.2.2.2 l a3 0 1 h3 _ _  hw) ⟨⟨rfl, rfl⟩, Nat.le_of_ble_eq_true rfl, Nat.le_of_ble_eq_true rfl, Nat.le_of_ble_eq_true rfl, Nat.le_of_ble_eq_true rfl⟩ (tw_361 B.2.2.2.2.1) rfl hl.1 rfl (Nat.le_of_ble_eq_true rfl) dX7_meet_43 ?_
      clear hw hH
      intro r10 h9 H locs hw hH
      refine lv_if_eq (tgt := 59) B.1 B.2.1 dX7_meet_46 (by decide) (fun c11 => ?_) (fun c11 => ?_)
      · replace hw := hw.1 c11
        refine lv_iload_n B.1 B.2.1 dX7_meet_59 rfl (lv_at hl 5 rfl) ?_
        refine lv_if_ne (tgt := 73) B.1 B.2.1 dX7_meet_60 (by decide) (fun c12 => ?_) (fun c12 => ?_)
        · replace hw := hw.1 c12
          refine lv_aload B.1 B.2.1 dX7_meet_73 (lv_at hl 1 rfl) ?_
          refine lv_aload B.1 B.2.1 dX7_meet_75 (lv_at hl 0 rfl) ?_
          refine c_SN_I (own := RX7) (As := [.ref (zA Z j5), .ref (zA Z j7)]) (rest := []) B hH (cy_X1_byDivisor B.2.2.2.2.1) (ct_X1_byDivisor B.2.2.2.2.2.2.2 l j5 j7 h9 _ _ (kj5) (kj7) hw) ⟨⟨rfl, rfl⟩, Nat.le_of_ble_eq_true rfl, Nat.le_of_ble_eq_true rfl, Nat.le_of_ble_eq_true rfl, Nat.le_of_ble_eq_true rfl⟩ (tw_867 B.2.2.2.2.1) rfl hl.1 rfl (Nat.le_of_ble_eq_true rfl) dX7_meet_77 ?_
          clear hw hH
          intro r14 h13 H locs hw hH
          exact e_xi B hr hH hw dX7_meet_80 (Nat.le_of_ble_eq_true rfl) (Nat.le_of_ble_eq_true rfl)
        · replace hw := hw.2 c12
          refine lv_aload B.1 B.2.1 dX7_meet_63 (lv_at hl 1 rfl) ?_
          refine lv_aload B.1 B.2.1 dX7_meet_65 (lv_at hl 0 rfl) ?_
          refine c_SN_I (own := RX7) (As := [.ref (zA Z j5), .ref (zA Z j7)]) (rest := []) B hH (cy_X1_byGoing B.2.2.2.2.1) (ct_X1_byGoing B.2.2.2.2.2.2.2 l j5 j7 h9 _ _ (kj5) (kj7) hw) ⟨⟨rfl, rfl⟩, Nat.le_of_ble_eq_true rfl, Nat.le_of_ble_eq_true rfl, Nat.le_of_ble_eq_true rfl, Nat.le_of_ble_eq_true rfl⟩ (tw_864 B.2.2.2.2.1) rfl hl.1 rfl (Nat.le_of_ble_eq_true rfl) dX7_meet_67 ?_
          clear hw hH
          intro r16 h15 H locs hw hH
          refine lv_goto (tgt := 80) B.1 B.2.1 dX7_meet_70 (by decide) ?_
          exact e_xi B hr hH hw dX7_meet_80 (Nat.le_of_ble_eq_true rfl) (Nat.le_of_ble_eq_true rfl)
      · replace hw := hw.2 c11
        exact r_thIAE B hH hB hT (is := 253) (text := "no such way") (tw_362 B.2.2.2.2.1) (tw_12 B.2.2.2.2.1) (by decide +kernel) hl.1 dX7_meet_49 dX7_meet_52 dX7_meet_53 dX7_meet_55 dX7_meet_58 (Nat.le_of_ble_eq_true rfl) (Nat.le_of_ble_eq_true rfl) (Nat.le_of_ble_eq_true rfl) (Nat.le_of_ble_eq_true rfl) hw (Nat.le_of_ble_eq_true rfl) (Nat.le_of_ble_eq_true rfl)
    · replace hw := hw.1 c8
      subst c8
      exact r_thIOB B hH hB hT (is := 188) (text := "no such loop") (tw_629 B.2.2.2.2.1) (tw_19 B.2.2.2.2.1) (by decide +kernel) hl.1 dX7_meet_30 dX7_meet_33 dX7_meet_34 dX7_meet_36 dX7_meet_39 (Nat.le_of_ble_eq_true rfl) (Nat.le_of_ble_eq_true rfl) (Nat.le_of_ble_eq_true rfl) (Nat.le_of_ble_eq_true rfl) hw (Nat.le_of_ble_eq_true rfl) (Nat.le_of_ble_eq_true rfl)
theorem cy_X7_loudest {s : State} {args : Array Value} (hG : GG s) : CYV s args yX7_loudest cX7_loudest 7 (some .int) 2 := CYV.of hG (fun _ _ hG => tw_882 hG) (tw_1 hG) (tw_880 hG) (tw_881 hG) (by decide +kernel)
set_option maxRecDepth 100000 in
set_option maxHeartbeats 4000000 in
theorem ct_X7_loudest {Z : ZT} (hZ : ZO Z) (l : Launch) (hl9 : l.stackTraces = false) (a0 : Nat) (a1 : Int32) (a2 : Int32) (h : PH) (sz : Nat) (Q : Int32 → PH → Prop) (X : String → PH → Prop) (k0 : kd a0 = 1) (hw : wp_X7_loudest a0 a1 a2 h Q X) : XI Z l yX7_loudest cX7_loudest 7 (some .int) ({ frames := 6, cells := 1, slots := 6, locals := 82 } : Room) h sz [.ref (zA Z a0), .int a1, .int a2] Q X := by
  refine open_X hZ hl9 (by decide +kernel) (by exact Nat.le_of_ble_eq_true rfl) ?_
  intro p e s m below meth c B hr hsz ls hl hH hB hT
  subst hsz
  have hl : lv_has ls 7 [(0, .ref (zA Z a0)), (1, .int a1), (2, .int a2)] := hl
  unfold wp_X7_loudest at hw
  have L46 : ∀ (b0 : Nat) (b1 : Int32) (b2 : Int32), kd b0 = 1 → ∀ (n : Nat) (b3 : Int32) (b4 : Int32) (b5 : Int32) (h : PH), ∀ (H : Heap) (locs : List Loc) (ls : Array Slot), wp_X7_loudest_b46 b0 b1 b2 Q X n b3 b4 b5 h → HH Z s h H locs → lv_has ls 7 [(0, .ref (zA Z b0)), (1, .int b1), (2, .int b2), (3, .int b3), (4, .int b4), (5, .int b5)] → W p l e ({ frames := 6, cells := 1, slots := 6, locals := 82 } : Room) s m ([.ref (zA Z a0), .int a1, .int a2]).toArray below meth c H locs 0 0 (vx_MQ below (va_Qi Q (BZ Z) (fr Z s.heap.size)) (XCZ Z X s.heap.size) ([.ref (zA Z a0), .int a1, .int a2]).toArray s 1 6 (fr Z s.heap.size)) (F0 m 46 ls []) := by
    intro b0 b1 b2 kb0 n
    induction n with
    | zero => intro b3 b4 b5 h H locs ls hw hH hl; exact absurd hw id
    | succ n ih =>
      intro b3 b4 b5 h H locs ls hw hH hl
      unfold wp_X7_loudest_b46 at hw
      refine lv_iload B.1 B.2.1 dX7_loudest_46 (lv_at hl 5 rfl) ?_
      refine lv_iload_n B.1 B.2.1 dX7_loudest_48 rfl (lv_at hl 1 rfl) ?_
      refine lv_icmp_gt (tgt := 82) B.1 B.2.1 dX7_loudest_49 (by decide) (fun c9 => ?_) (fun c9 => ?_)
      · replace hw := hw.1 c9
        refine lv_iload_n B.1 B.2.1 dX7_loudest_82 rfl (lv_at hl 2 rfl) ?_
        refine lv_if_ne (tgt := 90) B.1 B.2.1 dX7_loudest_83 (by decide) (fun c10 => ?_) (fun c10 => ?_)
        · replace hw := hw.1 c10
          refine lv_iload B.1 B.2.1 dX7_loudest_90 (lv_at hl 4 rfl) ?_
          exact e_xi B hr hH hw dX7_loudest_92 (Nat.le_of_ble_eq_true rfl) (Nat.le_of_ble_eq_true rfl)
        · replace hw := hw.2 c10
          refine lv_iload_n B.1 B.2.1 dX7_loudest_86 rfl (lv_at hl 3 rfl) ?_
          refine lv_goto (tgt := 92) B.1 B.2.1 dX7_loudest_87 (by decide) ?_
          exact e_xi B hr hH hw dX7_loudest_92 (Nat.le_of_ble_eq_true rfl) (Nat.le_of_ble_eq_true rfl)
      · replace hw := hw.2 c9
        refine lv_aload_n B.1 B.2.1 dX7_loudest_52 rfl (lv_at hl 0 rfl) ?_
        refine r_get B hH (own := RX7) (kd_n B (kb0) (by decide) (by decide)) (ct_1 (kb0)) rfl (ul_1 B.2.2.2.2.1) 0 (by decide) rfl (tw_182 B.2.2.2.2.1) dX7_loudest_53 ?_
        refine lv_iload B.1 B.2.1 dX7_loudest_56 (lv_at hl 5 rfl) ?_
        refine c_VN_I (own := RX7) (As := [.int b5]) (rest := []) B hH (cy_X5_soundBehind B.2.2.2.2.1) (ct_X5_soundBehind B.2.2.2.2.2.2.2 l (b0 + 1) b5 h _ _ (kf_1_0 (kb0)) hw) ⟨⟨rfl, rfl⟩, Nat.le_of_ble_eq_true rfl, Nat.le_of_ble_eq_true rfl, Nat.le_of_ble_eq_true rfl, Nat.le_of_ble_eq_true rfl⟩ (rv_2 B hH (kf_1_0 (kb0))) (tw_607 B.2.2.2.2.1) rfl hl.1 rfl (Nat.le_of_ble_eq_true rfl) dX7_loudest_58 ?_
        clear hw hH
        intro r12 h11 H locs hw hH
        refine lv_istore (lv' := [(6, .int r12), (0, .ref (zA Z b0)), (1, .int b1), (2, .int b2), (3, .int b3), (4, .int b4), (5, .int b5)]) B.1 B.2.1 dX7_loudest_61 hl (by decide) (by first | rfl | simp [va_re_cat, Value.category]) ?_
        clear hl
        intro ls hl
        refine lv_iload B.1 B.2.1 dX7_loudest_63 (lv_at hl 0 rfl) ?_
        refine lv_iload_n B.1 B.2.1 dX7_loudest_65 rfl (lv_at hl 4 rfl) ?_
        refine lv_icmp_le (tgt := 76) B.1 B.2.1 dX7_loudest_66 (by decide) (fun c13 => ?_) (fun c13 => ?_)
        · replace hw := hw.1 c13
          obtain ⟨x14, ex14⟩ : ∃ y : Int32, y = b5 + 1 := ⟨_, rfl⟩
          replace hw := hw x14 ex14
          refine lv_iinc (v := x14) (lv' := [(5, .int x14), (6, .int r12), (0, .ref (zA Z b0)), (1, .int b1), (2, .int b2), (3, .int b3), (4, .int b4)]) B.1 B.2.1 dX7_loudest_76 hl (k := 6) rfl (by rw [ex14]; rfl) (by decide) (by first | rfl | simp [va_re_cat, Value.category]) ?_
          clear hl
          intro ls hl
          refine lv_goto (tgt := 46) B.1 B.2.1 dX7_loudest_79 (by decide) ?_
          exact ih b3 b4 x14 h11  _ _ _ hw hH (lv_sub hl [2, 3, 4, 5, 6, 0] rfl)
        · replace hw := hw.2 c13
          refine lv_iload B.1 B.2.1 dX7_loudest_69 (lv_at hl 0 rfl) ?_
          refine lv_istore_n (lv' := [(3, .int r12), (6, .int r12), (0, .ref (zA Z b0)), (1, .int b1), (2, .int b2), (4, .int b4), (5, .int b5)]) B.1 B.2.1 dX7_loudest_71 rfl hl (by decide) (by first | rfl | simp [va_re_cat, Value.category]) ?_
          clear hl
          intro ls hl
          refine lv_iload B.1 B.2.1 dX7_loudest_72 (lv_at hl 6 rfl) ?_
          refine lv_istore (lv' := [(4, .int b5), (3, .int r12), (6, .int r12), (0, .ref (zA Z b0)), (1, .int b1), (2, .int b2), (5, .int b5)]) B.1 B.2.1 dX7_loudest_74 hl (by decide) (by first | rfl | simp [va_re_cat, Value.category]) ?_
          clear hl
          intro ls hl
          obtain ⟨x15, ex15⟩ : ∃ y : Int32, y = b5 + 1 := ⟨_, rfl⟩
          replace hw := hw x15 ex15
          refine lv_iinc (v := x15) (lv' := [(5, .int x15), (4, .int b5), (3, .int r12), (6, .int r12), (0, .ref (zA Z b0)), (1, .int b1), (2, .int b2)]) B.1 B.2.1 dX7_loudest_76 hl (k := 6) rfl (by rw [ex15]; rfl) (by decide) (by first | rfl | simp [va_re_cat, Value.category]) ?_
          clear hl
          intro ls hl
          refine lv_goto (tgt := 46) B.1 B.2.1 dX7_loudest_79 (by decide) ?_
          exact ih r12 b5 x15 h11  _ _ _ hw hH (lv_sub hl [4, 5, 6, 2, 1, 0] rfl)
  refine lv_iload_n B.1 B.2.1 dX7_loudest_0 rfl (lv_at hl 1 rfl) ?_
  refine lv_iconst (v := 1) B.1 B.2.1 dX7_loudest_1 (by decide) ?_
  refine lv_sipush (v := 2000) B.1 B.2.1 dX7_loudest_2 (by decide) ?_
  refine c_S_I (own := RX7) (As := [.int a1, .int 1, .int 2000]) (rest := []) B hH (cy_X7_outside B.2.2.2.2.1) (ct_X7_outside B.2.2.2.2.2.2.2 l a1 1 2000 h _ _  hw) ⟨⟨rfl, rfl⟩, Nat.le_of_ble_eq_true rfl, Nat.le_of_ble_eq_true rfl, Nat.le_of_ble_eq_true rfl, Nat.le_of_ble_eq_true rfl⟩ (tw_361 B.2.2.2.2.1) rfl hl.1 rfl (Nat.le_of_ble_eq_true rfl) dX7_loudest_5 ?_
  clear hw hH
  intro r2 h1 H locs hw hH
  refine lv_if_ne (tgt := 20) B.1 B.2.1 dX7_loudest_8 (by decide) (fun c3 => ?_) (fun c3 => ?_)
  · replace hw := hw.1 c3
    exact r_thIAEW B hH hB hT (is := 267) (text := "n or what is out of range") (tw_362 B.2.2.2.2.1) (tw_12 B.2.2.2.2.1) (by decide +kernel) hl.1 dX7_loudest_20 dX7_loudest_23 dX7_loudest_24 dX7_loudest_27 dX7_loudest_30 (Nat.le_of_ble_eq_true rfl) (Nat.le_of_ble_eq_true rfl) (Nat.le_of_ble_eq_true rfl) (Nat.le_of_ble_eq_true rfl) hw (Nat.le_of_ble_eq_true rfl) (Nat.le_of_ble_eq_true rfl)
  · replace hw := hw.2 c3
    refine lv_iload_n B.1 B.2.1 dX7_loudest_11 rfl (lv_at hl 2 rfl) ?_
    refine lv_iconst (v := 0) B.1 B.2.1 dX7_loudest_12 (by decide) ?_
    refine lv_iconst (v := 1) B.1 B.2.1 dX7_loudest_13 (by decide) ?_
    refine c_S_I (own := RX7) (As := [.int a2, .int 0, .int 1]) (rest := []) B hH (cy_X7_outside B.2.2.2.2.1) (ct_X7_outside B.2.2.2.2.2.2.2 l a2 0 1 h1 _ _  hw) ⟨⟨rfl, rfl⟩, Nat.le_of_ble_eq_true rfl, Nat.le_of_ble_eq_true rfl, Nat.le_of_ble_eq_true rfl, Nat.le_of_ble_eq_true rfl⟩ (tw_361 B.2.2.2.2.1) rfl hl.1 rfl (Nat.le_of_ble_eq_true rfl) dX7_loudest_14 ?_
    clear hw hH
    intro r5 h4 H locs hw hH
    refine lv_if_eq (tgt := 31) B.1 B.2.1 dX7_loudest_17 (by decide) (fun c6 => ?_) (fun c6 => ?_)
    · replace hw := hw.1 c6
      refine lv_aload_n B.1 B.2.1 dX7_loudest_31 rfl (lv_at hl 0 rfl) ?_
      refine r_get B hH (own := RX7) (kd_n B (k0) (by decide) (by decide)) (ct_1 (k0)) rfl (ul_1 B.2.2.2.2.1) 0 (by decide) rfl (tw_182 B.2.2.2.2.1) dX7_loudest_32 ?_
      refine lv_iconst (v := 0) B.1 B.2.1 dX7_loudest_35 (by decide) ?_
      refine c_VN_I (own := RX7) (As := [.int 0]) (rest := []) B hH (cy_X5_soundBehind B.2.2.2.2.1) (ct_X5_soundBehind B.2.2.2.2.2.2.2 l (a0 + 1) 0 h4 _ _ (kf_1_0 (k0)) hw) ⟨⟨rfl, rfl⟩, Nat.le_of_ble_eq_true rfl, Nat.le_of_ble_eq_true rfl, Nat.le_of_ble_eq_true rfl, Nat.le_of_ble_eq_true rfl⟩ (rv_2 B hH (kf_1_0 (k0))) (tw_607 B.2.2.2.2.1) rfl hl.1 rfl (Nat.le_of_ble_eq_true rfl) dX7_loudest_36 ?_
      clear hw hH
      intro r8 h7 H locs hw hH
      refine lv_istore_n (lv' := [(3, .int r8), (0, .ref (zA Z a0)), (1, .int a1), (2, .int a2)]) B.1 B.2.1 dX7_loudest_39 rfl hl (by decide) (by first | rfl | simp [va_re_cat, Value.category]) ?_
      clear hl
      intro ls hl
      refine lv_iconst (v := 0) B.1 B.2.1 dX7_loudest_40 (by decide) ?_
      refine lv_istore (lv' := [(4, .int 0), (3, .int r8), (0, .ref (zA Z a0)), (1, .int a1), (2, .int a2)]) B.1 B.2.1 dX7_loudest_41 hl (by decide) (by first | rfl | simp [va_re_cat, Value.category]) ?_
      clear hl
      intro ls hl
      refine lv_iconst (v := 1) B.1 B.2.1 dX7_loudest_43 (by decide) ?_
      refine lv_istore (lv' := [(5, .int 1), (4, .int 0), (3, .int r8), (0, .ref (zA Z a0)), (1, .int a1), (2, .int a2)]) B.1 B.2.1 dX7_loudest_44 hl (by decide) (by first | rfl | simp [va_re_cat, Value.category]) ?_
      clear hl
      intro ls hl
      obtain ⟨n16, hw⟩ := hw
      exact L46 a0 a1 a2 (k0) n16 r8 0 1 h7  _ _ _ hw hH (lv_sub hl [3, 4, 5, 2, 1, 0] rfl)
    · replace hw := hw.2 c6
      exact r_thIAEW B hH hB hT (is := 267) (text := "n or what is out of range") (tw_362 B.2.2.2.2.1) (tw_12 B.2.2.2.2.1) (by decide +kernel) hl.1 dX7_loudest_20 dX7_loudest_23 dX7_loudest_24 dX7_loudest_27 dX7_loudest_30 (Nat.le_of_ble_eq_true rfl) (Nat.le_of_ble_eq_true rfl) (Nat.le_of_ble_eq_true rfl) (Nat.le_of_ble_eq_true rfl) hw (Nat.le_of_ble_eq_true rfl) (Nat.le_of_ble_eq_true rfl)
theorem cy_X7_turnedBy {s : State} {args : Array Value} (hG : GG s) : CYV s args yX7_turnedBy cX7_turnedBy 6 (some .int) 2 := CYV.of hG (fun _ _ hG => tw_890 hG) (tw_1 hG) (tw_888 hG) (tw_889 hG) (by decide +kernel)
set_option maxRecDepth 100000 in
set_option maxHeartbeats 4000000 in
theorem ct_X7_turnedBy {Z : ZT} (hZ : ZO Z) (l : Launch) (hl9 : l.stackTraces = false) (a0 : Nat) (a1 : Int32) (a2 : Int32) (h : PH) (sz : Nat) (Q : Int32 → PH → Prop) (X : String → PH → Prop) (k0 : kd a0 = 1) (hw : wp_X7_turnedBy a0 a1 a2 h Q X) : XI Z l yX7_turnedBy cX7_turnedBy 6 (some .int) ({ frames := 6, cells := 1, slots := 6, locals := 82 } : Room) h sz [.ref (zA Z a0), .int a1, .int a2] Q X := by
  refine open_X hZ hl9 (by decide +kernel) (by exact Nat.le_of_ble_eq_true rfl) ?_
  intro p e s m below meth c B hr hsz ls hl hH hB hT
  subst hsz
  have hl : lv_has ls 6 [(0, .ref (zA Z a0)), (1, .int a1), (2, .int a2)] := hl
  unfold wp_X7_turnedBy at hw
  have L55 : ∀ (b3 : Nat) (b4 : Nat), kd b3 = 4 → kd b4 = 4 → ∀ (n : Nat) (b5 : Int32) (h : PH), ∀ (H : Heap) (locs : List Loc) (ls : Array Slot), wp_X7_turnedBy_b55 b3 b4 Q X n b5 h → HH Z s h H locs → lv_has ls 6 [(3, .ref (zA Z b3)), (4, .ref (zA Z b4)), (5, .int b5)] → W p l e ({ frames := 6, cells := 1, slots := 6, locals := 82 } : Room) s m ([.ref (zA Z a0), .int a1, .int a2]).toArray below meth c H locs 0 0 (vx_MQ below (va_Qi Q (BZ Z) (fr Z s.heap.size)) (XCZ Z X s.heap.size) ([.ref (zA Z a0), .int a1, .int a2]).toArray s 1 6 (fr Z s.heap.size)) (F0 m 55 ls []) := by
    intro b3 b4 kb3 kb4 n
    induction n with
    | zero => intro b5 h H locs ls hw hH hl; exact absurd hw id
    | succ n ih =>
      intro b5 h H locs ls hw hH hl
      unfold wp_X7_turnedBy_b55 at hw
      refine lv_iload B.1 B.2.1 dX7_turnedBy_55 (lv_at hl 2 rfl) ?_
      refine lv_aload B.1 B.2.1 dX7_turnedBy_57 (lv_at hl 1 rfl) ?_
      refine r_getN B hH (own := RX7) (kd_n B (kb4) (by decide) (by decide)) (ct_4 (kb4)) rfl (ul_4 B.2.2.2.2.1) 2 (by decide) rfl (tw_68 B.2.2.2.2.1) dX7_turnedBy_59 ?_
      refine lv_icmp_ge (tgt := 85) B.1 B.2.1 dX7_turnedBy_62 (by decide) (fun c10 => ?_) (fun c10 => ?_)
      · replace hw := hw.1 c10
        refine lv_iconst (v := (-1)) B.1 B.2.1 dX7_turnedBy_85 (by decide) ?_
        exact e_xi B hr hH hw dX7_turnedBy_86 (Nat.le_of_ble_eq_true rfl) (Nat.le_of_ble_eq_true rfl)
      · replace hw := hw.2 c10
        refine lv_aload_n B.1 B.2.1 dX7_turnedBy_65 rfl (lv_at hl 0 rfl) ?_
        refine lv_aload B.1 B.2.1 dX7_turnedBy_66 (lv_at hl 1 rfl) ?_
        refine lv_iload B.1 B.2.1 dX7_turnedBy_68 (lv_at hl 2 rfl) ?_
        refine c_VN_I (own := RX7) (As := [.ref (zA Z b4), .int b5]) (rest := []) B hH (cy_X0_isTurned B.2.2.2.2.1) (ct_X0_isTurned B.2.2.2.2.2.2.2 l b3 b4 b5 h _ _ (kb3) (kb4) hw) ⟨⟨rfl, rfl⟩, Nat.le_of_ble_eq_true rfl, Nat.le_of_ble_eq_true rfl, Nat.le_of_ble_eq_true rfl, Nat.le_of_ble_eq_true rfl⟩ (rv_4 B hH (kb3)) (tw_891 B.2.2.2.2.1) rfl hl.1 rfl (Nat.le_of_ble_eq_true rfl) dX7_turnedBy_70 ?_
        clear hw hH
        intro r12 h11 H locs hw hH
        refine lv_if_eq (tgt := 79) B.1 B.2.1 dX7_turnedBy_73 (by decide) (fun c13 => ?_) (fun c13 => ?_)
        · replace hw := hw.1 c13
          obtain ⟨x14, ex14⟩ : ∃ y : Int32, y = b5 + 1 := ⟨_, rfl⟩
          replace hw := hw x14 ex14
          refine lv_iinc (v := x14) (lv' := [(5, .int x14), (3, .ref (zA Z b3)), (4, .ref (zA Z b4))]) B.1 B.2.1 dX7_turnedBy_79 hl (k := 2) rfl (by rw [ex14]; rfl) (by decide) (by first | rfl | simp [va_re_cat, Value.category]) ?_
          clear hl
          intro ls hl
          refine lv_goto (tgt := 55) B.1 B.2.1 dX7_turnedBy_82 (by decide) ?_
          exact ih x14 h11  _ _ _ hw hH (lv_sub hl [1, 2, 0] rfl)
        · replace hw := hw.2 c13
          refine lv_iload B.1 B.2.1 dX7_turnedBy_76 (lv_at hl 2 rfl) ?_
          exact e_xi B hr hH hw dX7_turnedBy_78 (Nat.le_of_ble_eq_true rfl) (Nat.le_of_ble_eq_true rfl)
  refine lv_aload_n B.1 B.2.1 dX7_turnedBy_0 rfl (lv_at hl 0 rfl) ?_
  refine r_get B hH (own := RX7) (kd_n B (k0) (by decide) (by decide)) (ct_1 (k0)) rfl (ul_1 B.2.2.2.2.1) 0 (by decide) rfl (tw_182 B.2.2.2.2.1) dX7_turnedBy_1 ?_
  refine lv_iload_n B.1 B.2.1 dX7_turnedBy_4 rfl (lv_at hl 1 rfl) ?_
  refine c_VN_O (own := RX7) (As := [.int a1]) (rest := []) B hH (cy_X5_loopAt B.2.2.2.2.1) (ct_X5_loopAt B.2.2.2.2.2.2.2 l (a0 + 1) a1 h _ _ (kf_1_0 (k0)) hw) ⟨⟨rfl, rfl⟩, Nat.le_of_ble_eq_true rfl, Nat.le_of_ble_eq_true rfl, Nat.le_of_ble_eq_true rfl, Nat.le_of_ble_eq_true rfl⟩ (rv_2 B hH (kf_1_0 (k0))) (tw_717 B.2.2.2.2.1) rfl hl.1 rfl (Nat.le_of_ble_eq_true rfl) dX7_turnedBy_5 ?_
  clear hw hH
  intro r2 h1 H locs hw hH
  have kr2 := hw.2
  replace hw := hw.1
  refine x_astore_n (lv' := [(3, va_re (zA Z) r2), (0, .ref (zA Z a0)), (1, .int a1), (2, .int a2)]) B dX7_turnedBy_8 rfl hl (by decide) (by first | rfl | simp [va_re_cat]) ?_
  clear hl
  intro ls hl
  refine lv_aload_n B.1 B.2.1 dX7_turnedBy_9 rfl (lv_at hl 1 rfl) ?_
  refine r_get B hH (own := RX7) (kd_n B (k0) (by decide) (by decide)) (ct_1 (k0)) rfl (ul_1 B.2.2.2.2.1) 0 (by decide) rfl (tw_182 B.2.2.2.2.1) dX7_turnedBy_10 ?_
  refine lv_iload_n B.1 B.2.1 dX7_turnedBy_13 rfl (lv_at hl 3 rfl) ?_
  refine c_VN_O (own := RX7) (As := [.int a2]) (rest := []) B hH (cy_X5_loopAt B.2.2.2.2.1) (ct_X5_loopAt B.2.2.2.2.2.2.2 l (a0 + 1) a2 h1 _ _ (kf_1_0 (k0)) hw) ⟨⟨rfl, rfl⟩, Nat.le_of_ble_eq_true rfl, Nat.le_of_ble_eq_true rfl, Nat.le_of_ble_eq_true rfl, Nat.le_of_ble_eq_true rfl⟩ (rv_2 B hH (kf_1_0 (k0))) (tw_717 B.2.2.2.2.1) rfl hl.1 rfl (Nat.le_of_ble_eq_true rfl) dX7_turnedBy_14 ?_
  clear hw hH
  intro r4 h3 H locs hw hH
  have kr4 := hw.2
  replace hw := hw.1
  refine x_astore (lv' := [(4, va_re (zA Z) r4), (3, va_re (zA Z) r2), (0, .ref (zA Z a0)), (1, .int a1), (2, .int a2)]) B dX7_turnedBy_17 hl (by decide) (by first | rfl | simp [va_re_cat]) ?_
  clear hl
  intro ls hl
  refine x_aload_n B dX7_turnedBy_19 rfl (lv_at hl 1 rfl) ?_
  refine x_ifnull (tgt := 28) B dX7_turnedBy_20 (by decide) (fun c6 => ?_) (fun j5 c6 => ?_)
  · replace hw := hw.1 c6
    subst c6
    exact r_thIOB B hH hB hT (is := 188) (text := "no such loop") (tw_629 B.2.2.2.2.1) (tw_19 B.2.2.2.2.1) (by decide +kernel) hl.1 dX7_turnedBy_28 dX7_turnedBy_31 dX7_turnedBy_32 dX7_turnedBy_34 dX7_turnedBy_37 (Nat.le_of_ble_eq_true rfl) (Nat.le_of_ble_eq_true rfl) (Nat.le_of_ble_eq_true rfl) (Nat.le_of_ble_eq_true rfl) hw (Nat.le_of_ble_eq_true rfl) (Nat.le_of_ble_eq_true rfl)
  · replace hw := hw.2 j5 c6
    have kj5 := kr2 j5 c6
    subst c6
    refine x_aload B dX7_turnedBy_23 (lv_at hl 0 rfl) ?_
    refine x_ifnonnull (tgt := 38) B dX7_turnedBy_25 (by decide) (fun j7 c8 => ?_) (fun c8 => ?_)
    · replace hw := hw.2 j7 c8
      have kj7 := kr4 j7 c8
      subst c8
      refine lv_aload_n B.1 B.2.1 dX7_turnedBy_38 rfl (lv_at hl 1 rfl) ?_
      refine r_getN B hH (own := RX7) (kd_n B (kj5) (by decide) (by decide)) (ct_4 (kj5)) rfl (ul_4 B.2.2.2.2.1) 2 (by decide) rfl (tw_68 B.2.2.2.2.1) dX7_turnedBy_39 ?_
      refine lv_aload B.1 B.2.1 dX7_turnedBy_42 (lv_at hl 0 rfl) ?_
      refine r_getN B hH (own := RX7) (kd_n B (kj7) (by decide) (by decide)) (ct_4 (kj7)) rfl (ul_4 B.2.2.2.2.1) 2 (by decide) rfl (tw_68 B.2.2.2.2.1) dX7_turnedBy_44 ?_
      refine lv_icmp_eq (tgt := 52) B.1 B.2.1 dX7_turnedBy_47 (by decide) (fun c9 => ?_) (fun c9 => ?_)
      · replace hw := hw.1 c9
        refine lv_iconst (v := 0) B.1 B.2.1 dX7_turnedBy_52 (by decide) ?_
        refine lv_istore (lv' := [(5, .int 0), (4, .ref (zA Z j7)), (3, .ref (zA Z j5)), (0, .ref (zA Z a0)), (1, .int a1), (2, .int a2)]) B.1 B.2.1 dX7_turnedBy_53 hl (by decide) (by first | rfl | simp [va_re_cat, Value.category]) ?_
        clear hl
        intro ls hl
        obtain ⟨n15, hw⟩ := hw
        exact L55 j5 j7 (kj5) (kj7) n15 0 h3  _ _ _ hw hH (lv_sub hl [2, 1, 0] rfl)
      · replace hw := hw.2 c9
        refine lv_iconst (v := (-1)) B.1 B.2.1 dX7_turnedBy_50 (by decide) ?_
        exact e_xi B hr hH hw dX7_turnedBy_51 (Nat.le_of_ble_eq_true rfl) (Nat.le_of_ble_eq_true rfl)
    · replace hw := hw.1 c8
      subst c8
      exact r_thIOB B hH hB hT (is := 188) (text := "no such loop") (tw_629 B.2.2.2.2.1) (tw_19 B.2.2.2.2.1) (by decide +kernel) hl.1 dX7_turnedBy_28 dX7_turnedBy_31 dX7_turnedBy_32 dX7_turnedBy_34 dX7_turnedBy_37 (Nat.le_of_ble_eq_true rfl) (Nat.le_of_ble_eq_true rfl) (Nat.le_of_ble_eq_true rfl) (Nat.le_of_ble_eq_true rfl) hw (Nat.le_of_ble_eq_true rfl) (Nat.le_of_ble_eq_true rfl)
theorem cy_X7_runScript {s : State} {args : Array Value} (hG : GG s) : CYV s args yX7_runScript cX7_runScript 7 (some .int) 2 := CYV.of hG (fun _ _ hG => tw_901 hG) (tw_1 hG) (tw_899 hG) (tw_900 hG) (by decide +kernel)
set_option maxRecDepth 100000 in
set_option maxHeartbeats 4000000 in
theorem ct_X7_runScript {Z : ZT} (hZ : ZO Z) (l : Launch) (hl9 : l.stackTraces = false) (a0 : Nat) (a1 : Int32) (a2 : Int64) (h : PH) (sz : Nat) (Q : Int32 → PH → Prop) (X : String → PH → Prop) (k0 : kd a0 = 1) (hw : wp_X7_runScript a0 a1 a2 h Q X) : XI Z l yX7_runScript cX7_runScript 7 (some .int) ({ frames := 7, cells := 1, slots := 6, locals := 166 } : Room) h sz [.ref (zA Z a0), .int a1, .long a2] Q X := by
  refine open_X hZ hl9 (by decide +kernel) (by exact Nat.le_of_ble_eq_true rfl) ?_
  intro p e s m below meth c B hr hsz ls hl hH hB hT
  subst hsz
  have hl : lv_has ls 7 [(0, .ref (zA Z a0)), (1, .int a1), (2, .long a2)] := hl
  unfold wp_X7_runScript at hw
  refine lv_iload_n B.1 B.2.1 dX7_runScript_0 rfl (lv_at hl 1 rfl) ?_
  refine lv_iconst (v := 1) B.1 B.2.1 dX7_runScript_1 (by decide) ?_
  refine lv_iconst (v := 2) B.1 B.2.1 dX7_runScript_2 (by decide) ?_
  refine c_S_I (own := RX7) (As := [.int a1, .int 1, .int 2]) (rest := []) B hH (cy_X7_outside B.2.2.2.2.1) (ct_X7_outside B.2.2.2.2.2.2.2 l a1 1 2 h _ _  hw) ⟨⟨rfl, rfl⟩, Nat.le_of_ble_eq_true rfl, Nat.le_of_ble_eq_true rfl, Nat.le_of_ble_eq_true rfl, Nat.le_of_ble_eq_true rfl⟩ (tw_361 B.2.2.2.2.1) rfl hl.1 rfl (Nat.le_of_ble_eq_true rfl) dX7_runScript_3 ?_
  clear hw hH
  intro r2 h1 H locs hw hH
  refine lv_if_eq (tgt := 19) B.1 B.2.1 dX7_runScript_6 (by decide) (fun c3 => ?_) (fun c3 => ?_)
  · replace hw := hw.1 c3
    refine lv_iload_n B.1 B.2.1 dX7_runScript_19 rfl (lv_at hl 1 rfl) ?_
    refine lv_iconst (v := 1) B.1 B.2.1 dX7_runScript_20 (by decide) ?_
    refine lv_icmp_ne (tgt := 30) B.1 B.2.1 dX7_runScript_21 (by decide) (fun c4 => ?_) (fun c4 => ?_)
    · replace hw := hw.1 c4
      refine lv_ldc2 (own := RX7) B.1 B.2.1 B.2.2.2.1 (tw_903 B.2.2.2.2.1) dX7_runScript_30 ?_
      refine lv_lstore (lv' := [(4, .long 100000000000000), (0, .ref (zA Z a0)), (1, .int a1), (2, .long a2)]) B.1 B.2.1 dX7_runScript_33 hl (by decide) (by first | rfl | simp [va_re_cat, Value.category]) ?_
      clear hl
      intro ls hl
      refine lv_lload_n B.1 B.2.1 dX7_runScript_35 rfl (lv_at hl 3 rfl) ?_
      refine lv_lconst (v := 0) B.1 B.2.1 dX7_runScript_36 (by decide) ?_
      refine W.lcmp B.1 B.2.1 dX7_runScript_37 ?_
      refine lv_if_lt (tgt := 48) B.1 B.2.1 dX7_runScript_38 (by decide) (fun c5 => ?_) (fun c5 => ?_)
      · replace hw := hw.1 c5
        exact r_thIAEW B hH hB hT (is := 277) (text := "the script is negative or has too many digits") (tw_362 B.2.2.2.2.1) (tw_12 B.2.2.2.2.1) (by decide +kernel) hl.1 dX7_runScript_48 dX7_runScript_51 dX7_runScript_52 dX7_runScript_55 dX7_runScript_58 (Nat.le_of_ble_eq_true rfl) (Nat.le_of_ble_eq_true rfl) (Nat.le_of_ble_eq_true rfl) (Nat.le_of_ble_eq_true rfl) hw (Nat.le_of_ble_eq_true rfl) (Nat.le_of_ble_eq_true rfl)
      · replace hw := hw.2 c5
        refine lv_lload_n B.1 B.2.1 dX7_runScript_41 rfl (lv_at hl 3 rfl) ?_
        refine lv_lload B.1 B.2.1 dX7_runScript_42 (lv_at hl 0 rfl) ?_
        refine W.lcmp B.1 B.2.1 dX7_runScript_44 ?_
        refine lv_if_lt (tgt := 59) B.1 B.2.1 dX7_runScript_45 (by decide) (fun c6 => ?_) (fun c6 => ?_)
        · replace hw := hw.1 c6
          refine lv_aload_n B.1 B.2.1 dX7_runScript_59 rfl (lv_at hl 1 rfl) ?_
          refine r_get B hH (own := RX7) (kd_n B (k0) (by decide) (by decide)) (ct_1 (k0)) rfl (ul_1 B.2.2.2.2.1) 1 (by decide) rfl (tw_183 B.2.2.2.2.1) dX7_runScript_60 ?_
          refine lv_aload_n B.1 B.2.1 dX7_runScript_63 rfl (lv_at hl 1 rfl) ?_
          refine r_get B hH (own := RX7) (kd_n B (k0) (by decide) (by decide)) (ct_1 (k0)) rfl (ul_1 B.2.2.2.2.1) 0 (by decide) rfl (tw_182 B.2.2.2.2.1) dX7_runScript_64 ?_
          refine c_VN_V (own := RX7) (As := [.ref (zA Z (a0 + 1))]) (rest := []) B hH (cy_X5_copyFrom B.2.2.2.2.1) (ct_X5_copyFrom B.2.2.2.2.2.2.2 l (a0 + 22) (a0 + 1) h1 _ _ (kf_1_1 (k0)) (kf_1_0 (k0)) hw) ⟨⟨rfl, rfl⟩, Nat.le_of_ble_eq_true rfl, Nat.le_of_ble_eq_true rfl, Nat.le_of_ble_eq_true rfl, Nat.le_of_ble_eq_true rfl⟩ (rv_2 B hH (kf_1_1 (k0))) (tw_905 B.2.2.2.2.1) rfl hl.1 rfl (Nat.le_of_ble_eq_true rfl) dX7_runScript_67 ?_
          clear hw hH
          intro h7 H locs hw hH
          refine lv_lload_n B.1 B.2.1 dX7_runScript_70 rfl (lv_at hl 3 rfl) ?_
          refine lv_ldc2 (own := RX7) B.1 B.2.1 B.2.2.2.1 (tw_902 B.2.2.2.2.1) dX7_runScript_71 ?_
          refine x_lrem B dX7_runScript_74 (by decide) ?_
          refine lv_l2i B.1 B.2.1 dX7_runScript_75 rfl ?_
          refine lv_topi (fun x8 ex8 => ?_)
          replace hw := hw x8 ex8
          refine lv_istore (lv' := [(6, .int x8), (4, .long 100000000000000), (0, .ref (zA Z a0)), (1, .int a1), (2, .long a2)]) B.1 B.2.1 dX7_runScript_76 hl (by decide) (by first | rfl | simp [va_re_cat, Value.category]) ?_
          clear hl
          intro ls hl
          refine lv_iload_n B.1 B.2.1 dX7_runScript_78 rfl (lv_at hl 3 rfl) ?_
          refine lv_iconst (v := 1) B.1 B.2.1 dX7_runScript_79 (by decide) ?_
          refine lv_icmp_ne (tgt := 101) B.1 B.2.1 dX7_runScript_80 (by decide) (fun c9 => ?_) (fun c9 => ?_)
          · replace hw := hw.1 c9
            refine lv_aload_n B.1 B.2.1 dX7_runScript_101 rfl (lv_at hl 2 rfl) ?_
            refine r_get B hH (own := RX7) (kd_n B (k0) (by decide) (by decide)) (ct_1 (k0)) rfl (ul_1 B.2.2.2.2.1) 1 (by decide) rfl (tw_183 B.2.2.2.2.1) dX7_runScript_102 ?_
            refine lv_lload_n B.1 B.2.1 dX7_runScript_105 rfl (lv_at hl 4 rfl) ?_
            refine lv_ldc2 (own := RX7) B.1 B.2.1 B.2.2.2.1 (tw_902 B.2.2.2.2.1) dX7_runScript_106 ?_
            refine lv_ldiv B.1 B.2.1 dX7_runScript_109 (by decide) ?_
            refine lv_l2i B.1 B.2.1 dX7_runScript_110 rfl ?_
            refine c_VN_I (own := RX7) (As := [.int ((a2 / 10000000).toInt32)]) (rest := []) B hH (cy_X5_obeys B.2.2.2.2.1) (ct_X5_obeys B.2.2.2.2.2.2.2 l (a0 + 22) ((a2 / 10000000).toInt32) h7 _ _ (kf_1_1 (k0)) hw) ⟨⟨rfl, rfl⟩, Nat.le_of_ble_eq_true rfl, Nat.le_of_ble_eq_true rfl, Nat.le_of_ble_eq_true rfl, Nat.le_of_ble_eq_true rfl⟩ (rv_2 B hH (kf_1_1 (k0))) (tw_906 B.2.2.2.2.1) rfl hl.1 rfl (Nat.le_of_ble_eq_true rfl) dX7_runScript_111 ?_
            clear hw hH
            intro r11 h10 H locs hw hH
            refine lv_if_ne (tgt := 119) B.1 B.2.1 dX7_runScript_114 (by decide) (fun c12 => ?_) (fun c12 => ?_)
            · replace hw := hw.1 c12
              refine lv_aload_n B.1 B.2.1 dX7_runScript_119 rfl (lv_at hl 2 rfl) ?_
              refine r_get B hH (own := RX7) (kd_n B (k0) (by decide) (by decide)) (ct_1 (k0)) rfl (ul_1 B.2.2.2.2.1) 1 (by decide) rfl (tw_183 B.2.2.2.2.1) dX7_runScript_120 ?_
              refine lv_iload B.1 B.2.1 dX7_runScript_123 (lv_at hl 0 rfl) ?_
              refine c_VN_I (own := RX7) (As := [.int x8]) (rest := []) B hH (cy_X5_obeys B.2.2.2.2.1) (ct_X5_obeys B.2.2.2.2.2.2.2 l (a0 + 22) x8 h10 _ _ (kf_1_1 (k0)) hw) ⟨⟨rfl, rfl⟩, Nat.le_of_ble_eq_true rfl, Nat.le_of_ble_eq_true rfl, Nat.le_of_ble_eq_true rfl, Nat.le_of_ble_eq_true rfl⟩ (rv_2 B hH (kf_1_1 (k0))) (tw_906 B.2.2.2.2.1) rfl hl.1 rfl (Nat.le_of_ble_eq_true rfl) dX7_runScript_125 ?_
              clear hw hH
              intro r14 h13 H locs hw hH
              refine lv_if_eq (tgt := 135) B.1 B.2.1 dX7_runScript_128 (by decide) (fun c15 => ?_) (fun c15 => ?_)
              · replace hw := hw.1 c15
                refine lv_iconst (v := 1) B.1 B.2.1 dX7_runScript_135 (by decide) ?_
                exact e_xi B hr hH hw dX7_runScript_136 (Nat.le_of_ble_eq_true rfl) (Nat.le_of_ble_eq_true rfl)
              · replace hw := hw.2 c15
                refine lv_iconst (v := (-1)) B.1 B.2.1 dX7_runScript_131 (by decide) ?_
                refine lv_goto (tgt := 136) B.1 B.2.1 dX7_runScript_132 (by decide) ?_
                exact e_xi B hr hH hw dX7_runScript_136 (Nat.le_of_ble_eq_true rfl) (Nat.le_of_ble_eq_true rfl)
            · replace hw := hw.2 c12
              refine lv_iconst (v := 0) B.1 B.2.1 dX7_runScript_117 (by decide) ?_
              exact e_xi B hr hH hw dX7_runScript_118 (Nat.le_of_ble_eq_true rfl) (Nat.le_of_ble_eq_true rfl)
          · replace hw := hw.2 c9
            refine lv_aload_n B.1 B.2.1 dX7_runScript_83 rfl (lv_at hl 2 rfl) ?_
            refine r_get B hH (own := RX7) (kd_n B (k0) (by decide) (by decide)) (ct_1 (k0)) rfl (ul_1 B.2.2.2.2.1) 1 (by decide) rfl (tw_183 B.2.2.2.2.1) dX7_runScript_84 ?_
            refine lv_iload B.1 B.2.1 dX7_runScript_87 (lv_at hl 0 rfl) ?_
            refine c_VN_I (own := RX7) (As := [.int x8]) (rest := []) B hH (cy_X5_obeys B.2.2.2.2.1) (ct_X5_obeys B.2.2.2.2.2.2.2 l (a0 + 22) x8 h7 _ _ (kf_1_1 (k0)) hw) ⟨⟨rfl, rfl⟩, Nat.le_of_ble_eq_true rfl, Nat.le_of_ble_eq_true rfl, Nat.le_of_ble_eq_true rfl, Nat.le_of_ble_eq_true rfl⟩ (rv_2 B hH (kf_1_1 (k0))) (tw_906 B.2.2.2.2.1) rfl hl.1 rfl (Nat.le_of_ble_eq_true rfl) dX7_runScript_89 ?_
            clear hw hH
            intro r17 h16 H locs hw hH
            refine lv_if_eq (tgt := 99) B.1 B.2.1 dX7_runScript_92 (by decide) (fun c18 => ?_) (fun c18 => ?_)
            · replace hw := hw.1 c18
              refine lv_iconst (v := 0) B.1 B.2.1 dX7_runScript_99 (by decide) ?_
              exact e_xi B hr hH hw dX7_runScript_100 (Nat.le_of_ble_eq_true rfl) (Nat.le_of_ble_eq_true rfl)
            · replace hw := hw.2 c18
              refine lv_iconst (v := (-1)) B.1 B.2.1 dX7_runScript_95 (by decide) ?_
              refine lv_goto (tgt := 100) B.1 B.2.1 dX7_runScript_96 (by decide) ?_
              exact e_xi B hr hH hw dX7_runScript_100 (Nat.le_of_ble_eq_true rfl) (Nat.le_of_ble_eq_true rfl)
        · replace hw := hw.2 c6
          exact r_thIAEW B hH hB hT (is := 277) (text := "the script is negative or has too many digits") (tw_362 B.2.2.2.2.1) (tw_12 B.2.2.2.2.1) (by decide +kernel) hl.1 dX7_runScript_48 dX7_runScript_51 dX7_runScript_52 dX7_runScript_55 dX7_runScript_58 (Nat.le_of_ble_eq_true rfl) (Nat.le_of_ble_eq_true rfl) (Nat.le_of_ble_eq_true rfl) (Nat.le_of_ble_eq_true rfl) hw (Nat.le_of_ble_eq_true rfl) (Nat.le_of_ble_eq_true rfl)
    · replace hw := hw.2 c4
      refine lv_ldc2 (own := RX7) B.1 B.2.1 B.2.2.2.1 (tw_902 B.2.2.2.2.1) dX7_runScript_24 ?_
      refine lv_goto (tgt := 33) B.1 B.2.1 dX7_runScript_27 (by decide) ?_
      refine lv_lstore (lv' := [(4, .long 10000000), (0, .ref (zA Z a0)), (1, .int a1), (2, .long a2)]) B.1 B.2.1 dX7_runScript_33 hl (by decide) (by first | rfl | simp [va_re_cat, Value.category]) ?_
      clear hl
      intro ls hl
      refine lv_lload_n B.1 B.2.1 dX7_runScript_35 rfl (lv_at hl 3 rfl) ?_
      refine lv_lconst (v := 0) B.1 B.2.1 dX7_runScript_36 (by decide) ?_
      refine W.lcmp B.1 B.2.1 dX7_runScript_37 ?_
      refine lv_if_lt (tgt := 48) B.1 B.2.1 dX7_runScript_38 (by decide) (fun c19 => ?_) (fun c19 => ?_)
      · replace hw := hw.1 c19
        exact r_thIAEW B hH hB hT (is := 277) (text := "the script is negative or has too many digits") (tw_362 B.2.2.2.2.1) (tw_12 B.2.2.2.2.1) (by decide +kernel) hl.1 dX7_runScript_48 dX7_runScript_51 dX7_runScript_52 dX7_runScript_55 dX7_runScript_58 (Nat.le_of_ble_eq_true rfl) (Nat.le_of_ble_eq_true rfl) (Nat.le_of_ble_eq_true rfl) (Nat.le_of_ble_eq_true rfl) hw (Nat.le_of_ble_eq_true rfl) (Nat.le_of_ble_eq_true rfl)
      · replace hw := hw.2 c19
        refine lv_lload_n B.1 B.2.1 dX7_runScript_41 rfl (lv_at hl 3 rfl) ?_
        refine lv_lload B.1 B.2.1 dX7_runScript_42 (lv_at hl 0 rfl) ?_
        refine W.lcmp B.1 B.2.1 dX7_runScript_44 ?_
        refine lv_if_lt (tgt := 59) B.1 B.2.1 dX7_runScript_45 (by decide) (fun c20 => ?_) (fun c20 => ?_)
        · replace hw := hw.1 c20
          refine lv_aload_n B.1 B.2.1 dX7_runScript_59 rfl (lv_at hl 1 rfl) ?_
          refine r_get B hH (own := RX7) (kd_n B (k0) (by decide) (by decide)) (ct_1 (k0)) rfl (ul_1 B.2.2.2.2.1) 1 (by decide) rfl (tw_183 B.2.2.2.2.1) dX7_runScript_60 ?_
          refine lv_aload_n B.1 B.2.1 dX7_runScript_63 rfl (lv_at hl 1 rfl) ?_
          refine r_get B hH (own := RX7) (kd_n B (k0) (by decide) (by decide)) (ct_1 (k0)) rfl (ul_1 B.2.2.2.2.1) 0 (by decide) rfl (tw_182 B.2.2.2.2.1) dX7_runScript_64 ?_
          refine c_VN_V (own := RX7) (As := [.ref (zA Z (a0 + 1))]) (rest := []) B hH (cy_X5_copyFrom B.2.2.2.2.1) (ct_X5_copyFrom B.2.2.2.2.2.2.2 l (a0 + 22) (a0 + 1) h1 _ _ (kf_1_1 (k0)) (kf_1_0 (k0)) hw) ⟨⟨rfl, rfl⟩, Nat.le_of_ble_eq_true rfl, Nat.le_of_ble_eq_true rfl, Nat.le_of_ble_eq_true rfl, Nat.le_of_ble_eq_true rfl⟩ (rv_2 B hH (kf_1_1 (k0))) (tw_905 B.2.2.2.2.1) rfl hl.1 rfl (Nat.le_of_ble_eq_true rfl) dX7_runScript_67 ?_
          clear hw hH
          intro h21 H locs hw hH
          refine lv_lload_n B.1 B.2.1 dX7_runScript_70 rfl (lv_at hl 3 rfl) ?_
          refine lv_ldc2 (own := RX7) B.1 B.2.1 B.2.2.2.1 (tw_902 B.2.2.2.2.1) dX7_runScript_71 ?_
          refine x_lrem B dX7_runScript_74 (by decide) ?_
          refine lv_l2i B.1 B.2.1 dX7_runScript_75 rfl ?_
          refine lv_topi (fun x22 ex22 => ?_)
          replace hw := hw x22 ex22
          refine lv_istore (lv' := [(6, .int x22), (4, .long 10000000), (0, .ref (zA Z a0)), (1, .int a1), (2, .long a2)]) B.1 B.2.1 dX7_runScript_76 hl (by decide) (by first | rfl | simp [va_re_cat, Value.category]) ?_
          clear hl
          intro ls hl
          refine lv_iload_n B.1 B.2.1 dX7_runScript_78 rfl (lv_at hl 3 rfl) ?_
          refine lv_iconst (v := 1) B.1 B.2.1 dX7_runScript_79 (by decide) ?_
          refine lv_icmp_ne (tgt := 101) B.1 B.2.1 dX7_runScript_80 (by decide) (fun c23 => ?_) (fun c23 => ?_)
          · replace hw := hw.1 c23
            refine lv_aload_n B.1 B.2.1 dX7_runScript_101 rfl (lv_at hl 2 rfl) ?_
            refine r_get B hH (own := RX7) (kd_n B (k0) (by decide) (by decide)) (ct_1 (k0)) rfl (ul_1 B.2.2.2.2.1) 1 (by decide) rfl (tw_183 B.2.2.2.2.1) dX7_runScript_102 ?_
            refine lv_lload_n B.1 B.2.1 dX7_runScript_105 rfl (lv_at hl 4 rfl) ?_
            refine lv_ldc2 (own := RX7) B.1 B.2.1 B.2.2.2.1 (tw_902 B.2.2.2.2.1) dX7_runScript_106 ?_
            refine lv_ldiv B.1 B.2.1 dX7_runScript_109 (by decide) ?_
            refine lv_l2i B.1 B.2.1 dX7_runScript_110 rfl ?_
            refine c_VN_I (own := RX7) (As := [.int ((a2 / 10000000).toInt32)]) (rest := []) B hH (cy_X5_obeys B.2.2.2.2.1) (ct_X5_obeys B.2.2.2.2.2.2.2 l (a0 + 22) ((a2 / 10000000).toInt32) h21 _ _ (kf_1_1 (k0)) hw) ⟨⟨rfl, rfl⟩, Nat.le_of_ble_eq_true rfl, Nat.le_of_ble_eq_true rfl, Nat.le_of_ble_eq_true rfl, Nat.le_of_ble_eq_true rfl⟩ (rv_2 B hH (kf_1_1 (k0))) (tw_906 B.2.2.2.2.1) rfl hl.1 rfl (Nat.le_of_ble_eq_true rfl) dX7_runScript_111 ?_
            clear hw hH
            intro r25 h24 H locs hw hH
            refine lv_if_ne (tgt := 119) B.1 B.2.1 dX7_runScript_114 (by decide) (fun c26 => ?_) (fun c26 => ?_)
            · replace hw := hw.1 c26
              refine lv_aload_n B.1 B.2.1 dX7_runScript_119 rfl (lv_at hl 2 rfl) ?_
              refine r_get B hH (own := RX7) (kd_n B (k0) (by decide) (by decide)) (ct_1 (k0)) rfl (ul_1 B.2.2.2.2.1) 1 (by decide) rfl (tw_183 B.2.2.2.2.1) dX7_runScript_120 ?_
              refine lv_iload B.1 B.2.1 dX7_runScript_123 (lv_at hl 0 rfl) ?_
              refine c_VN_I (own := RX7) (As := [.int x22]) (rest := []) B hH (cy_X5_obeys B.2.2.2.2.1) (ct_X5_obeys B.2.2.2.2.2.2.2 l (a0 + 22) x22 h24 _ _ (kf_1_1 (k0)) hw) ⟨⟨rfl, rfl⟩, Nat.le_of_ble_eq_true rfl, Nat.le_of_ble_eq_true rfl, Nat.le_of_ble_eq_true rfl, Nat.le_of_ble_eq_true rfl⟩ (rv_2 B hH (kf_1_1 (k0))) (tw_906 B.2.2.2.2.1) rfl hl.1 rfl (Nat.le_of_ble_eq_true rfl) dX7_runScript_125 ?_
              clear hw hH
              intro r28 h27 H locs hw hH
              refine lv_if_eq (tgt := 135) B.1 B.2.1 dX7_runScript_128 (by decide) (fun c29 => ?_) (fun c29 => ?_)
              · replace hw := hw.1 c29
                refine lv_iconst (v := 1) B.1 B.2.1 dX7_runScript_135 (by decide) ?_
                exact e_xi B hr hH hw dX7_runScript_136 (Nat.le_of_ble_eq_true rfl) (Nat.le_of_ble_eq_true rfl)
              · replace hw := hw.2 c29
                refine lv_iconst (v := (-1)) B.1 B.2.1 dX7_runScript_131 (by decide) ?_
                refine lv_goto (tgt := 136) B.1 B.2.1 dX7_runScript_132 (by decide) ?_
                exact e_xi B hr hH hw dX7_runScript_136 (Nat.le_of_ble_eq_true rfl) (Nat.le_of_ble_eq_true rfl)
            · replace hw := hw.2 c26
              refine lv_iconst (v := 0) B.1 B.2.1 dX7_runScript_117 (by decide) ?_
              exact e_xi B hr hH hw dX7_runScript_118 (Nat.le_of_ble_eq_true rfl) (Nat.le_of_ble_eq_true rfl)
          · replace hw := hw.2 c23
            refine lv_aload_n B.1 B.2.1 dX7_runScript_83 rfl (lv_at hl 2 rfl) ?_
            refine r_get B hH (own := RX7) (kd_n B (k0) (by decide) (by decide)) (ct_1 (k0)) rfl (ul_1 B.2.2.2.2.1) 1 (by decide) rfl (tw_183 B.2.2.2.2.1) dX7_runScript_84 ?_
            refine lv_iload B.1 B.2.1 dX7_runScript_87 (lv_at hl 0 rfl) ?_
            refine c_VN_I (own := RX7) (As := [.int x22]) (rest := []) B hH (cy_X5_obeys B.2.2.2.2.1) (ct_X5_obeys B.2.2.2.2.2.2.2 l (a0 + 22) x22 h21 _ _ (kf_1_1 (k0)) hw) ⟨⟨rfl, rfl⟩, Nat.le_of_ble_eq_true rfl, Nat.le_of_ble_eq_true rfl, Nat.le_of_ble_eq_true rfl, Nat.le_of_ble_eq_true rfl⟩ (rv_2 B hH (kf_1_1 (k0))) (tw_906 B.2.2.2.2.1) rfl hl.1 rfl (Nat.le_of_ble_eq_true rfl) dX7_runScript_89 ?_
            clear hw hH
            intro r31 h30 H locs hw hH
            refine lv_if_eq (tgt := 99) B.1 B.2.1 dX7_runScript_92 (by decide) (fun c32 => ?_) (fun c32 => ?_)
            · replace hw := hw.1 c32
              refine lv_iconst (v := 0) B.1 B.2.1 dX7_runScript_99 (by decide) ?_
              exact e_xi B hr hH hw dX7_runScript_100 (Nat.le_of_ble_eq_true rfl) (Nat.le_of_ble_eq_true rfl)
            · replace hw := hw.2 c32
              refine lv_iconst (v := (-1)) B.1 B.2.1 dX7_runScript_95 (by decide) ?_
              refine lv_goto (tgt := 100) B.1 B.2.1 dX7_runScript_96 (by decide) ?_
              exact e_xi B hr hH hw dX7_runScript_100 (Nat.le_of_ble_eq_true rfl) (Nat.le_of_ble_eq_true rfl)
        · replace hw := hw.2 c20
          exact r_thIAEW B hH hB hT (is := 277) (text := "the script is negative or has too many digits") (tw_362 B.2.2.2.2.1) (tw_12 B.2.2.2.2.1) (by decide +kernel) hl.1 dX7_runScript_48 dX7_runScript_51 dX7_runScript_52 dX7_runScript_55 dX7_runScript_58 (Nat.le_of_ble_eq_true rfl) (Nat.le_of_ble_eq_true rfl) (Nat.le_of_ble_eq_true rfl) (Nat.le_of_ble_eq_true rfl) hw (Nat.le_of_ble_eq_true rfl) (Nat.le_of_ble_eq_true rfl)
  · replace hw := hw.2 c3
    exact r_thIAE B hH hB hT (is := 251) (text := "n is out of range") (tw_362 B.2.2.2.2.1) (tw_12 B.2.2.2.2.1) (by decide +kernel) hl.1 dX7_runScript_9 dX7_runScript_12 dX7_runScript_13 dX7_runScript_15 dX7_runScript_18 (Nat.le_of_ble_eq_true rfl) (Nat.le_of_ble_eq_true rfl) (Nat.le_of_ble_eq_true rfl) (Nat.le_of_ble_eq_true rfl) hw (Nat.le_of_ble_eq_true rfl) (Nat.le_of_ble_eq_true rfl)
