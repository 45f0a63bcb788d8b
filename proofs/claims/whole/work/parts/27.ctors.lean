theorem tg_8 {U : State} {A : Array Value} (h : GG U) : (Cond.initialized RX8).before A U = true := h.use (List.mem_append_right _ (List.mem_of_getElem? (i := 8) (by decide +kernel))) (by decide +kernel)
theorem tg_960 {U : State} {A : Array Value} (h : GG U) : (Cond.instanceMethod yX8_init).before A U = true := h.use (List.mem_append_right _ (List.mem_of_getElem? (i := 960) (by decide +kernel))) (by decide +kernel)
theorem tg_961 {U : State} {A : Array Value} (h : GG U) : (Cond.code yX8_init cX8_init 1 none).before A U = true := h.use (List.mem_append_right _ (List.mem_of_getElem? (i := 961) (by decide +kernel))) (by decide +kernel)
theorem tg_962 {U : State} {A : Array Value} (h : GG U) : (Cond.methodLink RX8 1 objectInit).before A U = true := h.use (List.mem_append_right _ (List.mem_of_getElem? (i := 962) (by decide +kernel))) (by decide +kernel)
theorem tg_963 {U : State} {A : Array Value} (h : GG U) : (Cond.methodLink RX8 29 yX8_clear).before A U = true := h.use (List.mem_append_right _ (List.mem_of_getElem? (i := 963) (by decide +kernel))) (by decide +kernel)
theorem tg_967 {U : State} {A : Array Value} (h : GG U) : (Cond.fieldLink RX8 7 (TX8 1).1 (TX8 1).2.1 (TX8 1).2.2.1).before A U = true := h.use (List.mem_append_right _ (List.mem_of_getElem? (i := 967) (by decide +kernel))) (by decide +kernel)
theorem tg_969 {U : State} {A : Array Value} (h : GG U) : (Cond.fieldLink RX8 13 (TX8 3).1 (TX8 3).2.1 (TX8 3).2.2.1).before A U = true := h.use (List.mem_append_right _ (List.mem_of_getElem? (i := 969) (by decide +kernel))) (by decide +kernel)
theorem tg_970 {U : State} {A : Array Value} (h : GG U) : (Cond.fieldLink RX8 16 (TX8 4).1 (TX8 4).2.1 (TX8 4).2.2.1).before A U = true := h.use (List.mem_append_right _ (List.mem_of_getElem? (i := 970) (by decide +kernel))) (by decide +kernel)
theorem tg_971 {U : State} {A : Array Value} (h : GG U) : (Cond.fieldLink RX8 19 (TX8 5).1 (TX8 5).2.1 (TX8 5).2.2.1).before A U = true := h.use (List.mem_append_right _ (List.mem_of_getElem? (i := 971) (by decide +kernel))) (by decide +kernel)
theorem tg_973 {U : State} {A : Array Value} (h : GG U) : (Cond.fieldLink RX8 22 (TX8 7).1 (TX8 7).2.1 (TX8 7).2.2.1).before A U = true := h.use (List.mem_append_right _ (List.mem_of_getElem? (i := 973) (by decide +kernel))) (by decide +kernel)
theorem tg_974 {U : State} {A : Array Value} (h : GG U) : (Cond.fieldLink RX8 25 (TX8 8).1 (TX8 8).2.1 (TX8 8).2.2.1).before A U = true := h.use (List.mem_append_right _ (List.mem_of_getElem? (i := 974) (by decide +kernel))) (by decide +kernel)
theorem kdo_8_1 {k : Nat} (e : kd k = 8) : kd (k + 1) = 10 := (by decide +kernel : ∀ k, k < 352 → kd k = 8 → kd (k + 1) = 10) k (kd_lt e (by decide)) e
theorem kdo_8_2 {k : Nat} (e : kd k = 8) : kd (k + 2) = 10 := (by decide +kernel : ∀ k, k < 352 → kd k = 8 → kd (k + 2) = 10) k (kd_lt e (by decide)) e
theorem kdo_8_3 {k : Nat} (e : kd k = 8) : kd (k + 3) = 10 := (by decide +kernel : ∀ k, k < 352 → kd k = 8 → kd (k + 3) = 10) k (kd_lt e (by decide)) e
theorem kdo_8_4 {k : Nat} (e : kd k = 8) : kd (k + 4) = 10 := (by decide +kernel : ∀ k, k < 352 → kd k = 8 → kd (k + 4) = 10) k (kd_lt e (by decide)) e
theorem kdo_8_5 {k : Nat} (e : kd k = 8) : kd (k + 5) = 10 := (by decide +kernel : ∀ k, k < 352 → kd k = 8 → kd (k + 5) = 10) k (kd_lt e (by decide)) e
theorem kdo_8_6 {k : Nat} (e : kd k = 8) : kd (k + 6) = 11 := (by decide +kernel : ∀ k, k < 352 → kd k = 8 → kd (k + 6) = 11) k (kd_lt e (by decide)) e
theorem alo_8_1 {k : Nat} (e : kd k = 8) : al (k + 1) = 120 := (by decide +kernel : ∀ k, k < 352 → kd k = 8 → al (k + 1) = 120) k (kd_lt e (by decide)) e
theorem alo_8_2 {k : Nat} (e : kd k = 8) : al (k + 2) = 427 := (by decide +kernel : ∀ k, k < 352 → kd k = 8 → al (k + 2) = 427) k (kd_lt e (by decide)) e
theorem alo_8_3 {k : Nat} (e : kd k = 8) : al (k + 3) = 427 := (by decide +kernel : ∀ k, k < 352 → kd k = 8 → al (k + 3) = 427) k (kd_lt e (by decide)) e
theorem alo_8_4 {k : Nat} (e : kd k = 8) : al (k + 4) = 5124 := (by decide +kernel : ∀ k, k < 352 → kd k = 8 → al (k + 4) = 5124) k (kd_lt e (by decide)) e
theorem alo_8_5 {k : Nat} (e : kd k = 8) : al (k + 5) = 854 := (by decide +kernel : ∀ k, k < 352 → kd k = 8 → al (k + 5) = 854) k (kd_lt e (by decide)) e
theorem alo_8_6 {k : Nat} (e : kd k = 8) : al (k + 6) = 2 := (by decide +kernel : ∀ k, k < 352 → kd k = 8 → al (k + 6) = 2) k (kd_lt e (by decide)) e
theorem cy_X8_init {s : State} {args : Array Value} (hG : GG s) : CYI s args yX8_init cX8_init 1 := CYI.of hG (fun _ _ hG => tg_961 hG) (tg_8 hG) (tg_960 hG) rfl (by decide +kernel)
set_option maxRecDepth 100000 in
set_option maxHeartbeats 4000000 in
theorem ci_X8_init {Z : ZT} (l : Launch) (a0 : Nat → Nat) (c0 : Nat → va_E) (k sz x : Nat) (hk : kd k = 8) (hk344 : k = 344) (hx0 : a0 k = x) (hc0 : c0 k = .inr (7, [.int 0, .null, .int 0, .null, .null, .null, .int 0, .null, .null, .int 0, .int 0])) (hfb0 : FB Z a0 c0 0 k) (Q9 : PH → Prop) (hw : wp_X8_clear 346 (fun _ _ => 0) Q9) : Met l yX8_init [.code yX8_init cX8_init 1 none] ({ frames := 1, cells := 6, slots := 6954, locals := 21 } : Room) (PcG Z sz a0 c0 (k + 1) [.ref x]) (va_Qv (fun u : (Nat → Nat) × PH => (∀ j, j < k + 1 → u.1 j = a0 j) ∧ Q9 u.2 ∧ ∀ j, j < k + 7 → fg a0 (k + 1) sz (u.1 j)) (fun u t => va_P Z.1 vwCl (wl (Z.1, Z.2.1, u.1, 351) u.2) t.heap ∧ ij u.1 (k + 7)) (fg a0 (k + 1) sz)) 6 6954 (fg a0 (k + 1) sz) := by
  refine open_G (by decide +kernel) (by exact Nat.le_of_ble_eq_true rfl) ?_
  intro p e s m below meth cd B hr hnm hsz ls hl hH
  subst hsz
  have hl : lv_has ls 1 [(0, .ref x)] := hl
  have hA : ∀ q, s.heap.size ≤ q → fg a0 (k + 1) s.heap.size q := fun q h => Or.inr h
  obtain ⟨a, c, la, lc, hx, hc, hH⟩ : ∃ (a : Nat → Nat) (c : Nat → va_E), (∀ j, j < k + 1 → a j = a0 j) ∧ (∀ j, j < k → c j = c0 j) ∧ a k = x ∧ c k = .inr (7, [.int 0, .null, .int 0, .null, .null, .null, .int 0, .null, .null, .int 0, .int 0]) ∧ GH Z s (fg a0 (k + 1) s.heap.size) a c (k + 1) s.heap [] := ⟨a0, c0, fun _ _ => rfl, fun _ _ => rfl, hx0, hc0, hH⟩
  refine lv_aload_n B.1 B.2.1 dX8_init_0 rfl (lv_at hl 0 rfl) ?_
  refine g_obj B (tg_962 B.2.2.2.2.1) (tg_28 B.2.2.2.2.1) (tg_29 B.2.2.2.2.1) hl.1 dX8_init_1 (Nat.le_of_ble_eq_true rfl) (Nat.le_of_ble_eq_true rfl) ?_
  refine lv_aload_n B.1 B.2.1 dX8_init_4 rfl (lv_at hl 0 rfl) ?_
  refine lv_bipush (v := 120) B.1 B.2.1 dX8_init_5 (by decide) ?_
  refine g_newi B hH hA (N' := 120) (by decide) (by decide) (Nat.le_of_ble_eq_true rfl) (Nat.le_of_ble_eq_true rfl) (Nat.le_of_ble_eq_true rfl) dX8_init_7 ?_
  clear hH
  intro q1 a1 c1 H e1 e2 e3 e4 hH
  have hH : GH Z s _ a1 c1 (k + 2) H _ := hH
  replace la := fun (j : Nat) (h : j < k + 1) => (e1 j (by omega)).trans (la j h)
  replace lc := fun (j : Nat) (h : j < k) => (e2 j (by omega)).trans (lc j h)
  replace hx := (e1 k (by omega)).trans hx
  replace hc := (e2 k (by omega)).trans hc
  have ha1 : a1 (k + 1) = q1 := e3
  have hc1 := e4
  refine g_putF (own := RX8) B hH (by omega) hx hc rfl (ul_8 B.2.2.2.2.1) tyX8 tyX8_ok nmX8 1 (by decide) (ty := .array .int) (by decide +kernel) rfl rfl rfl (Nat.le_of_ble_eq_true rfl) hnm rfl (tg_967 B.2.2.2.2.1) dX8_init_9 ?_
  clear hH
  intro c2 H locs e4 e2 hH
  skip
  replace lc := fun (j : Nat) (h : j < k) => (e2 j (by omega)).trans (lc j h)
  replace hc1 := (e2 (k + 1) (by omega)).trans hc1
  clear hc
  have hc := e4
  refine lv_aload_n B.1 B.2.1 dX8_init_12 rfl (lv_at hl 0 rfl) ?_
  refine lv_sipush (v := 427) B.1 B.2.1 dX8_init_13 (by decide) ?_
  refine g_newi B hH hA (N' := 427) (by decide) (by decide) (Nat.le_of_ble_eq_true rfl) (Nat.le_of_ble_eq_true rfl) (Nat.le_of_ble_eq_true rfl) dX8_init_16 ?_
  clear hH
  intro q2 a3 c3 H e1 e2 e3 e4 hH
  have hH : GH Z s _ a3 c3 (k + 3) H _ := hH
  replace la := fun (j : Nat) (h : j < k + 1) => (e1 j (by omega)).trans (la j h)
  replace lc := fun (j : Nat) (h : j < k) => (e2 j (by omega)).trans (lc j h)
  replace hx := (e1 k (by omega)).trans hx
  replace ha1 := (e1 (k + 1) (by omega)).trans ha1
  replace hc1 := (e2 (k + 1) (by omega)).trans hc1
  replace hc := (e2 k (by omega)).trans hc
  have ha2 : a3 (k + 2) = q2 := e3
  have hc2 := e4
  refine g_putF (own := RX8) B hH (by omega) hx hc rfl (ul_8 B.2.2.2.2.1) tyX8 tyX8_ok nmX8 3 (by decide) (ty := .array .int) (by decide +kernel) rfl rfl rfl (Nat.le_of_ble_eq_true rfl) hnm rfl (tg_969 B.2.2.2.2.1) dX8_init_18 ?_
  clear hH
  intro c4 H locs e4 e2 hH
  skip
  replace lc := fun (j : Nat) (h : j < k) => (e2 j (by omega)).trans (lc j h)
  replace hc1 := (e2 (k + 1) (by omega)).trans hc1
  replace hc2 := (e2 (k + 2) (by omega)).trans hc2
  clear hc
  have hc := e4
  refine lv_aload_n B.1 B.2.1 dX8_init_21 rfl (lv_at hl 0 rfl) ?_
  refine lv_sipush (v := 427) B.1 B.2.1 dX8_init_22 (by decide) ?_
  refine g_newi B hH hA (N' := 427) (by decide) (by decide) (Nat.le_of_ble_eq_true rfl) (Nat.le_of_ble_eq_true rfl) (Nat.le_of_ble_eq_true rfl) dX8_init_25 ?_
  clear hH
  intro q3 a5 c5 H e1 e2 e3 e4 hH
  have hH : GH Z s _ a5 c5 (k + 4) H _ := hH
  replace la := fun (j : Nat) (h : j < k + 1) => (e1 j (by omega)).trans (la j h)
  replace lc := fun (j : Nat) (h : j < k) => (e2 j (by omega)).trans (lc j h)
  replace hx := (e1 k (by omega)).trans hx
  replace ha1 := (e1 (k + 1) (by omega)).trans ha1
  replace ha2 := (e1 (k + 2) (by omega)).trans ha2
  replace hc1 := (e2 (k + 1) (by omega)).trans hc1
  replace hc2 := (e2 (k + 2) (by omega)).trans hc2
  replace hc := (e2 k (by omega)).trans hc
  have ha3 : a5 (k + 3) = q3 := e3
  have hc3 := e4
  refine g_putF (own := RX8) B hH (by omega) hx hc rfl (ul_8 B.2.2.2.2.1) tyX8 tyX8_ok nmX8 4 (by decide) (ty := .array .int) (by decide +kernel) rfl rfl rfl (Nat.le_of_ble_eq_true rfl) hnm rfl (tg_970 B.2.2.2.2.1) dX8_init_27 ?_
  clear hH
  intro c6 H locs e4 e2 hH
  skip
  replace lc := fun (j : Nat) (h : j < k) => (e2 j (by omega)).trans (lc j h)
  replace hc1 := (e2 (k + 1) (by omega)).trans hc1
  replace hc2 := (e2 (k + 2) (by omega)).trans hc2
  replace hc3 := (e2 (k + 3) (by omega)).trans hc3
  clear hc
  have hc := e4
  refine lv_aload_n B.1 B.2.1 dX8_init_30 rfl (lv_at hl 0 rfl) ?_
  refine lv_sipush (v := 5124) B.1 B.2.1 dX8_init_31 (by decide) ?_
  refine g_newi B hH hA (N' := 5124) (by decide) (by decide) (Nat.le_of_ble_eq_true rfl) (Nat.le_of_ble_eq_true rfl) (Nat.le_of_ble_eq_true rfl) dX8_init_34 ?_
  clear hH
  intro q4 a7 c7 H e1 e2 e3 e4 hH
  have hH : GH Z s _ a7 c7 (k + 5) H _ := hH
  replace la := fun (j : Nat) (h : j < k + 1) => (e1 j (by omega)).trans (la j h)
  replace lc := fun (j : Nat) (h : j < k) => (e2 j (by omega)).trans (lc j h)
  replace hx := (e1 k (by omega)).trans hx
  replace ha1 := (e1 (k + 1) (by omega)).trans ha1
  replace ha2 := (e1 (k + 2) (by omega)).trans ha2
  replace ha3 := (e1 (k + 3) (by omega)).trans ha3
  replace hc1 := (e2 (k + 1) (by omega)).trans hc1
  replace hc2 := (e2 (k + 2) (by omega)).trans hc2
  replace hc3 := (e2 (k + 3) (by omega)).trans hc3
  replace hc := (e2 k (by omega)).trans hc
  have ha4 : a7 (k + 4) = q4 := e3
  have hc4 := e4
  refine g_putF (own := RX8) B hH (by omega) hx hc rfl (ul_8 B.2.2.2.2.1) tyX8 tyX8_ok nmX8 5 (by decide) (ty := .array .int) (by decide +kernel) rfl rfl rfl (Nat.le_of_ble_eq_true rfl) hnm rfl (tg_971 B.2.2.2.2.1) dX8_init_36 ?_
  clear hH
  intro c8 H locs e4 e2 hH
  skip
  replace lc := fun (j : Nat) (h : j < k) => (e2 j (by omega)).trans (lc j h)
  replace hc1 := (e2 (k + 1) (by omega)).trans hc1
  replace hc2 := (e2 (k + 2) (by omega)).trans hc2
  replace hc3 := (e2 (k + 3) (by omega)).trans hc3
  replace hc4 := (e2 (k + 4) (by omega)).trans hc4
  clear hc
  have hc := e4
  refine lv_aload_n B.1 B.2.1 dX8_init_39 rfl (lv_at hl 0 rfl) ?_
  refine lv_sipush (v := 854) B.1 B.2.1 dX8_init_40 (by decide) ?_
  refine g_newi B hH hA (N' := 854) (by decide) (by decide) (Nat.le_of_ble_eq_true rfl) (Nat.le_of_ble_eq_true rfl) (Nat.le_of_ble_eq_true rfl) dX8_init_43 ?_
  clear hH
  intro q5 a9 c9 H e1 e2 e3 e4 hH
  have hH : GH Z s _ a9 c9 (k + 6) H _ := hH
  replace la := fun (j : Nat) (h : j < k + 1) => (e1 j (by omega)).trans (la j h)
  replace lc := fun (j : Nat) (h : j < k) => (e2 j (by omega)).trans (lc j h)
  replace hx := (e1 k (by omega)).trans hx
  replace ha1 := (e1 (k + 1) (by omega)).trans ha1
  replace ha2 := (e1 (k + 2) (by omega)).trans ha2
  replace ha3 := (e1 (k + 3) (by omega)).trans ha3
  replace ha4 := (e1 (k + 4) (by omega)).trans ha4
  replace hc1 := (e2 (k + 1) (by omega)).trans hc1
  replace hc2 := (e2 (k + 2) (by omega)).trans hc2
  replace hc3 := (e2 (k + 3) (by omega)).trans hc3
  replace hc4 := (e2 (k + 4) (by omega)).trans hc4
  replace hc := (e2 k (by omega)).trans hc
  have ha5 : a9 (k + 5) = q5 := e3
  have hc5 := e4
  refine g_putF (own := RX8) B hH (by omega) hx hc rfl (ul_8 B.2.2.2.2.1) tyX8 tyX8_ok nmX8 7 (by decide) (ty := .array .int) (by decide +kernel) rfl rfl rfl (Nat.le_of_ble_eq_true rfl) hnm rfl (tg_973 B.2.2.2.2.1) dX8_init_45 ?_
  clear hH
  intro c10 H locs e4 e2 hH
  skip
  replace lc := fun (j : Nat) (h : j < k) => (e2 j (by omega)).trans (lc j h)
  replace hc1 := (e2 (k + 1) (by omega)).trans hc1
  replace hc2 := (e2 (k + 2) (by omega)).trans hc2
  replace hc3 := (e2 (k + 3) (by omega)).trans hc3
  replace hc4 := (e2 (k + 4) (by omega)).trans hc4
  replace hc5 := (e2 (k + 5) (by omega)).trans hc5
  clear hc
  have hc := e4
  refine lv_aload_n B.1 B.2.1 dX8_init_48 rfl (lv_at hl 0 rfl) ?_
  refine lv_iconst (v := 2) B.1 B.2.1 dX8_init_49 (by decide) ?_
  refine g_newz B hH hA (N' := 2) (by decide) (by decide) (Nat.le_of_ble_eq_true rfl) (Nat.le_of_ble_eq_true rfl) (Nat.le_of_ble_eq_true rfl) dX8_init_50 ?_
  clear hH
  intro q6 a11 c11 H e1 e2 e3 e4 hH
  have hH : GH Z s _ a11 c11 (k + 7) H _ := hH
  replace la := fun (j : Nat) (h : j < k + 1) => (e1 j (by omega)).trans (la j h)
  replace lc := fun (j : Nat) (h : j < k) => (e2 j (by omega)).trans (lc j h)
  replace hx := (e1 k (by omega)).trans hx
  replace ha1 := (e1 (k + 1) (by omega)).trans ha1
  replace ha2 := (e1 (k + 2) (by omega)).trans ha2
  replace ha3 := (e1 (k + 3) (by omega)).trans ha3
  replace ha4 := (e1 (k + 4) (by omega)).trans ha4
  replace ha5 := (e1 (k + 5) (by omega)).trans ha5
  replace hc1 := (e2 (k + 1) (by omega)).trans hc1
  replace hc2 := (e2 (k + 2) (by omega)).trans hc2
  replace hc3 := (e2 (k + 3) (by omega)).trans hc3
  replace hc4 := (e2 (k + 4) (by omega)).trans hc4
  replace hc5 := (e2 (k + 5) (by omega)).trans hc5
  replace hc := (e2 k (by omega)).trans hc
  have ha6 : a11 (k + 6) = q6 := e3
  have hc6 := e4
  refine g_putF (own := RX8) B hH (by omega) hx hc rfl (ul_8 B.2.2.2.2.1) tyX8 tyX8_ok nmX8 8 (by decide) (ty := .array .boolean) (by decide +kernel) rfl rfl rfl (Nat.le_of_ble_eq_true rfl) hnm rfl (tg_974 B.2.2.2.2.1) dX8_init_52 ?_
  clear hH
  intro c12 H locs e4 e2 hH
  skip
  replace lc := fun (j : Nat) (h : j < k) => (e2 j (by omega)).trans (lc j h)
  replace hc1 := (e2 (k + 1) (by omega)).trans hc1
  replace hc2 := (e2 (k + 2) (by omega)).trans hc2
  replace hc3 := (e2 (k + 3) (by omega)).trans hc3
  replace hc4 := (e2 (k + 4) (by omega)).trans hc4
  replace hc5 := (e2 (k + 5) (by omega)).trans hc5
  replace hc6 := (e2 (k + 6) (by omega)).trans hc6
  clear hc
  have hc := e4
  refine lv_aload_n B.1 B.2.1 dX8_init_55 rfl (lv_at hl 0 rfl) ?_
  refine g_get B hH (own := RX8) (by omega) hx hc rfl (ul_8 B.2.2.2.2.1) 3 (by decide) rfl (tg_969 B.2.2.2.2.1) dX8_init_56 ?_
  have hfb : FB Z a11 c12 0 k := hfb0.up (fun i h => la i (by omega)) (fun j h1 h2 => lc j h2)
  have hP9 : va_P Z.1 vwCl (gw a11 (ctz Z a11) (k + 7)) H := by
    refine gw_fin hH.1 (fun j hj h => ?_)
    by_cases q : j < k
    · exact fb_at hfb (Nat.zero_le _) q (by subst hk344; exact (by decide +kernel : ∀ j, j < 344 → rm j < 344) j q) h
    · by_cases qj0 : j = k
      · rw [qj0] at h ⊢
        rw [hc] at h
        rw [ctz_8 hk, show a11 (k + 1) = _ from ha1, show a11 (k + 2) = _ from ha2, show a11 (k + 3) = _ from ha3, show a11 (k + 4) = _ from ha4, show a11 (k + 5) = _ from ha5, show a11 (k + 6) = _ from ha6]
        exact h
      · by_cases qj1 : j = (k + 1)
        · rw [qj1] at h ⊢
          rw [hc1] at h
          rw [ctz_10 (kdo_8_1 hk), alo_8_1 hk]
          exact h
        · by_cases qj2 : j = (k + 2)
          · rw [qj2] at h ⊢
            rw [hc2] at h
            rw [ctz_10 (kdo_8_2 hk), alo_8_2 hk]
            exact h
          · by_cases qj3 : j = (k + 3)
            · rw [qj3] at h ⊢
              rw [hc3] at h
              rw [ctz_10 (kdo_8_3 hk), alo_8_3 hk]
              exact h
            · by_cases qj4 : j = (k + 4)
              · rw [qj4] at h ⊢
                rw [hc4] at h
                rw [ctz_10 (kdo_8_4 hk), alo_8_4 hk]
                exact h
              · by_cases qj5 : j = (k + 5)
                · rw [qj5] at h ⊢
                  rw [hc5] at h
                  rw [ctz_10 (kdo_8_5 hk), alo_8_5 hk]
                  exact h
                · by_cases qj6 : j = (k + 6)
                  · rw [qj6] at h ⊢
                    rw [hc6] at h
                    rw [ctz_11 (kdo_8_6 hk), alo_8_6 hk]
                    exact h
                  · exfalso; omega
  subst hk344
  have hB9 : Bx (Z.1, Z.2.1, a11, 351) p s m cd meth cX8_init 1 RX8 := ⟨B.1, B.2.1, B.2.2.1, B.2.2.2.1, B.2.2.2.2.1, B.2.2.2.2.2.1, B.2.2.2.2.2.2.1, hH.2.2.1, Nat.le_refl _⟩
  have hsub : ∀ q, fg a0 (344 + 1) s.heap.size q → fr (Z.1, Z.2.1, a11, 351) s.heap.size q := fun q z => z.elim (fun ⟨i, hi, e⟩ => Or.inl ⟨i, (by show i < 351; omega), by rw [e]; exact (la i hi).symm⟩) Or.inr
  have hsup : ∀ q, fr (Z.1, Z.2.1, a11, 351) s.heap.size q → fg a0 (344 + 1) s.heap.size q := fun q z => z.elim (fun ⟨i, hi, e⟩ => by rw [e]; exact hH.2.2.2 i hi) Or.inr
  have hH9 : HH (Z.1, Z.2.1, a11, 351) s (fun _ _ => 0) H locs := ⟨hP9, hH.2.1.1, fun q h1 h2 => hH.2.1.2.1 q h1 (fun z => h2 (hsub q z)), fun z hz => hsub _ (hH.2.1.2.2 z hz)⟩
  rw [← ha2]
  refine c_S_V (Z := (Z.1, Z.2.1, a11, 351)) (own := RX8) (As := [.ref (a11 346)]) (rest := []) hB9 hH9 (cy_X8_clear B.2.2.2.2.1) (ct_X8_clear (Z := (Z.1, Z.2.1, a11, 351)) hB9.2.2.2.2.2.2.2 l 346 (fun _ _ => 0) _ Q9 (by decide +kernel) hw) ⟨⟨rfl, rfl⟩, Nat.le_of_ble_eq_true rfl, Nat.le_of_ble_eq_true rfl, Nat.le_of_ble_eq_true rfl, Nat.le_of_ble_eq_true rfl⟩ (tg_963 B.2.2.2.2.1) rfl hl.1 rfl (Nat.le_of_ble_eq_true rfl) dX8_init_59 (fun h1 H locs hq hH8 => ?_)
  have hS8 : va_S (fg a0 (344 + 1) s.heap.size) s.heap H locs := ⟨hH8.2.1, fun q h1 h2 => hH8.2.2.1 q h1 (fun z => h2 (hsup q z)), fun z hz => hsup _ (hH8.2.2.2 z hz)⟩
  exact W.vret B.1 B.2.1 hr (fun t ht hW => ⟨⟨(a11, h1), rfl, ⟨la, hq, hH.2.2.2⟩, by rw [ht]; exact hH8.1, hH.2.2.1⟩, hS8.F ht⟩) hS8.2.2 dX8_init_62 B.2.2.2.2.2.2.1
