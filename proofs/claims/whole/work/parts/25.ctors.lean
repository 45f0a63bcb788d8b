theorem kdo_2_1 {k : Nat} (e : kd k = 2) : kd (k + 1) = 13 := (by decide +kernel : ∀ k, k < 352 → kd k = 2 → kd (k + 1) = 13) k (kd_lt e (by decide)) e
theorem kdo_2_2 {k : Nat} (e : kd k = 2) : kd (k + 2) = 3 := (by decide +kernel : ∀ k, k < 352 → kd k = 2 → kd (k + 2) = 3) k (kd_lt e (by decide)) e
theorem kdo_2_4 {k : Nat} (e : kd k = 2) : kd (k + 4) = 3 := (by decide +kernel : ∀ k, k < 352 → kd k = 2 → kd (k + 4) = 3) k (kd_lt e (by decide)) e
theorem kdo_2_6 {k : Nat} (e : kd k = 2) : kd (k + 6) = 3 := (by decide +kernel : ∀ k, k < 352 → kd k = 2 → kd (k + 6) = 3) k (kd_lt e (by decide)) e
theorem kdo_2_8 {k : Nat} (e : kd k = 2) : kd (k + 8) = 14 := (by decide +kernel : ∀ k, k < 352 → kd k = 2 → kd (k + 8) = 14) k (kd_lt e (by decide)) e
theorem kdo_2_9 {k : Nat} (e : kd k = 2) : kd (k + 9) = 4 := (by decide +kernel : ∀ k, k < 352 → kd k = 2 → kd (k + 9) = 4) k (kd_lt e (by decide)) e
theorem kdo_2_12 {k : Nat} (e : kd k = 2) : kd (k + 12) = 4 := (by decide +kernel : ∀ k, k < 352 → kd k = 2 → kd (k + 12) = 4) k (kd_lt e (by decide)) e
theorem kdo_2_15 {k : Nat} (e : kd k = 2) : kd (k + 15) = 4 := (by decide +kernel : ∀ k, k < 352 → kd k = 2 → kd (k + 15) = 4) k (kd_lt e (by decide)) e
theorem kdo_2_18 {k : Nat} (e : kd k = 2) : kd (k + 18) = 4 := (by decide +kernel : ∀ k, k < 352 → kd k = 2 → kd (k + 18) = 4) k (kd_lt e (by decide)) e
theorem kdo_3_1 {k : Nat} (e : kd k = 3) : kd (k + 1) = 10 := (by decide +kernel : ∀ k, k < 352 → kd k = 3 → kd (k + 1) = 10) k (kd_lt e (by decide)) e
theorem kdo_4_1 {k : Nat} (e : kd k = 4) : kd (k + 1) = 10 := (by decide +kernel : ∀ k, k < 352 → kd k = 4 → kd (k + 1) = 10) k (kd_lt e (by decide)) e
theorem kdo_4_2 {k : Nat} (e : kd k = 4) : kd (k + 2) = 10 := (by decide +kernel : ∀ k, k < 352 → kd k = 4 → kd (k + 2) = 10) k (kd_lt e (by decide)) e
theorem kdo_5_1 {k : Nat} (e : kd k = 5) : kd (k + 1) = 2 := (by decide +kernel : ∀ k, k < 352 → kd k = 5 → kd (k + 1) = 2) k (kd_lt e (by decide)) e
theorem kdo_7_1 {k : Nat} (e : kd k = 7) : kd (k + 1) = 10 := (by decide +kernel : ∀ k, k < 352 → kd k = 7 → kd (k + 1) = 10) k (kd_lt e (by decide)) e
theorem kdo_7_2 {k : Nat} (e : kd k = 7) : kd (k + 2) = 10 := (by decide +kernel : ∀ k, k < 352 → kd k = 7 → kd (k + 2) = 10) k (kd_lt e (by decide)) e
theorem alo_2_1 {k : Nat} (e : kd k = 2) : al (k + 1) = 3 := (by decide +kernel : ∀ k, k < 352 → kd k = 2 → al (k + 1) = 3) k (kd_lt e (by decide)) e
theorem alo_2_8 {k : Nat} (e : kd k = 2) : al (k + 8) = 4 := (by decide +kernel : ∀ k, k < 352 → kd k = 2 → al (k + 8) = 4) k (kd_lt e (by decide)) e
theorem alo_3_1 {k : Nat} (e : kd k = 3) : al (k + 1) = 60 := (by decide +kernel : ∀ k, k < 352 → kd k = 3 → al (k + 1) = 60) k (kd_lt e (by decide)) e
theorem alo_4_1 {k : Nat} (e : kd k = 4) : al (k + 1) = 48 := (by decide +kernel : ∀ k, k < 352 → kd k = 4 → al (k + 1) = 48) k (kd_lt e (by decide)) e
theorem alo_4_2 {k : Nat} (e : kd k = 4) : al (k + 2) = 6 := (by decide +kernel : ∀ k, k < 352 → kd k = 4 → al (k + 2) = 6) k (kd_lt e (by decide)) e
theorem alo_7_1 {k : Nat} (e : kd k = 7) : al (k + 1) = 120 := (by decide +kernel : ∀ k, k < 352 → kd k = 7 → al (k + 1) = 120) k (kd_lt e (by decide)) e
theorem alo_7_2 {k : Nat} (e : kd k = 7) : al (k + 2) = 4 := (by decide +kernel : ∀ k, k < 352 → kd k = 7 → al (k + 2) = 4) k (kd_lt e (by decide)) e
theorem cy_X3_init {s : State} {args : Array Value} (hG : GG s) : CYI s args yX3_init cX3_init 1 := CYI.of hG (fun _ _ hG => tg_41 hG) (tg_3 hG) (tg_40 hG) rfl (by decide +kernel)
set_option maxRecDepth 100000 in
set_option maxHeartbeats 4000000 in
theorem ci_X3_init {Z : ZT} (l : Launch) (a0 : Nat → Nat) (c0 : Nat → va_E) (k sz x : Nat) (hk : kd k = 3) (hx0 : a0 k = x) (hc0 : c0 k = .inr (2, [.null, .int 0])) : MG Z l yX3_init cX3_init 1 ({ frames := 1, cells := 1, slots := 60, locals := 20 } : Room) a0 c0 k 2 sz 1 60 x := by
  refine open_G (by decide +kernel) (by exact Nat.le_of_ble_eq_true rfl) ?_
  intro p e s m below meth cd B hr hnm hsz ls hl hH
  subst hsz
  have hl : lv_has ls 1 [(0, .ref x)] := hl
  have hA : ∀ q, s.heap.size ≤ q → fg a0 (k + 1) s.heap.size q := fun q h => Or.inr h
  obtain ⟨a, c, la, lc, hx, hc, hH⟩ : ∃ (a : Nat → Nat) (c : Nat → va_E), (∀ j, j < k + 1 → a j = a0 j) ∧ (∀ j, j < k → c j = c0 j) ∧ a k = x ∧ c k = .inr (2, [.null, .int 0]) ∧ GH Z s (fg a0 (k + 1) s.heap.size) a c (k + 1) s.heap [] := ⟨a0, c0, fun _ _ => rfl, fun _ _ => rfl, hx0, hc0, hH⟩
  refine lv_aload_n B.1 B.2.1 dX3_init_0 rfl (lv_at hl 0 rfl) ?_
  refine g_obj B (tg_42 B.2.2.2.2.1) (tg_28 B.2.2.2.2.1) (tg_29 B.2.2.2.2.1) hl.1 dX3_init_1 (Nat.le_of_ble_eq_true rfl) (Nat.le_of_ble_eq_true rfl) ?_
  refine lv_aload_n B.1 B.2.1 dX3_init_4 rfl (lv_at hl 0 rfl) ?_
  refine lv_bipush (v := 60) B.1 B.2.1 dX3_init_5 (by decide) ?_
  refine g_newi B hH hA (N' := 60) (by decide) (by decide) (Nat.le_of_ble_eq_true rfl) (Nat.le_of_ble_eq_true rfl) (Nat.le_of_ble_eq_true rfl) dX3_init_7 ?_
  clear hH
  intro q1 a1 c1 H e1 e2 e3 e4 hH
  have hH : GH Z s _ a1 c1 (k + 2) H _ := hH
  replace la := fun (j : Nat) (h : j < k + 1) => (e1 j (by omega)).trans (la j h)
  replace lc := fun (j : Nat) (h : j < k) => (e2 j (by omega)).trans (lc j h)
  replace hx := (e1 k (by omega)).trans hx
  replace hc := (e2 k (by omega)).trans hc
  have ha1 : a1 (k + 1) = q1 := e3
  have hc1 := e4
  refine g_putF (own := RX3) B hH (by omega) hx hc rfl (ul_3 B.2.2.2.2.1) tyX3 tyX3_ok nmX3 0 (by decide) (ty := .array .int) (by decide +kernel) rfl rfl rfl (Nat.le_of_ble_eq_true rfl) hnm rfl (tg_43 B.2.2.2.2.1) dX3_init_9 ?_
  clear hH
  intro c2 H locs e4 e2 hH
  skip
  replace lc := fun (j : Nat) (h : j < k) => (e2 j (by omega)).trans (lc j h)
  replace hc1 := (e2 (k + 1) (by omega)).trans hc1
  clear hc
  have hc := e4
  refine e_g B hr (a := a1) (f := fun j => if j < k then c2 j else ctz Z a1 j) (gw_fin hH.1 (fun j hj h => ?_)) hH.2.2.1 hH.2.1 ⟨la, fun j h => (if_pos h).trans (lc j h), fun j h1 h2 => if_neg (by omega), hH.2.2.2⟩ dX3_init_12
  by_cases q : j < k
  · rw [if_pos q]; exact h
  · rw [if_neg q]
    by_cases qj0 : j = k
    · rw [qj0] at h ⊢
      rw [hc] at h
      rw [ctz_3 hk, show a1 (k + 1) = _ from ha1]
      exact h
    · by_cases qj1 : j = (k + 1)
      · rw [qj1] at h ⊢
        rw [hc1] at h
        rw [ctz_10 (kdo_3_1 hk), alo_3_1 hk]
        exact h
      · exfalso; omega
theorem cy_X0_init {s : State} {args : Array Value} (hG : GG s) : CYI s args yX0_init cX0_init 1 := CYI.of hG (fun _ _ hG => tg_61 hG) (tg_4 hG) (tg_60 hG) rfl (by decide +kernel)
set_option maxRecDepth 100000 in
set_option maxHeartbeats 4000000 in
theorem ci_X0_init {Z : ZT} (l : Launch) (a0 : Nat → Nat) (c0 : Nat → va_E) (k sz x : Nat) (hk : kd k = 4) (hx0 : a0 k = x) (hc0 : c0 k = .inr (0, [.null, .null, .int 0, .int 0, .int 0, .int 0, .int 0, .int 0])) : MG Z l yX0_init cX0_init 1 ({ frames := 1, cells := 2, slots := 54, locals := 20 } : Room) a0 c0 k 3 sz 2 54 x := by
  refine open_G (by decide +kernel) (by exact Nat.le_of_ble_eq_true rfl) ?_
  intro p e s m below meth cd B hr hnm hsz ls hl hH
  subst hsz
  have hl : lv_has ls 1 [(0, .ref x)] := hl
  have hA : ∀ q, s.heap.size ≤ q → fg a0 (k + 1) s.heap.size q := fun q h => Or.inr h
  obtain ⟨a, c, la, lc, hx, hc, hH⟩ : ∃ (a : Nat → Nat) (c : Nat → va_E), (∀ j, j < k + 1 → a j = a0 j) ∧ (∀ j, j < k → c j = c0 j) ∧ a k = x ∧ c k = .inr (0, [.null, .null, .int 0, .int 0, .int 0, .int 0, .int 0, .int 0]) ∧ GH Z s (fg a0 (k + 1) s.heap.size) a c (k + 1) s.heap [] := ⟨a0, c0, fun _ _ => rfl, fun _ _ => rfl, hx0, hc0, hH⟩
  refine lv_aload_n B.1 B.2.1 dX0_init_0 rfl (lv_at hl 0 rfl) ?_
  refine g_obj B (tg_62 B.2.2.2.2.1) (tg_28 B.2.2.2.2.1) (tg_29 B.2.2.2.2.1) hl.1 dX0_init_1 (Nat.le_of_ble_eq_true rfl) (Nat.le_of_ble_eq_true rfl) ?_
  refine lv_aload_n B.1 B.2.1 dX0_init_4 rfl (lv_at hl 0 rfl) ?_
  refine lv_bipush (v := 48) B.1 B.2.1 dX0_init_5 (by decide) ?_
  refine g_newi B hH hA (N' := 48) (by decide) (by decide) (Nat.le_of_ble_eq_true rfl) (Nat.le_of_ble_eq_true rfl) (Nat.le_of_ble_eq_true rfl) dX0_init_7 ?_
  clear hH
  intro q1 a1 c1 H e1 e2 e3 e4 hH
  have hH : GH Z s _ a1 c1 (k + 2) H _ := hH
  replace la := fun (j : Nat) (h : j < k + 1) => (e1 j (by omega)).trans (la j h)
  replace lc := fun (j : Nat) (h : j < k) => (e2 j (by omega)).trans (lc j h)
  replace hx := (e1 k (by omega)).trans hx
  replace hc := (e2 k (by omega)).trans hc
  have ha1 : a1 (k + 1) = q1 := e3
  have hc1 := e4
  refine g_putF (own := RX0) B hH (by omega) hx hc rfl (ul_4 B.2.2.2.2.1) tyX0 tyX0_ok nmX0 0 (by decide) (ty := .array .int) (by decide +kernel) rfl rfl rfl (Nat.le_of_ble_eq_true rfl) hnm rfl (tg_63 B.2.2.2.2.1) dX0_init_9 ?_
  clear hH
  intro c2 H locs e4 e2 hH
  skip
  replace lc := fun (j : Nat) (h : j < k) => (e2 j (by omega)).trans (lc j h)
  replace hc1 := (e2 (k + 1) (by omega)).trans hc1
  clear hc
  have hc := e4
  refine lv_aload_n B.1 B.2.1 dX0_init_12 rfl (lv_at hl 0 rfl) ?_
  refine lv_bipush (v := 6) B.1 B.2.1 dX0_init_13 (by decide) ?_
  refine g_newi B hH hA (N' := 6) (by decide) (by decide) (Nat.le_of_ble_eq_true rfl) (Nat.le_of_ble_eq_true rfl) (Nat.le_of_ble_eq_true rfl) dX0_init_15 ?_
  clear hH
  intro q2 a3 c3 H e1 e2 e3 e4 hH
  have hH : GH Z s _ a3 c3 (k + 3) H _ := hH
  replace la := fun (j : Nat) (h : j < k + 1) => (e1 j (by omega)).trans (la j h)
  replace lc := fun (j : Nat) (h : j < k) => (e2 j (by omega)).trans (lc j h)
  replace hx := (e1 k (by omega)).trans hx
  replace ha1 := (e1 (k + 1) (by omega)).trans ha1
  replace hc1 := (e2 (k + 1) (by omega)).trans hc1
  replace hc := (e2 k (by omega)).trans hc
  have ha2 : a3 (k + 2) = q2 := e3
  have hc2 := e4
  refine g_putF (own := RX0) B hH (by omega) hx hc rfl (ul_4 B.2.2.2.2.1) tyX0 tyX0_ok nmX0 1 (by decide) (ty := .array .int) (by decide +kernel) rfl rfl rfl (Nat.le_of_ble_eq_true rfl) hnm rfl (tg_65 B.2.2.2.2.1) dX0_init_17 ?_
  clear hH
  intro c4 H locs e4 e2 hH
  skip
  replace lc := fun (j : Nat) (h : j < k) => (e2 j (by omega)).trans (lc j h)
  replace hc1 := (e2 (k + 1) (by omega)).trans hc1
  replace hc2 := (e2 (k + 2) (by omega)).trans hc2
  clear hc
  have hc := e4
  refine e_g B hr (a := a3) (f := fun j => if j < k then c4 j else ctz Z a3 j) (gw_fin hH.1 (fun j hj h => ?_)) hH.2.2.1 hH.2.1 ⟨la, fun j h => (if_pos h).trans (lc j h), fun j h1 h2 => if_neg (by omega), hH.2.2.2⟩ dX0_init_20
  by_cases q : j < k
  · rw [if_pos q]; exact h
  · rw [if_neg q]
    by_cases qj0 : j = k
    · rw [qj0] at h ⊢
      rw [hc] at h
      rw [ctz_4 hk, show a3 (k + 1) = _ from ha1, show a3 (k + 2) = _ from ha2]
      exact h
    · by_cases qj1 : j = (k + 1)
      · rw [qj1] at h ⊢
        rw [hc1] at h
        rw [ctz_10 (kdo_4_1 hk), alo_4_1 hk]
        exact h
      · by_cases qj2 : j = (k + 2)
        · rw [qj2] at h ⊢
          rw [hc2] at h
          rw [ctz_10 (kdo_4_2 hk), alo_4_2 hk]
          exact h
        · exfalso; omega
theorem cy_X6_init {s : State} {args : Array Value} (hG : GG s) : CYI s args yX6_init cX6_init 1 := CYI.of hG (fun _ _ hG => tg_163 hG) (tg_7 hG) (tg_162 hG) rfl (by decide +kernel)
set_option maxRecDepth 100000 in
set_option maxHeartbeats 4000000 in
theorem ci_X6_init {Z : ZT} (l : Launch) (a0 : Nat → Nat) (c0 : Nat → va_E) (k sz x : Nat) (hk : kd k = 7) (hx0 : a0 k = x) (hc0 : c0 k = .inr (5, [.null, .null, .int 0, .int 0, .int 0])) : MG Z l yX6_init cX6_init 1 ({ frames := 1, cells := 2, slots := 124, locals := 20 } : Room) a0 c0 k 3 sz 2 124 x := by
  refine open_G (by decide +kernel) (by exact Nat.le_of_ble_eq_true rfl) ?_
  intro p e s m below meth cd B hr hnm hsz ls hl hH
  subst hsz
  have hl : lv_has ls 1 [(0, .ref x)] := hl
  have hA : ∀ q, s.heap.size ≤ q → fg a0 (k + 1) s.heap.size q := fun q h => Or.inr h
  obtain ⟨a, c, la, lc, hx, hc, hH⟩ : ∃ (a : Nat → Nat) (c : Nat → va_E), (∀ j, j < k + 1 → a j = a0 j) ∧ (∀ j, j < k → c j = c0 j) ∧ a k = x ∧ c k = .inr (5, [.null, .null, .int 0, .int 0, .int 0]) ∧ GH Z s (fg a0 (k + 1) s.heap.size) a c (k + 1) s.heap [] := ⟨a0, c0, fun _ _ => rfl, fun _ _ => rfl, hx0, hc0, hH⟩
  refine lv_aload_n B.1 B.2.1 dX6_init_0 rfl (lv_at hl 0 rfl) ?_
  refine g_obj B (tg_164 B.2.2.2.2.1) (tg_28 B.2.2.2.2.1) (tg_29 B.2.2.2.2.1) hl.1 dX6_init_1 (Nat.le_of_ble_eq_true rfl) (Nat.le_of_ble_eq_true rfl) ?_
  refine lv_aload_n B.1 B.2.1 dX6_init_4 rfl (lv_at hl 0 rfl) ?_
  refine lv_bipush (v := 120) B.1 B.2.1 dX6_init_5 (by decide) ?_
  refine g_newi B hH hA (N' := 120) (by decide) (by decide) (Nat.le_of_ble_eq_true rfl) (Nat.le_of_ble_eq_true rfl) (Nat.le_of_ble_eq_true rfl) dX6_init_7 ?_
  clear hH
  intro q1 a1 c1 H e1 e2 e3 e4 hH
  have hH : GH Z s _ a1 c1 (k + 2) H _ := hH
  replace la := fun (j : Nat) (h : j < k + 1) => (e1 j (by omega)).trans (la j h)
  replace lc := fun (j : Nat) (h : j < k) => (e2 j (by omega)).trans (lc j h)
  replace hx := (e1 k (by omega)).trans hx
  replace hc := (e2 k (by omega)).trans hc
  have ha1 : a1 (k + 1) = q1 := e3
  have hc1 := e4
  refine g_putF (own := RX6) B hH (by omega) hx hc rfl (ul_7 B.2.2.2.2.1) tyX6 tyX6_ok nmX6 0 (by decide) (ty := .array .int) (by decide +kernel) rfl rfl rfl (Nat.le_of_ble_eq_true rfl) hnm rfl (tg_165 B.2.2.2.2.1) dX6_init_9 ?_
  clear hH
  intro c2 H locs e4 e2 hH
  skip
  replace lc := fun (j : Nat) (h : j < k) => (e2 j (by omega)).trans (lc j h)
  replace hc1 := (e2 (k + 1) (by omega)).trans hc1
  clear hc
  have hc := e4
  refine lv_aload_n B.1 B.2.1 dX6_init_12 rfl (lv_at hl 0 rfl) ?_
  refine lv_iconst (v := 4) B.1 B.2.1 dX6_init_13 (by decide) ?_
  refine g_newi B hH hA (N' := 4) (by decide) (by decide) (Nat.le_of_ble_eq_true rfl) (Nat.le_of_ble_eq_true rfl) (Nat.le_of_ble_eq_true rfl) dX6_init_14 ?_
  clear hH
  intro q2 a3 c3 H e1 e2 e3 e4 hH
  have hH : GH Z s _ a3 c3 (k + 3) H _ := hH
  replace la := fun (j : Nat) (h : j < k + 1) => (e1 j (by omega)).trans (la j h)
  replace lc := fun (j : Nat) (h : j < k) => (e2 j (by omega)).trans (lc j h)
  replace hx := (e1 k (by omega)).trans hx
  replace ha1 := (e1 (k + 1) (by omega)).trans ha1
  replace hc1 := (e2 (k + 1) (by omega)).trans hc1
  replace hc := (e2 k (by omega)).trans hc
  have ha2 : a3 (k + 2) = q2 := e3
  have hc2 := e4
  refine g_putF (own := RX6) B hH (by omega) hx hc rfl (ul_7 B.2.2.2.2.1) tyX6 tyX6_ok nmX6 1 (by decide) (ty := .array .int) (by decide +kernel) rfl rfl rfl (Nat.le_of_ble_eq_true rfl) hnm rfl (tg_166 B.2.2.2.2.1) dX6_init_16 ?_
  clear hH
  intro c4 H locs e4 e2 hH
  skip
  replace lc := fun (j : Nat) (h : j < k) => (e2 j (by omega)).trans (lc j h)
  replace hc1 := (e2 (k + 1) (by omega)).trans hc1
  replace hc2 := (e2 (k + 2) (by omega)).trans hc2
  clear hc
  have hc := e4
  refine e_g B hr (a := a3) (f := fun j => if j < k then c4 j else ctz Z a3 j) (gw_fin hH.1 (fun j hj h => ?_)) hH.2.2.1 hH.2.1 ⟨la, fun j h => (if_pos h).trans (lc j h), fun j h1 h2 => if_neg (by omega), hH.2.2.2⟩ dX6_init_19
  by_cases q : j < k
  · rw [if_pos q]; exact h
  · rw [if_neg q]
    by_cases qj0 : j = k
    · rw [qj0] at h ⊢
      rw [hc] at h
      rw [ctz_7 hk, show a3 (k + 1) = _ from ha1, show a3 (k + 2) = _ from ha2]
      exact h
    · by_cases qj1 : j = (k + 1)
      · rw [qj1] at h ⊢
        rw [hc1] at h
        rw [ctz_10 (kdo_7_1 hk), alo_7_1 hk]
        exact h
      · by_cases qj2 : j = (k + 2)
        · rw [qj2] at h ⊢
          rw [hc2] at h
          rw [ctz_10 (kdo_7_2 hk), alo_7_2 hk]
          exact h
        · exfalso; omega
theorem cy_X5_init {s : State} {args : Array Value} (hG : GG s) : CYI s args yX5_init cX5_init 1 := CYI.of hG (fun _ _ hG => tg_34 hG) (tg_2 hG) (tg_33 hG) rfl (by decide +kernel)
set_option maxRecDepth 100000 in
set_option maxHeartbeats 4000000 in
theorem ci_X5_init {Z : ZT} (l : Launch) (a0 : Nat → Nat) (c0 : Nat → va_E) (k sz x : Nat) (hk : kd k = 2) (hx0 : a0 k = x) (hc0 : c0 k = .inr (4, [.null, .null, .int 0, .int 0, .int 0, .int 0])) : MG Z l yX5_init cX5_init 1 ({ frames := 2, cells := 20, slots := 441, locals := 40 } : Room) a0 c0 k 21 sz 20 441 x := by
  refine open_G (by decide +kernel) (by exact Nat.le_of_ble_eq_true rfl) ?_
  intro p e s m below meth cd B hr hnm hsz ls hl hH
  subst hsz
  have hl : lv_has ls 1 [(0, .ref x)] := hl
  have hA : ∀ q, s.heap.size ≤ q → fg a0 (k + 1) s.heap.size q := fun q h => Or.inr h
  obtain ⟨a, c, la, lc, hx, hc, hH⟩ : ∃ (a : Nat → Nat) (c : Nat → va_E), (∀ j, j < k + 1 → a j = a0 j) ∧ (∀ j, j < k → c j = c0 j) ∧ a k = x ∧ c k = .inr (4, [.null, .null, .int 0, .int 0, .int 0, .int 0]) ∧ GH Z s (fg a0 (k + 1) s.heap.size) a c (k + 1) s.heap [] := ⟨a0, c0, fun _ _ => rfl, fun _ _ => rfl, hx0, hc0, hH⟩
  refine lv_aload_n B.1 B.2.1 dX5_init_0 rfl (lv_at hl 0 rfl) ?_
  refine g_obj B (tg_35 B.2.2.2.2.1) (tg_28 B.2.2.2.2.1) (tg_29 B.2.2.2.2.1) hl.1 dX5_init_1 (Nat.le_of_ble_eq_true rfl) (Nat.le_of_ble_eq_true rfl) ?_
  refine lv_aload_n B.1 B.2.1 dX5_init_4 rfl (lv_at hl 0 rfl) ?_
  refine lv_iconst (v := 3) B.1 B.2.1 dX5_init_5 (by decide) ?_
  refine g_newqR (own := RX5) B hH hA (N' := 3) (tg_36 B.2.2.2.2.1) (by decide) (by decide) (Nat.le_of_ble_eq_true rfl) (Nat.le_of_ble_eq_true rfl) (Nat.le_of_ble_eq_true rfl) dX5_init_6 ?_
  clear hH
  intro q1 a1 c1 H e1 e2 e3 e4 hH
  have hH : GH Z s _ a1 c1 (k + 2) H _ := hH
  replace la := fun (j : Nat) (h : j < k + 1) => (e1 j (by omega)).trans (la j h)
  replace lc := fun (j : Nat) (h : j < k) => (e2 j (by omega)).trans (lc j h)
  replace hx := (e1 k (by omega)).trans hx
  replace hc := (e2 k (by omega)).trans hc
  have ha1 : a1 (k + 1) = q1 := e3
  have hc1 := e4
  refine lv_dup B.1 B.2.1 dX5_init_9 rfl ?_
  refine lv_iconst (v := 0) B.1 B.2.1 dX5_init_10 (by decide) ?_
  refine g_new (own := RX5) B hH hA (ci := 2) (fs := [.null, .int 0]) rfl (ul_3 B.2.2.2.2.1) tyX3 tyX3_ok (tg_36 B.2.2.2.2.1) (tg_38 B.2.2.2.2.1) (tg_3 B.2.2.2.2.1) (fun j hj => by rcases (show j = 0 ∨ j = 1 by omega) with rfl | rfl <;> rfl) (Nat.le_of_ble_eq_true rfl) (Nat.le_of_ble_eq_true rfl) dX5_init_11 ?_
  clear hH
  intro q2 a2 c2 H e1 e2 e3 e4 hH
  have hH : GH Z s _ a2 c2 (k + 3) H _ := hH
  replace la := fun (j : Nat) (h : j < k + 1) => (e1 j (by omega)).trans (la j h)
  replace lc := fun (j : Nat) (h : j < k) => (e2 j (by omega)).trans (lc j h)
  replace hx := (e1 k (by omega)).trans hx
  replace ha1 := (e1 (k + 1) (by omega)).trans ha1
  replace hc := (e2 k (by omega)).trans hc
  replace hc1 := (e2 (k + 1) (by omega)).trans hc1
  have ha2 : a2 (k + 2) = q2 := e3
  have hc2 := e4
  refine lv_dup B.1 B.2.1 dX5_init_14 rfl ?_
  refine g_callN (own := RX5) (k := k + 2) (M := 2) (rest := [.ref q2, .int 0, .ref q1, .ref q1, .ref x]) B hH hA (cy_X3_init B.2.2.2.2.1) (ci_X3_init l a2 c2 (k + 2) _ _ (kdo_2_2 hk) ha2 hc2) ⟨⟨rfl, rfl⟩, Nat.le_of_ble_eq_true rfl, Nat.le_of_ble_eq_true rfl, Nat.le_of_ble_eq_true rfl, Nat.le_of_ble_eq_true rfl⟩ (tg_39 B.2.2.2.2.1) hl.1 (Nat.le_of_ble_eq_true rfl) dX5_init_15 ?_
  clear hH
  intro a3 c3 H locs e1 e2 e3 hH
  have hH : GH Z s _ a3 c3 (k + 4) H locs := hH
  replace la := fun (j : Nat) (h : j < k + 1) => (e1 j (by omega)).trans (la j h)
  replace lc := fun (j : Nat) (h : j < k) => (e2 j (by omega)).trans (lc j h)
  replace hx := (e1 k (by omega)).trans hx
  replace ha1 := (e1 (k + 1) (by omega)).trans ha1
  replace ha2 := (e1 (k + 2) (by omega)).trans ha2
  replace hc := (e2 k (by omega)).trans hc
  replace hc1 := (e2 (k + 1) (by omega)).trans hc1
  have fb2 : FB Z a3 c3 (k + 2) (k + 4) := ⟨_, fun _ _ => rfl, e3⟩
  have ho2 := (e3 (k + 2) (by omega) (by omega)).trans (ctz_3 (kdo_2_2 hk))
  refine g_astR B hH (k := k + 1) (k2 := k + 2) (by omega) ha1 hc1 (by omega) ha2 ho2 (by unfold vp_in; decide) dX5_init_18 ?_
  clear hH
  intro c4 H locs e4 e2 hH
  skip
  replace lc := fun (j : Nat) (h : j < k) => (e2 j (by omega)).trans (lc j h)
  replace hc := (e2 k (by omega)).trans hc
  replace fb2 := fb2.up (fun _ _ => rfl) (fun j h1 h2 => e2 j (by omega))
  clear hc1
  have hc1 := e4
  refine lv_dup B.1 B.2.1 dX5_init_19 rfl ?_
  refine lv_iconst (v := 1) B.1 B.2.1 dX5_init_20 (by decide) ?_
  refine g_new (own := RX5) B hH hA (ci := 2) (fs := [.null, .int 0]) rfl (ul_3 B.2.2.2.2.1) tyX3 tyX3_ok (tg_36 B.2.2.2.2.1) (tg_38 B.2.2.2.2.1) (tg_3 B.2.2.2.2.1) (fun j hj => by rcases (show j = 0 ∨ j = 1 by omega) with rfl | rfl <;> rfl) (Nat.le_of_ble_eq_true rfl) (Nat.le_of_ble_eq_true rfl) dX5_init_21 ?_
  clear hH
  intro q4 a5 c5 H e1 e2 e3 e4 hH
  have hH : GH Z s _ a5 c5 (k + 5) H _ := hH
  replace la := fun (j : Nat) (h : j < k + 1) => (e1 j (by omega)).trans (la j h)
  replace lc := fun (j : Nat) (h : j < k) => (e2 j (by omega)).trans (lc j h)
  replace hx := (e1 k (by omega)).trans hx
  replace ha1 := (e1 (k + 1) (by omega)).trans ha1
  replace ha2 := (e1 (k + 2) (by omega)).trans ha2
  replace hc := (e2 k (by omega)).trans hc
  replace hc1 := (e2 (k + 1) (by omega)).trans hc1
  replace fb2 := fb2.up (fun i h => e1 i (by omega)) (fun j h1 h2 => e2 j (by omega))
  have ha4 : a5 (k + 4) = q4 := e3
  have hc4 := e4
  refine lv_dup B.1 B.2.1 dX5_init_24 rfl ?_
  refine g_callN (own := RX5) (k := k + 4) (M := 2) (rest := [.ref q4, .int 1, .ref q1, .ref q1, .ref x]) B hH hA (cy_X3_init B.2.2.2.2.1) (ci_X3_init l a5 c5 (k + 4) _ _ (kdo_2_4 hk) ha4 hc4) ⟨⟨rfl, rfl⟩, Nat.le_of_ble_eq_true rfl, Nat.le_of_ble_eq_true rfl, Nat.le_of_ble_eq_true rfl, Nat.le_of_ble_eq_true rfl⟩ (tg_39 B.2.2.2.2.1) hl.1 (Nat.le_of_ble_eq_true rfl) dX5_init_25 ?_
  clear hH
  intro a6 c6 H locs e1 e2 e3 hH
  have hH : GH Z s _ a6 c6 (k + 6) H locs := hH
  replace la := fun (j : Nat) (h : j < k + 1) => (e1 j (by omega)).trans (la j h)
  replace lc := fun (j : Nat) (h : j < k) => (e2 j (by omega)).trans (lc j h)
  replace hx := (e1 k (by omega)).trans hx
  replace ha1 := (e1 (k + 1) (by omega)).trans ha1
  replace ha2 := (e1 (k + 2) (by omega)).trans ha2
  replace ha4 := (e1 (k + 4) (by omega)).trans ha4
  replace hc := (e2 k (by omega)).trans hc
  replace hc1 := (e2 (k + 1) (by omega)).trans hc1
  replace fb2 := fb2.up (fun i h => e1 i (by omega)) (fun j h1 h2 => e2 j (by omega))
  have fb4 : FB Z a6 c6 (k + 4) (k + 6) := ⟨_, fun _ _ => rfl, e3⟩
  have ho4 := (e3 (k + 4) (by omega) (by omega)).trans (ctz_3 (kdo_2_4 hk))
  refine g_astR B hH (k := k + 1) (k2 := k + 4) (by omega) ha1 hc1 (by omega) ha4 ho4 (by unfold vp_in; decide) dX5_init_28 ?_
  clear hH
  intro c7 H locs e4 e2 hH
  skip
  replace lc := fun (j : Nat) (h : j < k) => (e2 j (by omega)).trans (lc j h)
  replace hc := (e2 k (by omega)).trans hc
  replace fb2 := fb2.up (fun _ _ => rfl) (fun j h1 h2 => e2 j (by omega))
  replace fb4 := fb4.up (fun _ _ => rfl) (fun j h1 h2 => e2 j (by omega))
  clear hc1
  have hc1 := e4
  refine lv_dup B.1 B.2.1 dX5_init_29 rfl ?_
  refine lv_iconst (v := 2) B.1 B.2.1 dX5_init_30 (by decide) ?_
  refine g_new (own := RX5) B hH hA (ci := 2) (fs := [.null, .int 0]) rfl (ul_3 B.2.2.2.2.1) tyX3 tyX3_ok (tg_36 B.2.2.2.2.1) (tg_38 B.2.2.2.2.1) (tg_3 B.2.2.2.2.1) (fun j hj => by rcases (show j = 0 ∨ j = 1 by omega) with rfl | rfl <;> rfl) (Nat.le_of_ble_eq_true rfl) (Nat.le_of_ble_eq_true rfl) dX5_init_31 ?_
  clear hH
  intro q6 a8 c8 H e1 e2 e3 e4 hH
  have hH : GH Z s _ a8 c8 (k + 7) H _ := hH
  replace la := fun (j : Nat) (h : j < k + 1) => (e1 j (by omega)).trans (la j h)
  replace lc := fun (j : Nat) (h : j < k) => (e2 j (by omega)).trans (lc j h)
  replace hx := (e1 k (by omega)).trans hx
  replace ha1 := (e1 (k + 1) (by omega)).trans ha1
  replace ha2 := (e1 (k + 2) (by omega)).trans ha2
  replace ha4 := (e1 (k + 4) (by omega)).trans ha4
  replace hc := (e2 k (by omega)).trans hc
  replace hc1 := (e2 (k + 1) (by omega)).trans hc1
  replace fb2 := fb2.up (fun i h => e1 i (by omega)) (fun j h1 h2 => e2 j (by omega))
  replace fb4 := fb4.up (fun i h => e1 i (by omega)) (fun j h1 h2 => e2 j (by omega))
  have ha6 : a8 (k + 6) = q6 := e3
  have hc6 := e4
  refine lv_dup B.1 B.2.1 dX5_init_34 rfl ?_
  refine g_callN (own := RX5) (k := k + 6) (M := 2) (rest := [.ref q6, .int 2, .ref q1, .ref q1, .ref x]) B hH hA (cy_X3_init B.2.2.2.2.1) (ci_X3_init l a8 c8 (k + 6) _ _ (kdo_2_6 hk) ha6 hc6) ⟨⟨rfl, rfl⟩, Nat.le_of_ble_eq_true rfl, Nat.le_of_ble_eq_true rfl, Nat.le_of_ble_eq_true rfl, Nat.le_of_ble_eq_true rfl⟩ (tg_39 B.2.2.2.2.1) hl.1 (Nat.le_of_ble_eq_true rfl) dX5_init_35 ?_
  clear hH
  intro a9 c9 H locs e1 e2 e3 hH
  have hH : GH Z s _ a9 c9 (k + 8) H locs := hH
  replace la := fun (j : Nat) (h : j < k + 1) => (e1 j (by omega)).trans (la j h)
  replace lc := fun (j : Nat) (h : j < k) => (e2 j (by omega)).trans (lc j h)
  replace hx := (e1 k (by omega)).trans hx
  replace ha1 := (e1 (k + 1) (by omega)).trans ha1
  replace ha2 := (e1 (k + 2) (by omega)).trans ha2
  replace ha4 := (e1 (k + 4) (by omega)).trans ha4
  replace ha6 := (e1 (k + 6) (by omega)).trans ha6
  replace hc := (e2 k (by omega)).trans hc
  replace hc1 := (e2 (k + 1) (by omega)).trans hc1
  replace fb2 := fb2.up (fun i h => e1 i (by omega)) (fun j h1 h2 => e2 j (by omega))
  replace fb4 := fb4.up (fun i h => e1 i (by omega)) (fun j h1 h2 => e2 j (by omega))
  have fb6 : FB Z a9 c9 (k + 6) (k + 8) := ⟨_, fun _ _ => rfl, e3⟩
  have ho6 := (e3 (k + 6) (by omega) (by omega)).trans (ctz_3 (kdo_2_6 hk))
  refine g_astR B hH (k := k + 1) (k2 := k + 6) (by omega) ha1 hc1 (by omega) ha6 ho6 (by unfold vp_in; decide) dX5_init_38 ?_
  clear hH
  intro c10 H locs e4 e2 hH
  skip
  replace lc := fun (j : Nat) (h : j < k) => (e2 j (by omega)).trans (lc j h)
  replace hc := (e2 k (by omega)).trans hc
  replace fb2 := fb2.up (fun _ _ => rfl) (fun j h1 h2 => e2 j (by omega))
  replace fb4 := fb4.up (fun _ _ => rfl) (fun j h1 h2 => e2 j (by omega))
  replace fb6 := fb6.up (fun _ _ => rfl) (fun j h1 h2 => e2 j (by omega))
  clear hc1
  have hc1 := e4
  refine g_putF (own := RX5) B hH (by omega) hx hc rfl (ul_2 B.2.2.2.2.1) tyX5 tyX5_ok nmX5 0 (by decide) (ty := .array (.object "SplicedLoops$Reel")) (by decide +kernel) rfl rfl rfl (Nat.le_of_ble_eq_true rfl) hnm rfl (tg_99 B.2.2.2.2.1) dX5_init_39 ?_
  clear hH
  intro c11 H locs e4 e2 hH
  skip
  replace lc := fun (j : Nat) (h : j < k) => (e2 j (by omega)).trans (lc j h)
  replace hc1 := (e2 (k + 1) (by omega)).trans hc1
  replace fb2 := fb2.up (fun _ _ => rfl) (fun j h1 h2 => e2 j (by omega))
  replace fb4 := fb4.up (fun _ _ => rfl) (fun j h1 h2 => e2 j (by omega))
  replace fb6 := fb6.up (fun _ _ => rfl) (fun j h1 h2 => e2 j (by omega))
  clear hc
  have hc := e4
  refine lv_aload_n B.1 B.2.1 dX5_init_42 rfl (lv_at hl 0 rfl) ?_
  refine lv_iconst (v := 4) B.1 B.2.1 dX5_init_43 (by decide) ?_
  refine g_newqP (own := RX5) B hH hA (N' := 4) (tg_56 B.2.2.2.2.1) (by decide) (by decide) (Nat.le_of_ble_eq_true rfl) (Nat.le_of_ble_eq_true rfl) (Nat.le_of_ble_eq_true rfl) dX5_init_44 ?_
  clear hH
  intro q8 a12 c12 H e1 e2 e3 e4 hH
  have hH : GH Z s _ a12 c12 (k + 9) H _ := hH
  replace la := fun (j : Nat) (h : j < k + 1) => (e1 j (by omega)).trans (la j h)
  replace lc := fun (j : Nat) (h : j < k) => (e2 j (by omega)).trans (lc j h)
  replace hx := (e1 k (by omega)).trans hx
  replace ha1 := (e1 (k + 1) (by omega)).trans ha1
  replace ha2 := (e1 (k + 2) (by omega)).trans ha2
  replace ha4 := (e1 (k + 4) (by omega)).trans ha4
  replace ha6 := (e1 (k + 6) (by omega)).trans ha6
  replace hc1 := (e2 (k + 1) (by omega)).trans hc1
  replace hc := (e2 k (by omega)).trans hc
  replace fb2 := fb2.up (fun i h => e1 i (by omega)) (fun j h1 h2 => e2 j (by omega))
  replace fb4 := fb4.up (fun i h => e1 i (by omega)) (fun j h1 h2 => e2 j (by omega))
  replace fb6 := fb6.up (fun i h => e1 i (by omega)) (fun j h1 h2 => e2 j (by omega))
  have ha8 : a12 (k + 8) = q8 := e3
  have hc8 := e4
  refine lv_dup B.1 B.2.1 dX5_init_47 rfl ?_
  refine lv_iconst (v := 0) B.1 B.2.1 dX5_init_48 (by decide) ?_
  refine g_new (own := RX5) B hH hA (ci := 0) (fs := [.null, .null, .int 0, .int 0, .int 0, .int 0, .int 0, .int 0]) rfl (ul_4 B.2.2.2.2.1) tyX0 tyX0_ok (tg_56 B.2.2.2.2.1) (tg_58 B.2.2.2.2.1) (tg_4 B.2.2.2.2.1) (fun j hj => by rcases (show j = 0 ∨ j = 1 ∨ j = 2 ∨ j = 3 ∨ j = 4 ∨ j = 5 ∨ j = 6 ∨ j = 7 by omega) with rfl | rfl | rfl | rfl | rfl | rfl | rfl | rfl <;> rfl) (Nat.le_of_ble_eq_true rfl) (Nat.le_of_ble_eq_true rfl) dX5_init_49 ?_
  clear hH
  intro q9 a13 c13 H e1 e2 e3 e4 hH
  have hH : GH Z s _ a13 c13 (k + 10) H _ := hH
  replace la := fun (j : Nat) (h : j < k + 1) => (e1 j (by omega)).trans (la j h)
  replace lc := fun (j : Nat) (h : j < k) => (e2 j (by omega)).trans (lc j h)
  replace hx := (e1 k (by omega)).trans hx
  replace ha1 := (e1 (k + 1) (by omega)).trans ha1
  replace ha2 := (e1 (k + 2) (by omega)).trans ha2
  replace ha4 := (e1 (k + 4) (by omega)).trans ha4
  replace ha6 := (e1 (k + 6) (by omega)).trans ha6
  replace ha8 := (e1 (k + 8) (by omega)).trans ha8
  replace hc1 := (e2 (k + 1) (by omega)).trans hc1
  replace hc := (e2 k (by omega)).trans hc
  replace hc8 := (e2 (k + 8) (by omega)).trans hc8
  replace fb2 := fb2.up (fun i h => e1 i (by omega)) (fun j h1 h2 => e2 j (by omega))
  replace fb4 := fb4.up (fun i h => e1 i (by omega)) (fun j h1 h2 => e2 j (by omega))
  replace fb6 := fb6.up (fun i h => e1 i (by omega)) (fun j h1 h2 => e2 j (by omega))
  have ha9 : a13 (k + 9) = q9 := e3
  have hc9 := e4
  refine lv_dup B.1 B.2.1 dX5_init_52 rfl ?_
  refine g_callN (own := RX5) (k := k + 9) (M := 3) (rest := [.ref q9, .int 0, .ref q8, .ref q8, .ref x]) B hH hA (cy_X0_init B.2.2.2.2.1) (ci_X0_init l a13 c13 (k + 9) _ _ (kdo_2_9 hk) ha9 hc9) ⟨⟨rfl, rfl⟩, Nat.le_of_ble_eq_true rfl, Nat.le_of_ble_eq_true rfl, Nat.le_of_ble_eq_true rfl, Nat.le_of_ble_eq_true rfl⟩ (tg_59 B.2.2.2.2.1) hl.1 (Nat.le_of_ble_eq_true rfl) dX5_init_53 ?_
  clear hH
  intro a14 c14 H locs e1 e2 e3 hH
  have hH : GH Z s _ a14 c14 (k + 12) H locs := hH
  replace la := fun (j : Nat) (h : j < k + 1) => (e1 j (by omega)).trans (la j h)
  replace lc := fun (j : Nat) (h : j < k) => (e2 j (by omega)).trans (lc j h)
  replace hx := (e1 k (by omega)).trans hx
  replace ha1 := (e1 (k + 1) (by omega)).trans ha1
  replace ha2 := (e1 (k + 2) (by omega)).trans ha2
  replace ha4 := (e1 (k + 4) (by omega)).trans ha4
  replace ha6 := (e1 (k + 6) (by omega)).trans ha6
  replace ha8 := (e1 (k + 8) (by omega)).trans ha8
  replace ha9 := (e1 (k + 9) (by omega)).trans ha9
  replace hc1 := (e2 (k + 1) (by omega)).trans hc1
  replace hc := (e2 k (by omega)).trans hc
  replace hc8 := (e2 (k + 8) (by omega)).trans hc8
  replace fb2 := fb2.up (fun i h => e1 i (by omega)) (fun j h1 h2 => e2 j (by omega))
  replace fb4 := fb4.up (fun i h => e1 i (by omega)) (fun j h1 h2 => e2 j (by omega))
  replace fb6 := fb6.up (fun i h => e1 i (by omega)) (fun j h1 h2 => e2 j (by omega))
  have fb9 : FB Z a14 c14 (k + 9) (k + 12) := ⟨_, fun _ _ => rfl, e3⟩
  have ho9 := (e3 (k + 9) (by omega) (by omega)).trans (ctz_4 (kdo_2_9 hk))
  refine g_astP B hH (k := k + 8) (k2 := k + 9) (by omega) ha8 hc8 (by omega) ha9 ho9 (by unfold vp_in; decide) dX5_init_56 ?_
  clear hH
  intro c15 H locs e4 e2 hH
  skip
  replace lc := fun (j : Nat) (h : j < k) => (e2 j (by omega)).trans (lc j h)
  replace hc1 := (e2 (k + 1) (by omega)).trans hc1
  replace hc := (e2 k (by omega)).trans hc
  replace fb2 := fb2.up (fun _ _ => rfl) (fun j h1 h2 => e2 j (by omega))
  replace fb4 := fb4.up (fun _ _ => rfl) (fun j h1 h2 => e2 j (by omega))
  replace fb6 := fb6.up (fun _ _ => rfl) (fun j h1 h2 => e2 j (by omega))
  replace fb9 := fb9.up (fun _ _ => rfl) (fun j h1 h2 => e2 j (by omega))
  clear hc8
  have hc8 := e4
  refine lv_dup B.1 B.2.1 dX5_init_57 rfl ?_
  refine lv_iconst (v := 1) B.1 B.2.1 dX5_init_58 (by decide) ?_
  refine g_new (own := RX5) B hH hA (ci := 0) (fs := [.null, .null, .int 0, .int 0, .int 0, .int 0, .int 0, .int 0]) rfl (ul_4 B.2.2.2.2.1) tyX0 tyX0_ok (tg_56 B.2.2.2.2.1) (tg_58 B.2.2.2.2.1) (tg_4 B.2.2.2.2.1) (fun j hj => by rcases (show j = 0 ∨ j = 1 ∨ j = 2 ∨ j = 3 ∨ j = 4 ∨ j = 5 ∨ j = 6 ∨ j = 7 by omega) with rfl | rfl | rfl | rfl | rfl | rfl | rfl | rfl <;> rfl) (Nat.le_of_ble_eq_true rfl) (Nat.le_of_ble_eq_true rfl) dX5_init_59 ?_
  clear hH
  intro q12 a16 c16 H e1 e2 e3 e4 hH
  have hH : GH Z s _ a16 c16 (k + 13) H _ := hH
  replace la := fun (j : Nat) (h : j < k + 1) => (e1 j (by omega)).trans (la j h)
  replace lc := fun (j : Nat) (h : j < k) => (e2 j (by omega)).trans (lc j h)
  replace hx := (e1 k (by omega)).trans hx
  replace ha1 := (e1 (k + 1) (by omega)).trans ha1
  replace ha2 := (e1 (k + 2) (by omega)).trans ha2
  replace ha4 := (e1 (k + 4) (by omega)).trans ha4
  replace ha6 := (e1 (k + 6) (by omega)).trans ha6
  replace ha8 := (e1 (k + 8) (by omega)).trans ha8
  replace ha9 := (e1 (k + 9) (by omega)).trans ha9
  replace hc1 := (e2 (k + 1) (by omega)).trans hc1
  replace hc := (e2 k (by omega)).trans hc
  replace hc8 := (e2 (k + 8) (by omega)).trans hc8
  replace fb2 := fb2.up (fun i h => e1 i (by omega)) (fun j h1 h2 => e2 j (by omega))
  replace fb4 := fb4.up (fun i h => e1 i (by omega)) (fun j h1 h2 => e2 j (by omega))
  replace fb6 := fb6.up (fun i h => e1 i (by omega)) (fun j h1 h2 => e2 j (by omega))
  replace fb9 := fb9.up (fun i h => e1 i (by omega)) (fun j h1 h2 => e2 j (by omega))
  have ha12 : a16 (k + 12) = q12 := e3
  have hc12 := e4
  refine lv_dup B.1 B.2.1 dX5_init_62 rfl ?_
  refine g_callN (own := RX5) (k := k + 12) (M := 3) (rest := [.ref q12, .int 1, .ref q8, .ref q8, .ref x]) B hH hA (cy_X0_init B.2.2.2.2.1) (ci_X0_init l a16 c16 (k + 12) _ _ (kdo_2_12 hk) ha12 hc12) ⟨⟨rfl, rfl⟩, Nat.le_of_ble_eq_true rfl, Nat.le_of_ble_eq_true rfl, Nat.le_of_ble_eq_true rfl, Nat.le_of_ble_eq_true rfl⟩ (tg_59 B.2.2.2.2.1) hl.1 (Nat.le_of_ble_eq_true rfl) dX5_init_63 ?_
  clear hH
  intro a17 c17 H locs e1 e2 e3 hH
  have hH : GH Z s _ a17 c17 (k + 15) H locs := hH
  replace la := fun (j : Nat) (h : j < k + 1) => (e1 j (by omega)).trans (la j h)
  replace lc := fun (j : Nat) (h : j < k) => (e2 j (by omega)).trans (lc j h)
  replace hx := (e1 k (by omega)).trans hx
  replace ha1 := (e1 (k + 1) (by omega)).trans ha1
  replace ha2 := (e1 (k + 2) (by omega)).trans ha2
  replace ha4 := (e1 (k + 4) (by omega)).trans ha4
  replace ha6 := (e1 (k + 6) (by omega)).trans ha6
  replace ha8 := (e1 (k + 8) (by omega)).trans ha8
  replace ha9 := (e1 (k + 9) (by omega)).trans ha9
  replace ha12 := (e1 (k + 12) (by omega)).trans ha12
  replace hc1 := (e2 (k + 1) (by omega)).trans hc1
  replace hc := (e2 k (by omega)).trans hc
  replace hc8 := (e2 (k + 8) (by omega)).trans hc8
  replace fb2 := fb2.up (fun i h => e1 i (by omega)) (fun j h1 h2 => e2 j (by omega))
  replace fb4 := fb4.up (fun i h => e1 i (by omega)) (fun j h1 h2 => e2 j (by omega))
  replace fb6 := fb6.up (fun i h => e1 i (by omega)) (fun j h1 h2 => e2 j (by omega))
  replace fb9 := fb9.up (fun i h => e1 i (by omega)) (fun j h1 h2 => e2 j (by omega))
  have fb12 : FB Z a17 c17 (k + 12) (k + 15) := ⟨_, fun _ _ => rfl, e3⟩
  have ho12 := (e3 (k + 12) (by omega) (by omega)).trans (ctz_4 (kdo_2_12 hk))
  refine g_astP B hH (k := k + 8) (k2 := k + 12) (by omega) ha8 hc8 (by omega) ha12 ho12 (by unfold vp_in; decide) dX5_init_66 ?_
  clear hH
  intro c18 H locs e4 e2 hH
  skip
  replace lc := fun (j : Nat) (h : j < k) => (e2 j (by omega)).trans (lc j h)
  replace hc1 := (e2 (k + 1) (by omega)).trans hc1
  replace hc := (e2 k (by omega)).trans hc
  replace fb2 := fb2.up (fun _ _ => rfl) (fun j h1 h2 => e2 j (by omega))
  replace fb4 := fb4.up (fun _ _ => rfl) (fun j h1 h2 => e2 j (by omega))
  replace fb6 := fb6.up (fun _ _ => rfl) (fun j h1 h2 => e2 j (by omega))
  replace fb9 := fb9.up (fun _ _ => rfl) (fun j h1 h2 => e2 j (by omega))
  replace fb12 := fb12.up (fun _ _ => rfl) (fun j h1 h2 => e2 j (by omega))
  clear hc8
  have hc8 := e4
  refine lv_dup B.1 B.2.1 dX5_init_67 rfl ?_
  refine lv_iconst (v := 2) B.1 B.2.1 dX5_init_68 (by decide) ?_
  refine g_new (own := RX5) B hH hA (ci := 0) (fs := [.null, .null, .int 0, .int 0, .int 0, .int 0, .int 0, .int 0]) rfl (ul_4 B.2.2.2.2.1) tyX0 tyX0_ok (tg_56 B.2.2.2.2.1) (tg_58 B.2.2.2.2.1) (tg_4 B.2.2.2.2.1) (fun j hj => by rcases (show j = 0 ∨ j = 1 ∨ j = 2 ∨ j = 3 ∨ j = 4 ∨ j = 5 ∨ j = 6 ∨ j = 7 by omega) with rfl | rfl | rfl | rfl | rfl | rfl | rfl | rfl <;> rfl) (Nat.le_of_ble_eq_true rfl) (Nat.le_of_ble_eq_true rfl) dX5_init_69 ?_
  clear hH
  intro q15 a19 c19 H e1 e2 e3 e4 hH
  have hH : GH Z s _ a19 c19 (k + 16) H _ := hH
  replace la := fun (j : Nat) (h : j < k + 1) => (e1 j (by omega)).trans (la j h)
  replace lc := fun (j : Nat) (h : j < k) => (e2 j (by omega)).trans (lc j h)
  replace hx := (e1 k (by omega)).trans hx
  replace ha1 := (e1 (k + 1) (by omega)).trans ha1
  replace ha2 := (e1 (k + 2) (by omega)).trans ha2
  replace ha4 := (e1 (k + 4) (by omega)).trans ha4
  replace ha6 := (e1 (k + 6) (by omega)).trans ha6
  replace ha8 := (e1 (k + 8) (by omega)).trans ha8
  replace ha9 := (e1 (k + 9) (by omega)).trans ha9
  replace ha12 := (e1 (k + 12) (by omega)).trans ha12
  replace hc1 := (e2 (k + 1) (by omega)).trans hc1
  replace hc := (e2 k (by omega)).trans hc
  replace hc8 := (e2 (k + 8) (by omega)).trans hc8
  replace fb2 := fb2.up (fun i h => e1 i (by omega)) (fun j h1 h2 => e2 j (by omega))
  replace fb4 := fb4.up (fun i h => e1 i (by omega)) (fun j h1 h2 => e2 j (by omega))
  replace fb6 := fb6.up (fun i h => e1 i (by omega)) (fun j h1 h2 => e2 j (by omega))
  replace fb9 := fb9.up (fun i h => e1 i (by omega)) (fun j h1 h2 => e2 j (by omega))
  replace fb12 := fb12.up (fun i h => e1 i (by omega)) (fun j h1 h2 => e2 j (by omega))
  have ha15 : a19 (k + 15) = q15 := e3
  have hc15 := e4
  refine lv_dup B.1 B.2.1 dX5_init_72 rfl ?_
  refine g_callN (own := RX5) (k := k + 15) (M := 3) (rest := [.ref q15, .int 2, .ref q8, .ref q8, .ref x]) B hH hA (cy_X0_init B.2.2.2.2.1) (ci_X0_init l a19 c19 (k + 15) _ _ (kdo_2_15 hk) ha15 hc15) ⟨⟨rfl, rfl⟩, Nat.le_of_ble_eq_true rfl, Nat.le_of_ble_eq_true rfl, Nat.le_of_ble_eq_true rfl, Nat.le_of_ble_eq_true rfl⟩ (tg_59 B.2.2.2.2.1) hl.1 (Nat.le_of_ble_eq_true rfl) dX5_init_73 ?_
  clear hH
  intro a20 c20 H locs e1 e2 e3 hH
  have hH : GH Z s _ a20 c20 (k + 18) H locs := hH
  replace la := fun (j : Nat) (h : j < k + 1) => (e1 j (by omega)).trans (la j h)
  replace lc := fun (j : Nat) (h : j < k) => (e2 j (by omega)).trans (lc j h)
  replace hx := (e1 k (by omega)).trans hx
  replace ha1 := (e1 (k + 1) (by omega)).trans ha1
  replace ha2 := (e1 (k + 2) (by omega)).trans ha2
  replace ha4 := (e1 (k + 4) (by omega)).trans ha4
  replace ha6 := (e1 (k + 6) (by omega)).trans ha6
  replace ha8 := (e1 (k + 8) (by omega)).trans ha8
  replace ha9 := (e1 (k + 9) (by omega)).trans ha9
  replace ha12 := (e1 (k + 12) (by omega)).trans ha12
  replace ha15 := (e1 (k + 15) (by omega)).trans ha15
  replace hc1 := (e2 (k + 1) (by omega)).trans hc1
  replace hc := (e2 k (by omega)).trans hc
  replace hc8 := (e2 (k + 8) (by omega)).trans hc8
  replace fb2 := fb2.up (fun i h => e1 i (by omega)) (fun j h1 h2 => e2 j (by omega))
  replace fb4 := fb4.up (fun i h => e1 i (by omega)) (fun j h1 h2 => e2 j (by omega))
  replace fb6 := fb6.up (fun i h => e1 i (by omega)) (fun j h1 h2 => e2 j (by omega))
  replace fb9 := fb9.up (fun i h => e1 i (by omega)) (fun j h1 h2 => e2 j (by omega))
  replace fb12 := fb12.up (fun i h => e1 i (by omega)) (fun j h1 h2 => e2 j (by omega))
  have fb15 : FB Z a20 c20 (k + 15) (k + 18) := ⟨_, fun _ _ => rfl, e3⟩
  have ho15 := (e3 (k + 15) (by omega) (by omega)).trans (ctz_4 (kdo_2_15 hk))
  refine g_astP B hH (k := k + 8) (k2 := k + 15) (by omega) ha8 hc8 (by omega) ha15 ho15 (by unfold vp_in; decide) dX5_init_76 ?_
  clear hH
  intro c21 H locs e4 e2 hH
  skip
  replace lc := fun (j : Nat) (h : j < k) => (e2 j (by omega)).trans (lc j h)
  replace hc1 := (e2 (k + 1) (by omega)).trans hc1
  replace hc := (e2 k (by omega)).trans hc
  replace fb2 := fb2.up (fun _ _ => rfl) (fun j h1 h2 => e2 j (by omega))
  replace fb4 := fb4.up (fun _ _ => rfl) (fun j h1 h2 => e2 j (by omega))
  replace fb6 := fb6.up (fun _ _ => rfl) (fun j h1 h2 => e2 j (by omega))
  replace fb9 := fb9.up (fun _ _ => rfl) (fun j h1 h2 => e2 j (by omega))
  replace fb12 := fb12.up (fun _ _ => rfl) (fun j h1 h2 => e2 j (by omega))
  replace fb15 := fb15.up (fun _ _ => rfl) (fun j h1 h2 => e2 j (by omega))
  clear hc8
  have hc8 := e4
  refine lv_dup B.1 B.2.1 dX5_init_77 rfl ?_
  refine lv_iconst (v := 3) B.1 B.2.1 dX5_init_78 (by decide) ?_
  refine g_new (own := RX5) B hH hA (ci := 0) (fs := [.null, .null, .int 0, .int 0, .int 0, .int 0, .int 0, .int 0]) rfl (ul_4 B.2.2.2.2.1) tyX0 tyX0_ok (tg_56 B.2.2.2.2.1) (tg_58 B.2.2.2.2.1) (tg_4 B.2.2.2.2.1) (fun j hj => by rcases (show j = 0 ∨ j = 1 ∨ j = 2 ∨ j = 3 ∨ j = 4 ∨ j = 5 ∨ j = 6 ∨ j = 7 by omega) with rfl | rfl | rfl | rfl | rfl | rfl | rfl | rfl <;> rfl) (Nat.le_of_ble_eq_true rfl) (Nat.le_of_ble_eq_true rfl) dX5_init_79 ?_
  clear hH
  intro q18 a22 c22 H e1 e2 e3 e4 hH
  have hH : GH Z s _ a22 c22 (k + 19) H _ := hH
  replace la := fun (j : Nat) (h : j < k + 1) => (e1 j (by omega)).trans (la j h)
  replace lc := fun (j : Nat) (h : j < k) => (e2 j (by omega)).trans (lc j h)
  replace hx := (e1 k (by omega)).trans hx
  replace ha1 := (e1 (k + 1) (by omega)).trans ha1
  replace ha2 := (e1 (k + 2) (by omega)).trans ha2
  replace ha4 := (e1 (k + 4) (by omega)).trans ha4
  replace ha6 := (e1 (k + 6) (by omega)).trans ha6
  replace ha8 := (e1 (k + 8) (by omega)).trans ha8
  replace ha9 := (e1 (k + 9) (by omega)).trans ha9
  replace ha12 := (e1 (k + 12) (by omega)).trans ha12
  replace ha15 := (e1 (k + 15) (by omega)).trans ha15
  replace hc1 := (e2 (k + 1) (by omega)).trans hc1
  replace hc := (e2 k (by omega)).trans hc
  replace hc8 := (e2 (k + 8) (by omega)).trans hc8
  replace fb2 := fb2.up (fun i h => e1 i (by omega)) (fun j h1 h2 => e2 j (by omega))
  replace fb4 := fb4.up (fun i h => e1 i (by omega)) (fun j h1 h2 => e2 j (by omega))
  replace fb6 := fb6.up (fun i h => e1 i (by omega)) (fun j h1 h2 => e2 j (by omega))
  replace fb9 := fb9.up (fun i h => e1 i (by omega)) (fun j h1 h2 => e2 j (by omega))
  replace fb12 := fb12.up (fun i h => e1 i (by omega)) (fun j h1 h2 => e2 j (by omega))
  replace fb15 := fb15.up (fun i h => e1 i (by omega)) (fun j h1 h2 => e2 j (by omega))
  have ha18 : a22 (k + 18) = q18 := e3
  have hc18 := e4
  refine lv_dup B.1 B.2.1 dX5_init_82 rfl ?_
  refine g_callN (own := RX5) (k := k + 18) (M := 3) (rest := [.ref q18, .int 3, .ref q8, .ref q8, .ref x]) B hH hA (cy_X0_init B.2.2.2.2.1) (ci_X0_init l a22 c22 (k + 18) _ _ (kdo_2_18 hk) ha18 hc18) ⟨⟨rfl, rfl⟩, Nat.le_of_ble_eq_true rfl, Nat.le_of_ble_eq_true rfl, Nat.le_of_ble_eq_true rfl, Nat.le_of_ble_eq_true rfl⟩ (tg_59 B.2.2.2.2.1) hl.1 (Nat.le_of_ble_eq_true rfl) dX5_init_83 ?_
  clear hH
  intro a23 c23 H locs e1 e2 e3 hH
  have hH : GH Z s _ a23 c23 (k + 21) H locs := hH
  replace la := fun (j : Nat) (h : j < k + 1) => (e1 j (by omega)).trans (la j h)
  replace lc := fun (j : Nat) (h : j < k) => (e2 j (by omega)).trans (lc j h)
  replace hx := (e1 k (by omega)).trans hx
  replace ha1 := (e1 (k + 1) (by omega)).trans ha1
  replace ha2 := (e1 (k + 2) (by omega)).trans ha2
  replace ha4 := (e1 (k + 4) (by omega)).trans ha4
  replace ha6 := (e1 (k + 6) (by omega)).trans ha6
  replace ha8 := (e1 (k + 8) (by omega)).trans ha8
  replace ha9 := (e1 (k + 9) (by omega)).trans ha9
  replace ha12 := (e1 (k + 12) (by omega)).trans ha12
  replace ha15 := (e1 (k + 15) (by omega)).trans ha15
  replace ha18 := (e1 (k + 18) (by omega)).trans ha18
  replace hc1 := (e2 (k + 1) (by omega)).trans hc1
  replace hc := (e2 k (by omega)).trans hc
  replace hc8 := (e2 (k + 8) (by omega)).trans hc8
  replace fb2 := fb2.up (fun i h => e1 i (by omega)) (fun j h1 h2 => e2 j (by omega))
  replace fb4 := fb4.up (fun i h => e1 i (by omega)) (fun j h1 h2 => e2 j (by omega))
  replace fb6 := fb6.up (fun i h => e1 i (by omega)) (fun j h1 h2 => e2 j (by omega))
  replace fb9 := fb9.up (fun i h => e1 i (by omega)) (fun j h1 h2 => e2 j (by omega))
  replace fb12 := fb12.up (fun i h => e1 i (by omega)) (fun j h1 h2 => e2 j (by omega))
  replace fb15 := fb15.up (fun i h => e1 i (by omega)) (fun j h1 h2 => e2 j (by omega))
  have fb18 : FB Z a23 c23 (k + 18) (k + 21) := ⟨_, fun _ _ => rfl, e3⟩
  have ho18 := (e3 (k + 18) (by omega) (by omega)).trans (ctz_4 (kdo_2_18 hk))
  refine g_astP B hH (k := k + 8) (k2 := k + 18) (by omega) ha8 hc8 (by omega) ha18 ho18 (by unfold vp_in; decide) dX5_init_86 ?_
  clear hH
  intro c24 H locs e4 e2 hH
  skip
  replace lc := fun (j : Nat) (h : j < k) => (e2 j (by omega)).trans (lc j h)
  replace hc1 := (e2 (k + 1) (by omega)).trans hc1
  replace hc := (e2 k (by omega)).trans hc
  replace fb2 := fb2.up (fun _ _ => rfl) (fun j h1 h2 => e2 j (by omega))
  replace fb4 := fb4.up (fun _ _ => rfl) (fun j h1 h2 => e2 j (by omega))
  replace fb6 := fb6.up (fun _ _ => rfl) (fun j h1 h2 => e2 j (by omega))
  replace fb9 := fb9.up (fun _ _ => rfl) (fun j h1 h2 => e2 j (by omega))
  replace fb12 := fb12.up (fun _ _ => rfl) (fun j h1 h2 => e2 j (by omega))
  replace fb15 := fb15.up (fun _ _ => rfl) (fun j h1 h2 => e2 j (by omega))
  replace fb18 := fb18.up (fun _ _ => rfl) (fun j h1 h2 => e2 j (by omega))
  clear hc8
  have hc8 := e4
  refine g_putF (own := RX5) B hH (by omega) hx hc rfl (ul_2 B.2.2.2.2.1) tyX5 tyX5_ok nmX5 1 (by decide) (ty := .array (.object "SplicedLoops$Loop")) (by decide +kernel) rfl rfl rfl (Nat.le_of_ble_eq_true rfl) hnm rfl (tg_100 B.2.2.2.2.1) dX5_init_87 ?_
  clear hH
  intro c25 H locs e4 e2 hH
  skip
  replace lc := fun (j : Nat) (h : j < k) => (e2 j (by omega)).trans (lc j h)
  replace hc1 := (e2 (k + 1) (by omega)).trans hc1
  replace hc8 := (e2 (k + 8) (by omega)).trans hc8
  replace fb2 := fb2.up (fun _ _ => rfl) (fun j h1 h2 => e2 j (by omega))
  replace fb4 := fb4.up (fun _ _ => rfl) (fun j h1 h2 => e2 j (by omega))
  replace fb6 := fb6.up (fun _ _ => rfl) (fun j h1 h2 => e2 j (by omega))
  replace fb9 := fb9.up (fun _ _ => rfl) (fun j h1 h2 => e2 j (by omega))
  replace fb12 := fb12.up (fun _ _ => rfl) (fun j h1 h2 => e2 j (by omega))
  replace fb15 := fb15.up (fun _ _ => rfl) (fun j h1 h2 => e2 j (by omega))
  replace fb18 := fb18.up (fun _ _ => rfl) (fun j h1 h2 => e2 j (by omega))
  clear hc
  have hc := e4
  refine e_g B hr (a := a23) (f := fun j => if j < k then c25 j else ctz Z a23 j) (gw_fin hH.1 (fun j hj h => ?_)) hH.2.2.1 hH.2.1 ⟨la, fun j h => (if_pos h).trans (lc j h), fun j h1 h2 => if_neg (by omega), hH.2.2.2⟩ dX5_init_90
  by_cases q : j < k
  · rw [if_pos q]; exact h
  · rw [if_neg q]
    by_cases qj0 : j = k
    · rw [qj0] at h ⊢
      rw [hc] at h
      rw [ctz_2 hk, show a23 (k + 1) = _ from ha1, show a23 (k + 8) = _ from ha8]
      exact h
    · by_cases qj1 : j = (k + 1)
      · rw [qj1] at h ⊢
        rw [hc1] at h
        rw [ctz_13 (kdo_2_1 hk)]
        refine at_q (alo_2_1 hk).symm (fun i9 hi9 => ?_) h
        rcases (show i9 = 0 ∨ i9 = 1 ∨ i9 = 2 by omega) with rfl | rfl | rfl
        · exact congrArg some (show a23 (k + 2) = _ from ha2).symm
        · exact congrArg some (show a23 (k + 4) = _ from ha4).symm
        · exact congrArg some (show a23 (k + 6) = _ from ha6).symm
      · by_cases qj8 : j = (k + 8)
        · rw [qj8] at h ⊢
          rw [hc8] at h
          rw [ctz_14 (kdo_2_8 hk)]
          refine at_q (alo_2_8 hk).symm (fun i9 hi9 => ?_) h
          rcases (show i9 = 0 ∨ i9 = 1 ∨ i9 = 2 ∨ i9 = 3 by omega) with rfl | rfl | rfl | rfl
          · exact congrArg some (show a23 (k + 9) = _ from ha9).symm
          · exact congrArg some (show a23 (k + 12) = _ from ha12).symm
          · exact congrArg some (show a23 (k + 15) = _ from ha15).symm
          · exact congrArg some (show a23 (k + 18) = _ from ha18).symm
        · by_cases qb2 : k + 2 ≤ j ∧ j < k + 4
          · exact fb_at fb2 qb2.1 qb2.2 (rmb_3 (kdo_2_2 hk) qb2.1 qb2.2) h
          · by_cases qb4 : k + 4 ≤ j ∧ j < k + 6
            · exact fb_at fb4 qb4.1 qb4.2 (rmb_3 (kdo_2_4 hk) qb4.1 qb4.2) h
            · by_cases qb6 : k + 6 ≤ j ∧ j < k + 8
              · exact fb_at fb6 qb6.1 qb6.2 (rmb_3 (kdo_2_6 hk) qb6.1 qb6.2) h
              · by_cases qb9 : k + 9 ≤ j ∧ j < k + 12
                · exact fb_at fb9 qb9.1 qb9.2 (rmb_4 (kdo_2_9 hk) qb9.1 qb9.2) h
                · by_cases qb12 : k + 12 ≤ j ∧ j < k + 15
                  · exact fb_at fb12 qb12.1 qb12.2 (rmb_4 (kdo_2_12 hk) qb12.1 qb12.2) h
                  · by_cases qb15 : k + 15 ≤ j ∧ j < k + 18
                    · exact fb_at fb15 qb15.1 qb15.2 (rmb_4 (kdo_2_15 hk) qb15.1 qb15.2) h
                    · by_cases qb18 : k + 18 ≤ j ∧ j < k + 21
                      · exact fb_at fb18 qb18.1 qb18.2 (rmb_4 (kdo_2_18 hk) qb18.1 qb18.2) h
                      · exfalso; omega
theorem cy_X4_init {s : State} {args : Array Value} (hG : GG s) : CYI s args yX4_init cX4_init 1 := CYI.of hG (fun _ _ hG => tg_147 hG) (tg_6 hG) (tg_146 hG) rfl (by decide +kernel)
set_option maxRecDepth 100000 in
set_option maxHeartbeats 4000000 in
theorem ci_X4_init {Z : ZT} (l : Launch) (a0 : Nat → Nat) (c0 : Nat → va_E) (k sz x : Nat) (hk : kd k = 5) (hx0 : a0 k = x) (hc0 : c0 k = .inr (3, [.null, .int 0])) : MG Z l yX4_init cX4_init 1 ({ frames := 3, cells := 21, slots := 447, locals := 60 } : Room) a0 c0 k 22 sz 21 447 x := by
  refine open_G (by decide +kernel) (by exact Nat.le_of_ble_eq_true rfl) ?_
  intro p e s m below meth cd B hr hnm hsz ls hl hH
  subst hsz
  have hl : lv_has ls 1 [(0, .ref x)] := hl
  have hA : ∀ q, s.heap.size ≤ q → fg a0 (k + 1) s.heap.size q := fun q h => Or.inr h
  obtain ⟨a, c, la, lc, hx, hc, hH⟩ : ∃ (a : Nat → Nat) (c : Nat → va_E), (∀ j, j < k + 1 → a j = a0 j) ∧ (∀ j, j < k → c j = c0 j) ∧ a k = x ∧ c k = .inr (3, [.null, .int 0]) ∧ GH Z s (fg a0 (k + 1) s.heap.size) a c (k + 1) s.heap [] := ⟨a0, c0, fun _ _ => rfl, fun _ _ => rfl, hx0, hc0, hH⟩
  refine lv_aload_n B.1 B.2.1 dX4_init_0 rfl (lv_at hl 0 rfl) ?_
  refine g_obj B (tg_148 B.2.2.2.2.1) (tg_28 B.2.2.2.2.1) (tg_29 B.2.2.2.2.1) hl.1 dX4_init_1 (Nat.le_of_ble_eq_true rfl) (Nat.le_of_ble_eq_true rfl) ?_
  refine lv_aload_n B.1 B.2.1 dX4_init_4 rfl (lv_at hl 0 rfl) ?_
  refine g_new (own := RX4) B hH hA (ci := 4) (fs := [.null, .null, .int 0, .int 0, .int 0, .int 0]) rfl (ul_2 B.2.2.2.2.1) tyX5 tyX5_ok (tg_149 B.2.2.2.2.1) (tg_31 B.2.2.2.2.1) (tg_2 B.2.2.2.2.1) (fun j hj => by rcases (show j = 0 ∨ j = 1 ∨ j = 2 ∨ j = 3 ∨ j = 4 ∨ j = 5 by omega) with rfl | rfl | rfl | rfl | rfl | rfl <;> rfl) (Nat.le_of_ble_eq_true rfl) (Nat.le_of_ble_eq_true rfl) dX4_init_5 ?_
  clear hH
  intro q1 a1 c1 H e1 e2 e3 e4 hH
  have hH : GH Z s _ a1 c1 (k + 2) H _ := hH
  replace la := fun (j : Nat) (h : j < k + 1) => (e1 j (by omega)).trans (la j h)
  replace lc := fun (j : Nat) (h : j < k) => (e2 j (by omega)).trans (lc j h)
  replace hx := (e1 k (by omega)).trans hx
  replace hc := (e2 k (by omega)).trans hc
  have ha1 : a1 (k + 1) = q1 := e3
  have hc1 := e4
  refine lv_dup B.1 B.2.1 dX4_init_8 rfl ?_
  refine g_callN (own := RX4) (k := k + 1) (M := 21) (rest := [.ref q1, .ref x]) B hH hA (cy_X5_init B.2.2.2.2.1) (ci_X5_init l a1 c1 (k + 1) _ _ (kdo_5_1 hk) ha1 hc1) ⟨⟨rfl, rfl⟩, Nat.le_of_ble_eq_true rfl, Nat.le_of_ble_eq_true rfl, Nat.le_of_ble_eq_true rfl, Nat.le_of_ble_eq_true rfl⟩ (tg_150 B.2.2.2.2.1) hl.1 (Nat.le_of_ble_eq_true rfl) dX4_init_9 ?_
  clear hH
  intro a2 c2 H locs e1 e2 e3 hH
  have hH : GH Z s _ a2 c2 (k + 22) H locs := hH
  replace la := fun (j : Nat) (h : j < k + 1) => (e1 j (by omega)).trans (la j h)
  replace lc := fun (j : Nat) (h : j < k) => (e2 j (by omega)).trans (lc j h)
  replace hx := (e1 k (by omega)).trans hx
  replace ha1 := (e1 (k + 1) (by omega)).trans ha1
  replace hc := (e2 k (by omega)).trans hc
  have fb1 : FB Z a2 c2 (k + 1) (k + 22) := ⟨_, fun _ _ => rfl, e3⟩
  have ho1 := (e3 (k + 1) (by omega) (by omega)).trans (ctz_2 (kdo_5_1 hk))
  refine g_putF (own := RX4) B hH (by omega) hx hc rfl (ul_5 B.2.2.2.2.1) tyX4 tyX4_ok nmX4 0 (by decide) (ty := .object "SplicedLoops$Studio") (by decide +kernel) rfl rfl rfl (Nat.le_of_ble_eq_true rfl) hnm rfl (tg_151 B.2.2.2.2.1) dX4_init_12 ?_
  clear hH
  intro c3 H locs e4 e2 hH
  skip
  replace lc := fun (j : Nat) (h : j < k) => (e2 j (by omega)).trans (lc j h)
  replace fb1 := fb1.up (fun _ _ => rfl) (fun j h1 h2 => e2 j (by omega))
  clear hc
  have hc := e4
  refine e_g B hr (a := a2) (f := fun j => if j < k then c3 j else ctz Z a2 j) (gw_fin hH.1 (fun j hj h => ?_)) hH.2.2.1 hH.2.1 ⟨la, fun j h => (if_pos h).trans (lc j h), fun j h1 h2 => if_neg (by omega), hH.2.2.2⟩ dX4_init_15
  by_cases q : j < k
  · rw [if_pos q]; exact h
  · rw [if_neg q]
    by_cases qj0 : j = k
    · rw [qj0] at h ⊢
      rw [hc] at h
      rw [ctz_5 hk, show a2 (k + 1) = _ from ha1]
      exact h
    · by_cases qb1 : k + 1 ≤ j ∧ j < k + 22
      · exact fb_at fb1 qb1.1 qb1.2 (rmb_2 (kdo_5_1 hk) qb1.1 qb1.2) h
      · exfalso; omega
