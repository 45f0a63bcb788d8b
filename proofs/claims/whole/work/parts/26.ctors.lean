theorem tg_1 {U : State} {A : Array Value} (h : GG U) : (Cond.initialized RX7).before A U = true := h.use (List.mem_append_right _ (List.mem_of_getElem? (i := 1) (by decide +kernel))) (by decide +kernel)
theorem tg_5 {U : State} {A : Array Value} (h : GG U) : (Cond.initialized RX2).before A U = true := h.use (List.mem_append_right _ (List.mem_of_getElem? (i := 5) (by decide +kernel))) (by decide +kernel)
theorem tg_25 {U : State} {A : Array Value} (h : GG U) : (Cond.instanceMethod yX7_init).before A U = true := h.use (List.mem_append_right _ (List.mem_of_getElem? (i := 25) (by decide +kernel))) (by decide +kernel)
theorem tg_26 {U : State} {A : Array Value} (h : GG U) : (Cond.code yX7_init cX7_init 1 none).before A U = true := h.use (List.mem_append_right _ (List.mem_of_getElem? (i := 26) (by decide +kernel))) (by decide +kernel)
theorem tg_27 {U : State} {A : Array Value} (h : GG U) : (Cond.methodLink RX7 1 objectInit).before A U = true := h.use (List.mem_append_right _ (List.mem_of_getElem? (i := 27) (by decide +kernel))) (by decide +kernel)
theorem tg_30 {U : State} {A : Array Value} (h : GG U) : (Cond.classLink RX7 7 RX5).before A U = true := h.use (List.mem_append_right _ (List.mem_of_getElem? (i := 30) (by decide +kernel))) (by decide +kernel)
theorem tg_32 {U : State} {A : Array Value} (h : GG U) : (Cond.methodLinkNest RX7 9 yX5_init "SplicedLoops").before A U = true := h.use (List.mem_append_right _ (List.mem_of_getElem? (i := 32) (by decide +kernel))) (by decide +kernel)
theorem tg_123 {U : State} {A : Array Value} (h : GG U) : (Cond.classLink RX7 19 RX2).before A U = true := h.use (List.mem_append_right _ (List.mem_of_getElem? (i := 123) (by decide +kernel))) (by decide +kernel)
theorem tg_124 {U : State} {A : Array Value} (h : GG U) : (Cond.instantiable RX2 3).before A U = true := h.use (List.mem_append_right _ (List.mem_of_getElem? (i := 124) (by decide +kernel))) (by decide +kernel)
theorem tg_125 {U : State} {A : Array Value} (h : GG U) : (Cond.methodLinkNest RX7 21 yX2_init "SplicedLoops").before A U = true := h.use (List.mem_append_right _ (List.mem_of_getElem? (i := 125) (by decide +kernel))) (by decide +kernel)
theorem tg_126 {U : State} {A : Array Value} (h : GG U) : (Cond.instanceMethod yX2_init).before A U = true := h.use (List.mem_append_right _ (List.mem_of_getElem? (i := 126) (by decide +kernel))) (by decide +kernel)
theorem tg_127 {U : State} {A : Array Value} (h : GG U) : (Cond.code yX2_init cX2_init 2 none).before A U = true := h.use (List.mem_append_right _ (List.mem_of_getElem? (i := 127) (by decide +kernel))) (by decide +kernel)
theorem tg_128 {U : State} {A : Array Value} (h : GG U) : (Cond.methodLink RX2 3 objectInit).before A U = true := h.use (List.mem_append_right _ (List.mem_of_getElem? (i := 128) (by decide +kernel))) (by decide +kernel)
theorem tg_129 {U : State} {A : Array Value} (h : GG U) : (Cond.classLink RX2 9 "SplicedLoops$Studio").before A U = true := h.use (List.mem_append_right _ (List.mem_of_getElem? (i := 129) (by decide +kernel))) (by decide +kernel)
theorem tg_131 {U : State} {A : Array Value} (h : GG U) : (Cond.methodLinkNest RX2 17 yX5_init "SplicedLoops").before A U = true := h.use (List.mem_append_right _ (List.mem_of_getElem? (i := 131) (by decide +kernel))) (by decide +kernel)
theorem tg_132 {U : State} {A : Array Value} (h : GG U) : (Cond.fieldLink RX2 11 (TX2 0).1 (TX2 0).2.1 (TX2 0).2.2.1).before A U = true := h.use (List.mem_append_right _ (List.mem_of_getElem? (i := 132) (by decide +kernel))) (by decide +kernel)
theorem tg_143 {U : State} {A : Array Value} (h : GG U) : (Cond.classLink RX7 26 RX4).before A U = true := h.use (List.mem_append_right _ (List.mem_of_getElem? (i := 143) (by decide +kernel))) (by decide +kernel)
theorem tg_144 {U : State} {A : Array Value} (h : GG U) : (Cond.instantiable RX4 2).before A U = true := h.use (List.mem_append_right _ (List.mem_of_getElem? (i := 144) (by decide +kernel))) (by decide +kernel)
theorem tg_145 {U : State} {A : Array Value} (h : GG U) : (Cond.methodLinkNest RX7 28 yX4_init "SplicedLoops").before A U = true := h.use (List.mem_append_right _ (List.mem_of_getElem? (i := 145) (by decide +kernel))) (by decide +kernel)
theorem tg_159 {U : State} {A : Array Value} (h : GG U) : (Cond.classLink RX7 36 RX6).before A U = true := h.use (List.mem_append_right _ (List.mem_of_getElem? (i := 159) (by decide +kernel))) (by decide +kernel)
theorem tg_160 {U : State} {A : Array Value} (h : GG U) : (Cond.instantiable RX6 5).before A U = true := h.use (List.mem_append_right _ (List.mem_of_getElem? (i := 160) (by decide +kernel))) (by decide +kernel)
theorem tg_161 {U : State} {A : Array Value} (h : GG U) : (Cond.methodLinkNest RX7 38 yX6_init "SplicedLoops").before A U = true := h.use (List.mem_append_right _ (List.mem_of_getElem? (i := 161) (by decide +kernel))) (by decide +kernel)
theorem tg_182 {U : State} {A : Array Value} (h : GG U) : (Cond.fieldLink RX7 10 (TX7 0).1 (TX7 0).2.1 (TX7 0).2.2.1).before A U = true := h.use (List.mem_append_right _ (List.mem_of_getElem? (i := 182) (by decide +kernel))) (by decide +kernel)
theorem tg_183 {U : State} {A : Array Value} (h : GG U) : (Cond.fieldLink RX7 16 (TX7 1).1 (TX7 1).2.1 (TX7 1).2.2.1).before A U = true := h.use (List.mem_append_right _ (List.mem_of_getElem? (i := 183) (by decide +kernel))) (by decide +kernel)
theorem tg_184 {U : State} {A : Array Value} (h : GG U) : (Cond.fieldLink RX7 22 (TX7 2).1 (TX7 2).2.1 (TX7 2).2.2.1).before A U = true := h.use (List.mem_append_right _ (List.mem_of_getElem? (i := 184) (by decide +kernel))) (by decide +kernel)
theorem tg_185 {U : State} {A : Array Value} (h : GG U) : (Cond.fieldLink RX7 29 (TX7 3).1 (TX7 3).2.1 (TX7 3).2.2.1).before A U = true := h.use (List.mem_append_right _ (List.mem_of_getElem? (i := 185) (by decide +kernel))) (by decide +kernel)
theorem tg_186 {U : State} {A : Array Value} (h : GG U) : (Cond.fieldLink RX7 33 (TX7 4).1 (TX7 4).2.1 (TX7 4).2.2.1).before A U = true := h.use (List.mem_append_right _ (List.mem_of_getElem? (i := 186) (by decide +kernel))) (by decide +kernel)
theorem tg_187 {U : State} {A : Array Value} (h : GG U) : (Cond.fieldLink RX7 39 (TX7 5).1 (TX7 5).2.1 (TX7 5).2.2.1).before A U = true := h.use (List.mem_append_right _ (List.mem_of_getElem? (i := 187) (by decide +kernel))) (by decide +kernel)
theorem kdo_1_1 {k : Nat} (e : kd k = 1) : kd (k + 1) = 2 := (by decide +kernel : ∀ k, k < 352 → kd k = 1 → kd (k + 1) = 2) k (kd_lt e (by decide)) e
theorem kdo_1_22 {k : Nat} (e : kd k = 1) : kd (k + 22) = 2 := (by decide +kernel : ∀ k, k < 352 → kd k = 1 → kd (k + 22) = 2) k (kd_lt e (by decide)) e
theorem kdo_1_43 {k : Nat} (e : kd k = 1) : kd (k + 43) = 6 := (by decide +kernel : ∀ k, k < 352 → kd k = 1 → kd (k + 43) = 6) k (kd_lt e (by decide)) e
theorem kdo_1_297 {k : Nat} (e : kd k = 1) : kd (k + 297) = 5 := (by decide +kernel : ∀ k, k < 352 → kd k = 1 → kd (k + 297) = 5) k (kd_lt e (by decide)) e
theorem kdo_1_319 {k : Nat} (e : kd k = 1) : kd (k + 319) = 5 := (by decide +kernel : ∀ k, k < 352 → kd k = 1 → kd (k + 319) = 5) k (kd_lt e (by decide)) e
theorem kdo_1_341 {k : Nat} (e : kd k = 1) : kd (k + 341) = 7 := (by decide +kernel : ∀ k, k < 352 → kd k = 1 → kd (k + 341) = 7) k (kd_lt e (by decide)) e
theorem kdo_6_1 {k : Nat} (e : kd k = 6) : kd (k + 1) = 15 := (by decide +kernel : ∀ k, k < 352 → kd k = 6 → kd (k + 1) = 15) k (kd_lt e (by decide)) e
theorem alo_6_1 {k : Nat} (e : kd k = 6) : al (k + 1) = 12 := (by decide +kernel : ∀ k, k < 352 → kd k = 6 → al (k + 1) = 12) k (kd_lt e (by decide)) e
theorem cy_X2_init {s : State} {args : Array Value} (hG : GG s) : CYI s args yX2_init cX2_init 2 := CYI.of hG (fun _ _ hG => tg_127 hG) (tg_5 hG) (tg_126 hG) rfl (by decide +kernel)
theorem kdp_6 {k i : Nat} (e : kd k = 6) (h : i < 12) : kd (k + 2 + 21 * i) = 2 := (by decide +kernel : ∀ k, k < 352 → kd k = 6 → ∀ i, i < 12 → kd (k + 2 + 21 * i) = 2) k (kd_lt e (by decide)) e i h
set_option maxRecDepth 100000 in
set_option maxHeartbeats 4000000 in
theorem ci_X2_init {Z : ZT} (l : Launch) (a0 : Nat → Nat) (c0 : Nat → va_E) (k sz x : Nat) (hk : kd k = 6) (hx0 : a0 k = x) (hc0 : c0 k = .inr (1, [.null, .int 0, .int 0])) : MG Z l yX2_init cX2_init 2 ({ frames := 3, cells := 253, slots := 5376, locals := 60 } : Room) a0 c0 k 254 sz 253 5376 x := by
  refine open_G (by decide +kernel) (by exact Nat.le_of_ble_eq_true rfl) ?_
  intro p e s m below meth cd B hr hnm hsz ls hl hH
  subst hsz
  have hl : lv_has ls 2 [(0, .ref x)] := hl
  have hA : ∀ q, s.heap.size ≤ q → fg a0 (k + 1) s.heap.size q := fun q h => Or.inr h
  have loop : ∀ (r i : Nat) (a : Nat → Nat) (c : Nat → va_E) (q1 : Nat) (g : Nat → Option Nat) (H : Heap) (locs : List Loc) (ls : Array Slot), i + r = 12 → (∀ j, j < k + 1 → a j = a0 j) → (∀ j, j < k → c j = c0 j) → a k = x → a (k + 1) = q1 → c k = .inr (1, [.ref q1, .int 0, .int 0]) → c (k + 1) = .inl (Z.2.1 5, 12, .inr (.inr (.inr (.inr g)))) → (∀ j, j < i → g j = some (a (k + 2 + 21 * j))) → (∀ j, j < i → FB Z a c (k + 2 + 21 * j) (k + 2 + 21 * j + 21)) → GH Z s (fg a0 (k + 1) s.heap.size) a c (k + 2 + 21 * i) H locs → lv_has ls 2 [(1, .int (nI i)), (0, .ref x)] → W p l e ({ frames := 3, cells := 253, slots := 5376, locals := 60 } : Room) s m ([Value.ref x]).toArray below meth cd H locs (1 + 21 * i) (12 + 447 * i) (MQ below (va_Qv (QG Z a0 c0 k 254 s.heap.size) (BG Z (k + 254)) (fg a0 (k + 1) s.heap.size)) ([Value.ref x]).toArray s 253 5376 (fg a0 (k + 1) s.heap.size)) (F0 m 15 ls []) := by
    intro r
    induction r with
    | zero =>
      intro i a c q1 g H locs ls hi la lc hx ha1 hc hc1 hg hfb hH hl
      have e12 : i = 12 := by omega
      subst e12
      refine lv_iload_n B.1 B.2.1 dX2_init_15 rfl (lv_at hl 0 rfl) ?_
      refine lv_aload_n B.1 B.2.1 dX2_init_16 rfl (lv_at hl 1 rfl) ?_
      refine g_get B hH (own := RX2) (by omega) hx hc rfl (ul_6 B.2.2.2.2.1) 0 (by decide) rfl (tg_132 B.2.2.2.2.1) dX2_init_17 ?_
      refine g_alenS B hH (by omega) ha1 hc1 dX2_init_20 ?_
      refine lv_icmp_ge (tgt := 43) B.1 B.2.1 dX2_init_21 (by decide) (fun _ => ?_) (fun z => absurd (by decide) z)
      refine e_g B hr (a := a) (f := fun j => if j < k then c j else ctz Z a j) (gw_fin hH.1 (fun j hj h => ?_)) hH.2.2.1 hH.2.1 ⟨la, fun j h => (if_pos h).trans (lc j h), fun j h1 h2 => if_neg (by omega), hH.2.2.2⟩ dX2_init_43
      by_cases q : j < k
      · rw [if_pos q]; exact h
      · rw [if_neg q]
        by_cases qj0 : j = k
        · rw [qj0] at h ⊢
          rw [hc] at h
          rw [ctz_6 hk, show a (k + 1) = _ from ha1]
          exact h
        · by_cases qj1 : j = (k + 1)
          · rw [qj1] at h ⊢
            rw [hc1] at h
            rw [ctz_15 (kdo_6_1 hk)]
            exact at_q (alo_6_1 hk).symm (fun i9 hi9 => by rw [hg i9 hi9]) h
          · have hq : (j - (k + 2)) / 21 < 12 := by omega
            have hm := Nat.div_add_mod (j - (k + 2)) 21
            have hm2 := Nat.mod_lt (j - (k + 2)) (show 0 < 21 by decide)
            exact fb_at (hfb _ hq) (by omega) (by omega) (rmb_2 (kdp_6 hk hq) (by omega) (by omega)) h
    | succ r ih =>
      intro i a c q1 g H locs ls hi la lc hx ha1 hc hc1 hg hfb hH hl
      have hi12 : i < 12 := by omega
      have ho9 := kdp_6 hk hi12
      refine lv_iload_n B.1 B.2.1 dX2_init_15 rfl (lv_at hl 0 rfl) ?_
      refine lv_aload_n B.1 B.2.1 dX2_init_16 rfl (lv_at hl 1 rfl) ?_
      refine g_get B hH (own := RX2) (by omega) hx hc rfl (ul_6 B.2.2.2.2.1) 0 (by decide) rfl (tg_132 B.2.2.2.2.1) dX2_init_17 ?_
      refine g_alenS B hH (by omega) ha1 hc1 dX2_init_20 ?_
      refine lv_icmp_ge (tgt := 43) B.1 B.2.1 dX2_init_21 (by decide) (fun z => absurd z (nI_ge hi12 (by decide))) (fun _ => ?_)
      refine lv_aload_n B.1 B.2.1 dX2_init_24 rfl (lv_at hl 1 rfl) ?_
      refine g_get B hH (own := RX2) (by omega) hx hc rfl (ul_6 B.2.2.2.2.1) 0 (by decide) rfl (tg_132 B.2.2.2.2.1) dX2_init_25 ?_
      refine lv_iload_n B.1 B.2.1 dX2_init_28 rfl (lv_at hl 0 rfl) ?_
      refine g_new (own := RX2) B hH hA (ci := 4) (fs := [.null, .null, .int 0, .int 0, .int 0, .int 0]) rfl (ul_2 B.2.2.2.2.1) tyX5 tyX5_ok (tg_129 B.2.2.2.2.1) (tg_31 B.2.2.2.2.1) (tg_2 B.2.2.2.2.1) (fun j hj => by rcases (show j = 0 ∨ j = 1 ∨ j = 2 ∨ j = 3 ∨ j = 4 ∨ j = 5 by omega) with rfl | rfl | rfl | rfl | rfl | rfl <;> rfl) (by show 1 + 21 * i + 1 ≤ 253; omega) (by show 12 + 447 * i + 6 ≤ 5376; omega) dX2_init_29 ?_
      clear hH
      intro q9 a1 c1 H e1 e2 e3 e4 hH
      refine lv_dup B.1 B.2.1 dX2_init_32 rfl ?_
      have hfb1 : ∀ j, j < i → FB Z a1 c1 (k + 2 + 21 * j) (k + 2 + 21 * j + 21) := fun j hj => (hfb j hj).up (fun i h => e1 i (by omega)) (fun j h1 h2 => e2 j (by omega))
      refine g_callN (own := RX2) (k := k + 2 + 21 * i) (M := 21) (rest := [.ref q9, .int (nI i), .ref q1]) B hH hA (cy_X5_init B.2.2.2.2.1) (ci_X5_init l a1 c1 (k + 2 + 21 * i) _ _ ho9 e3 e4) ⟨⟨rfl, rfl⟩, Nat.le_of_ble_eq_true rfl, Nat.le_of_ble_eq_true rfl, (by show 1 + 21 * i + 1 + 20 ≤ 253; omega), (by show 12 + 447 * i + 6 + 441 ≤ 5376; omega)⟩ (tg_131 B.2.2.2.2.1) hl.1 (Nat.le_of_ble_eq_true rfl) dX2_init_33 ?_
      clear hH
      intro a2 c2 H locs f1 f2 f3 hH
      have hc2 := (f3 (k + 2 + 21 * i) (by omega) (by omega)).trans (ctz_2 ho9)
      refine g_astS B hH (k := k + 1) (k2 := k + 2 + 21 * i) (by omega) ((f1 _ (by omega)).trans ((e1 _ (by omega)).trans ha1)) ((f2 _ (by omega)).trans ((e2 _ (by omega)).trans hc1)) (by omega) ((f1 _ (by omega)).trans e3) hc2 (vp_in_nI hi12 (by decide)) dX2_init_36 ?_
      clear hH
      intro c3 H locs g1 g2 hH
      obtain ⟨x9, ex9⟩ : ∃ y : Int32, y = nI i + 1 := ⟨_, rfl⟩
      refine lv_iinc (v := x9) (lv' := [(1, .int x9), (0, .ref x)]) B.1 B.2.1 dX2_init_37 hl (k := 0) rfl (by rw [ex9]; rfl) (by decide) rfl (fun ls hl => ?_)
      refine lv_goto (tgt := 15) B.1 B.2.1 dX2_init_40 (by decide) ?_
      rw [nI_1] at ex9
      subst ex9
      have hcl : (nI i).toNatClampNeg = i := nI_clamp (by omega)
      rw [hcl] at g1
      refine W.widen (k := 1 + 21 * (i + 1)) (n := 12 + 447 * (i + 1)) (by omega) (by omega) ?_
      refine ih (i + 1) a2 c3 q1 _ H locs ls (by omega) (fun j h => (f1 j (by omega)).trans ((e1 j (by omega)).trans (la j h))) (fun j h => (g2 j (by omega)).trans ((f2 j (by omega)).trans ((e2 j (by omega)).trans (lc j h)))) ((f1 _ (by omega)).trans ((e1 _ (by omega)).trans hx)) ((f1 _ (by omega)).trans ((e1 _ (by omega)).trans ha1)) ((g2 _ (by omega)).trans ((f2 _ (by omega)).trans ((e2 _ (by omega)).trans hc))) g1 (fun j hj => ?_) (fun j hj => ?_) hH hl
      · by_cases hji : j = i
        · rw [hji, va_up_self]
          exact congrArg some ((f1 _ (by omega)).trans e3).symm
        · rw [va_up_ne _ _ hji, hg j (by omega)]
          exact congrArg some ((f1 _ (by omega)).trans (e1 _ (by omega))).symm
      · by_cases hji : j = i
        · rw [hji]
          exact ⟨a2, fun _ _ => rfl, fun j h1 h2 => (g2 j (by omega)).trans (f3 j h1 h2)⟩
        · exact (hfb1 j (by omega)).up (fun i h => f1 i (by omega)) (fun j h1 h2 => (g2 j (by omega)).trans (f2 j (by omega)))
  refine lv_aload_n B.1 B.2.1 dX2_init_0 rfl (lv_at hl 0 rfl) ?_
  refine g_obj B (tg_128 B.2.2.2.2.1) (tg_28 B.2.2.2.2.1) (tg_29 B.2.2.2.2.1) hl.1 dX2_init_1 (Nat.le_of_ble_eq_true rfl) (Nat.le_of_ble_eq_true rfl) ?_
  refine lv_aload_n B.1 B.2.1 dX2_init_4 rfl (lv_at hl 0 rfl) ?_
  refine lv_bipush (v := 12) B.1 B.2.1 dX2_init_5 (by decide) ?_
  refine g_newqS (own := RX2) B hH hA (N' := 12) (tg_129 B.2.2.2.2.1) (by decide) (by decide) (Nat.le_of_ble_eq_true rfl) (Nat.le_of_ble_eq_true rfl) (Nat.le_of_ble_eq_true rfl) dX2_init_7 ?_
  clear hH
  intro q1 a c H e1 e2 e3 e4 hH
  have hx := (e1 k (by omega)).trans hx0
  have hc := (e2 k (by omega)).trans hc0
  refine g_putF (own := RX2) B hH (by omega) hx hc rfl (ul_6 B.2.2.2.2.1) tyX2 tyX2_ok nmX2 0 (by decide) (ty := .array (.object "SplicedLoops$Studio")) (by decide +kernel) rfl rfl rfl (Nat.le_of_ble_eq_true rfl) hnm rfl (tg_132 B.2.2.2.2.1) dX2_init_10 ?_
  clear hH
  intro c1 H locs g1 g2 hH
  refine lv_iconst (v := 0) B.1 B.2.1 dX2_init_13 (by decide) ?_
  refine lv_istore_n (lv' := [(1, .int (nI 0)), (0, .ref x)]) B.1 B.2.1 dX2_init_14 rfl hl (by decide) rfl (fun ls hl => ?_)
  exact loop 12 0 a c1 q1 _ H locs ls rfl (fun j h => e1 j h) (fun j h => (g2 j (by omega)).trans (e2 j (by omega))) hx e3 g1 ((g2 _ (by omega)).trans e4) (fun j hj => by omega) (fun j hj => by omega) hH hl

theorem cy_X7_init {s : State} {args : Array Value} (hG : GG s) : CYI s args yX7_init cX7_init 1 := CYI.of hG (fun _ _ hG => tg_26 hG) (tg_1 hG) (tg_25 hG) rfl (by decide +kernel)
set_option maxRecDepth 100000 in
set_option maxHeartbeats 4000000 in
theorem ci_X7_init {Z : ZT} (l : Launch) (a0 : Nat → Nat) (c0 : Nat → va_E) (k sz x : Nat) (hk : kd k = 1) (hx0 : a0 k = x) (hc0 : c0 k = .inr (6, [.null, .null, .null, .null, .null, .null])) : MG Z l yX7_init cX7_init 1 ({ frames := 4, cells := 343, slots := 7300, locals := 81 } : Room) a0 c0 k 344 sz 343 7300 x := by
  refine open_G (by decide +kernel) (by exact Nat.le_of_ble_eq_true rfl) ?_
  intro p e s m below meth cd B hr hnm hsz ls hl hH
  subst hsz
  have hl : lv_has ls 1 [(0, .ref x)] := hl
  have hA : ∀ q, s.heap.size ≤ q → fg a0 (k + 1) s.heap.size q := fun q h => Or.inr h
  obtain ⟨a, c, la, lc, hx, hc, hH⟩ : ∃ (a : Nat → Nat) (c : Nat → va_E), (∀ j, j < k + 1 → a j = a0 j) ∧ (∀ j, j < k → c j = c0 j) ∧ a k = x ∧ c k = .inr (6, [.null, .null, .null, .null, .null, .null]) ∧ GH Z s (fg a0 (k + 1) s.heap.size) a c (k + 1) s.heap [] := ⟨a0, c0, fun _ _ => rfl, fun _ _ => rfl, hx0, hc0, hH⟩
  refine lv_aload_n B.1 B.2.1 dX7_init_0 rfl (lv_at hl 0 rfl) ?_
  refine g_obj B (tg_27 B.2.2.2.2.1) (tg_28 B.2.2.2.2.1) (tg_29 B.2.2.2.2.1) hl.1 dX7_init_1 (Nat.le_of_ble_eq_true rfl) (Nat.le_of_ble_eq_true rfl) ?_
  refine lv_aload_n B.1 B.2.1 dX7_init_4 rfl (lv_at hl 0 rfl) ?_
  refine g_new (own := RX7) B hH hA (ci := 4) (fs := [.null, .null, .int 0, .int 0, .int 0, .int 0]) rfl (ul_2 B.2.2.2.2.1) tyX5 tyX5_ok (tg_30 B.2.2.2.2.1) (tg_31 B.2.2.2.2.1) (tg_2 B.2.2.2.2.1) (fun j hj => by rcases (show j = 0 ∨ j = 1 ∨ j = 2 ∨ j = 3 ∨ j = 4 ∨ j = 5 by omega) with rfl | rfl | rfl | rfl | rfl | rfl <;> rfl) (Nat.le_of_ble_eq_true rfl) (Nat.le_of_ble_eq_true rfl) dX7_init_5 ?_
  clear hH
  intro q1 a1 c1 H e1 e2 e3 e4 hH
  have hH : GH Z s _ a1 c1 (k + 2) H _ := hH
  replace la := fun (j : Nat) (h : j < k + 1) => (e1 j (by omega)).trans (la j h)
  replace lc := fun (j : Nat) (h : j < k) => (e2 j (by omega)).trans (lc j h)
  replace hx := (e1 k (by omega)).trans hx
  replace hc := (e2 k (by omega)).trans hc
  have ha1 : a1 (k + 1) = q1 := e3
  have hc1 := e4
  refine lv_dup B.1 B.2.1 dX7_init_8 rfl ?_
  refine g_callN (own := RX7) (k := k + 1) (M := 21) (rest := [.ref q1, .ref x]) B hH hA (cy_X5_init B.2.2.2.2.1) (ci_X5_init l a1 c1 (k + 1) _ _ (kdo_1_1 hk) ha1 hc1) ⟨⟨rfl, rfl⟩, Nat.le_of_ble_eq_true rfl, Nat.le_of_ble_eq_true rfl, Nat.le_of_ble_eq_true rfl, Nat.le_of_ble_eq_true rfl⟩ (tg_32 B.2.2.2.2.1) hl.1 (Nat.le_of_ble_eq_true rfl) dX7_init_9 ?_
  clear hH
  intro a2 c2 H locs e1 e2 e3 hH
  have hH : GH Z s _ a2 c2 (k + 22) H locs := hH
  replace la := fun (j : Nat) (h : j < k + 1) => (e1 j (by omega)).trans (la j h)
  replace lc := fun (j : Nat) (h : j < k) => (e2 j (by omega)).trans (lc j h)
  replace hx := (e1 k (by omega)).trans hx
  replace ha1 := (e1 (k + 1) (by omega)).trans ha1
  replace hc := (e2 k (by omega)).trans hc
  have fb1 : FB Z a2 c2 (k + 1) (k + 22) := ⟨_, fun _ _ => rfl, e3⟩
  have ho1 := (e3 (k + 1) (by omega) (by omega)).trans (ctz_2 (kdo_1_1 hk))
  refine g_putF (own := RX7) B hH (by omega) hx hc rfl (ul_1 B.2.2.2.2.1) tyX7 tyX7_ok nmX7 0 (by decide) (ty := .object "SplicedLoops$Studio") (by decide +kernel) rfl rfl rfl (Nat.le_of_ble_eq_true rfl) hnm rfl (tg_182 B.2.2.2.2.1) dX7_init_12 ?_
  clear hH
  intro c3 H locs e4 e2 hH
  skip
  replace lc := fun (j : Nat) (h : j < k) => (e2 j (by omega)).trans (lc j h)
  replace fb1 := fb1.up (fun _ _ => rfl) (fun j h1 h2 => e2 j (by omega))
  clear hc
  have hc := e4
  refine lv_aload_n B.1 B.2.1 dX7_init_15 rfl (lv_at hl 0 rfl) ?_
  refine g_new (own := RX7) B hH hA (ci := 4) (fs := [.null, .null, .int 0, .int 0, .int 0, .int 0]) rfl (ul_2 B.2.2.2.2.1) tyX5 tyX5_ok (tg_30 B.2.2.2.2.1) (tg_31 B.2.2.2.2.1) (tg_2 B.2.2.2.2.1) (fun j hj => by rcases (show j = 0 ∨ j = 1 ∨ j = 2 ∨ j = 3 ∨ j = 4 ∨ j = 5 by omega) with rfl | rfl | rfl | rfl | rfl | rfl <;> rfl) (Nat.le_of_ble_eq_true rfl) (Nat.le_of_ble_eq_true rfl) dX7_init_16 ?_
  clear hH
  intro q22 a4 c4 H e1 e2 e3 e4 hH
  have hH : GH Z s _ a4 c4 (k + 23) H _ := hH
  replace la := fun (j : Nat) (h : j < k + 1) => (e1 j (by omega)).trans (la j h)
  replace lc := fun (j : Nat) (h : j < k) => (e2 j (by omega)).trans (lc j h)
  replace hx := (e1 k (by omega)).trans hx
  replace ha1 := (e1 (k + 1) (by omega)).trans ha1
  replace hc := (e2 k (by omega)).trans hc
  replace fb1 := fb1.up (fun i h => e1 i (by omega)) (fun j h1 h2 => e2 j (by omega))
  have ha22 : a4 (k + 22) = q22 := e3
  have hc22 := e4
  refine lv_dup B.1 B.2.1 dX7_init_19 rfl ?_
  refine g_callN (own := RX7) (k := k + 22) (M := 21) (rest := [.ref q22, .ref x]) B hH hA (cy_X5_init B.2.2.2.2.1) (ci_X5_init l a4 c4 (k + 22) _ _ (kdo_1_22 hk) ha22 hc22) ⟨⟨rfl, rfl⟩, Nat.le_of_ble_eq_true rfl, Nat.le_of_ble_eq_true rfl, Nat.le_of_ble_eq_true rfl, Nat.le_of_ble_eq_true rfl⟩ (tg_32 B.2.2.2.2.1) hl.1 (Nat.le_of_ble_eq_true rfl) dX7_init_20 ?_
  clear hH
  intro a5 c5 H locs e1 e2 e3 hH
  have hH : GH Z s _ a5 c5 (k + 43) H locs := hH
  replace la := fun (j : Nat) (h : j < k + 1) => (e1 j (by omega)).trans (la j h)
  replace lc := fun (j : Nat) (h : j < k) => (e2 j (by omega)).trans (lc j h)
  replace hx := (e1 k (by omega)).trans hx
  replace ha1 := (e1 (k + 1) (by omega)).trans ha1
  replace ha22 := (e1 (k + 22) (by omega)).trans ha22
  replace hc := (e2 k (by omega)).trans hc
  replace fb1 := fb1.up (fun i h => e1 i (by omega)) (fun j h1 h2 => e2 j (by omega))
  have fb22 : FB Z a5 c5 (k + 22) (k + 43) := ⟨_, fun _ _ => rfl, e3⟩
  have ho22 := (e3 (k + 22) (by omega) (by omega)).trans (ctz_2 (kdo_1_22 hk))
  refine g_putF (own := RX7) B hH (by omega) hx hc rfl (ul_1 B.2.2.2.2.1) tyX7 tyX7_ok nmX7 1 (by decide) (ty := .object "SplicedLoops$Studio") (by decide +kernel) rfl rfl rfl (Nat.le_of_ble_eq_true rfl) hnm rfl (tg_183 B.2.2.2.2.1) dX7_init_23 ?_
  clear hH
  intro c6 H locs e4 e2 hH
  skip
  replace lc := fun (j : Nat) (h : j < k) => (e2 j (by omega)).trans (lc j h)
  replace fb1 := fb1.up (fun _ _ => rfl) (fun j h1 h2 => e2 j (by omega))
  replace fb22 := fb22.up (fun _ _ => rfl) (fun j h1 h2 => e2 j (by omega))
  clear hc
  have hc := e4
  refine lv_aload_n B.1 B.2.1 dX7_init_26 rfl (lv_at hl 0 rfl) ?_
  refine g_new (own := RX7) B hH hA (ci := 1) (fs := [.null, .int 0, .int 0]) rfl (ul_6 B.2.2.2.2.1) tyX2 tyX2_ok (tg_123 B.2.2.2.2.1) (tg_124 B.2.2.2.2.1) (tg_5 B.2.2.2.2.1) (fun j hj => by rcases (show j = 0 ∨ j = 1 ∨ j = 2 by omega) with rfl | rfl | rfl <;> rfl) (Nat.le_of_ble_eq_true rfl) (Nat.le_of_ble_eq_true rfl) dX7_init_27 ?_
  clear hH
  intro q43 a7 c7 H e1 e2 e3 e4 hH
  have hH : GH Z s _ a7 c7 (k + 44) H _ := hH
  replace la := fun (j : Nat) (h : j < k + 1) => (e1 j (by omega)).trans (la j h)
  replace lc := fun (j : Nat) (h : j < k) => (e2 j (by omega)).trans (lc j h)
  replace hx := (e1 k (by omega)).trans hx
  replace ha1 := (e1 (k + 1) (by omega)).trans ha1
  replace ha22 := (e1 (k + 22) (by omega)).trans ha22
  replace hc := (e2 k (by omega)).trans hc
  replace fb1 := fb1.up (fun i h => e1 i (by omega)) (fun j h1 h2 => e2 j (by omega))
  replace fb22 := fb22.up (fun i h => e1 i (by omega)) (fun j h1 h2 => e2 j (by omega))
  have ha43 : a7 (k + 43) = q43 := e3
  have hc43 := e4
  refine lv_dup B.1 B.2.1 dX7_init_30 rfl ?_
  refine g_callN (own := RX7) (k := k + 43) (M := 254) (rest := [.ref q43, .ref x]) B hH hA (cy_X2_init B.2.2.2.2.1) (ci_X2_init l a7 c7 (k + 43) _ _ (kdo_1_43 hk) ha43 hc43) ⟨⟨rfl, rfl⟩, Nat.le_of_ble_eq_true rfl, Nat.le_of_ble_eq_true rfl, Nat.le_of_ble_eq_true rfl, Nat.le_of_ble_eq_true rfl⟩ (tg_125 B.2.2.2.2.1) hl.1 (Nat.le_of_ble_eq_true rfl) dX7_init_31 ?_
  clear hH
  intro a8 c8 H locs e1 e2 e3 hH
  have hH : GH Z s _ a8 c8 (k + 297) H locs := hH
  replace la := fun (j : Nat) (h : j < k + 1) => (e1 j (by omega)).trans (la j h)
  replace lc := fun (j : Nat) (h : j < k) => (e2 j (by omega)).trans (lc j h)
  replace hx := (e1 k (by omega)).trans hx
  replace ha1 := (e1 (k + 1) (by omega)).trans ha1
  replace ha22 := (e1 (k + 22) (by omega)).trans ha22
  replace ha43 := (e1 (k + 43) (by omega)).trans ha43
  replace hc := (e2 k (by omega)).trans hc
  replace fb1 := fb1.up (fun i h => e1 i (by omega)) (fun j h1 h2 => e2 j (by omega))
  replace fb22 := fb22.up (fun i h => e1 i (by omega)) (fun j h1 h2 => e2 j (by omega))
  have fb43 : FB Z a8 c8 (k + 43) (k + 297) := ⟨_, fun _ _ => rfl, e3⟩
  have ho43 := (e3 (k + 43) (by omega) (by omega)).trans (ctz_6 (kdo_1_43 hk))
  refine g_putF (own := RX7) B hH (by omega) hx hc rfl (ul_1 B.2.2.2.2.1) tyX7 tyX7_ok nmX7 2 (by decide) (ty := .object "SplicedLoops$Past") (by decide +kernel) rfl rfl rfl (Nat.le_of_ble_eq_true rfl) hnm rfl (tg_184 B.2.2.2.2.1) dX7_init_34 ?_
  clear hH
  intro c9 H locs e4 e2 hH
  skip
  replace lc := fun (j : Nat) (h : j < k) => (e2 j (by omega)).trans (lc j h)
  replace fb1 := fb1.up (fun _ _ => rfl) (fun j h1 h2 => e2 j (by omega))
  replace fb22 := fb22.up (fun _ _ => rfl) (fun j h1 h2 => e2 j (by omega))
  replace fb43 := fb43.up (fun _ _ => rfl) (fun j h1 h2 => e2 j (by omega))
  clear hc
  have hc := e4
  refine lv_aload_n B.1 B.2.1 dX7_init_37 rfl (lv_at hl 0 rfl) ?_
  refine g_new (own := RX7) B hH hA (ci := 3) (fs := [.null, .int 0]) rfl (ul_5 B.2.2.2.2.1) tyX4 tyX4_ok (tg_143 B.2.2.2.2.1) (tg_144 B.2.2.2.2.1) (tg_6 B.2.2.2.2.1) (fun j hj => by rcases (show j = 0 ∨ j = 1 by omega) with rfl | rfl <;> rfl) (Nat.le_of_ble_eq_true rfl) (Nat.le_of_ble_eq_true rfl) dX7_init_38 ?_
  clear hH
  intro q297 a10 c10 H e1 e2 e3 e4 hH
  have hH : GH Z s _ a10 c10 (k + 298) H _ := hH
  replace la := fun (j : Nat) (h : j < k + 1) => (e1 j (by omega)).trans (la j h)
  replace lc := fun (j : Nat) (h : j < k) => (e2 j (by omega)).trans (lc j h)
  replace hx := (e1 k (by omega)).trans hx
  replace ha1 := (e1 (k + 1) (by omega)).trans ha1
  replace ha22 := (e1 (k + 22) (by omega)).trans ha22
  replace ha43 := (e1 (k + 43) (by omega)).trans ha43
  replace hc := (e2 k (by omega)).trans hc
  replace fb1 := fb1.up (fun i h => e1 i (by omega)) (fun j h1 h2 => e2 j (by omega))
  replace fb22 := fb22.up (fun i h => e1 i (by omega)) (fun j h1 h2 => e2 j (by omega))
  replace fb43 := fb43.up (fun i h => e1 i (by omega)) (fun j h1 h2 => e2 j (by omega))
  have ha297 : a10 (k + 297) = q297 := e3
  have hc297 := e4
  refine lv_dup B.1 B.2.1 dX7_init_41 rfl ?_
  refine g_callN (own := RX7) (k := k + 297) (M := 22) (rest := [.ref q297, .ref x]) B hH hA (cy_X4_init B.2.2.2.2.1) (ci_X4_init l a10 c10 (k + 297) _ _ (kdo_1_297 hk) ha297 hc297) ⟨⟨rfl, rfl⟩, Nat.le_of_ble_eq_true rfl, Nat.le_of_ble_eq_true rfl, Nat.le_of_ble_eq_true rfl, Nat.le_of_ble_eq_true rfl⟩ (tg_145 B.2.2.2.2.1) hl.1 (Nat.le_of_ble_eq_true rfl) dX7_init_42 ?_
  clear hH
  intro a11 c11 H locs e1 e2 e3 hH
  have hH : GH Z s _ a11 c11 (k + 319) H locs := hH
  replace la := fun (j : Nat) (h : j < k + 1) => (e1 j (by omega)).trans (la j h)
  replace lc := fun (j : Nat) (h : j < k) => (e2 j (by omega)).trans (lc j h)
  replace hx := (e1 k (by omega)).trans hx
  replace ha1 := (e1 (k + 1) (by omega)).trans ha1
  replace ha22 := (e1 (k + 22) (by omega)).trans ha22
  replace ha43 := (e1 (k + 43) (by omega)).trans ha43
  replace ha297 := (e1 (k + 297) (by omega)).trans ha297
  replace hc := (e2 k (by omega)).trans hc
  replace fb1 := fb1.up (fun i h => e1 i (by omega)) (fun j h1 h2 => e2 j (by omega))
  replace fb22 := fb22.up (fun i h => e1 i (by omega)) (fun j h1 h2 => e2 j (by omega))
  replace fb43 := fb43.up (fun i h => e1 i (by omega)) (fun j h1 h2 => e2 j (by omega))
  have fb297 : FB Z a11 c11 (k + 297) (k + 319) := ⟨_, fun _ _ => rfl, e3⟩
  have ho297 := (e3 (k + 297) (by omega) (by omega)).trans (ctz_5 (kdo_1_297 hk))
  refine g_putF (own := RX7) B hH (by omega) hx hc rfl (ul_1 B.2.2.2.2.1) tyX7 tyX7_ok nmX7 3 (by decide) (ty := .object "SplicedLoops$Slot") (by decide +kernel) rfl rfl rfl (Nat.le_of_ble_eq_true rfl) hnm rfl (tg_185 B.2.2.2.2.1) dX7_init_45 ?_
  clear hH
  intro c12 H locs e4 e2 hH
  skip
  replace lc := fun (j : Nat) (h : j < k) => (e2 j (by omega)).trans (lc j h)
  replace fb1 := fb1.up (fun _ _ => rfl) (fun j h1 h2 => e2 j (by omega))
  replace fb22 := fb22.up (fun _ _ => rfl) (fun j h1 h2 => e2 j (by omega))
  replace fb43 := fb43.up (fun _ _ => rfl) (fun j h1 h2 => e2 j (by omega))
  replace fb297 := fb297.up (fun _ _ => rfl) (fun j h1 h2 => e2 j (by omega))
  clear hc
  have hc := e4
  refine lv_aload_n B.1 B.2.1 dX7_init_48 rfl (lv_at hl 0 rfl) ?_
  refine g_new (own := RX7) B hH hA (ci := 3) (fs := [.null, .int 0]) rfl (ul_5 B.2.2.2.2.1) tyX4 tyX4_ok (tg_143 B.2.2.2.2.1) (tg_144 B.2.2.2.2.1) (tg_6 B.2.2.2.2.1) (fun j hj => by rcases (show j = 0 ∨ j = 1 by omega) with rfl | rfl <;> rfl) (Nat.le_of_ble_eq_true rfl) (Nat.le_of_ble_eq_true rfl) dX7_init_49 ?_
  clear hH
  intro q319 a13 c13 H e1 e2 e3 e4 hH
  have hH : GH Z s _ a13 c13 (k + 320) H _ := hH
  replace la := fun (j : Nat) (h : j < k + 1) => (e1 j (by omega)).trans (la j h)
  replace lc := fun (j : Nat) (h : j < k) => (e2 j (by omega)).trans (lc j h)
  replace hx := (e1 k (by omega)).trans hx
  replace ha1 := (e1 (k + 1) (by omega)).trans ha1
  replace ha22 := (e1 (k + 22) (by omega)).trans ha22
  replace ha43 := (e1 (k + 43) (by omega)).trans ha43
  replace ha297 := (e1 (k + 297) (by omega)).trans ha297
  replace hc := (e2 k (by omega)).trans hc
  replace fb1 := fb1.up (fun i h => e1 i (by omega)) (fun j h1 h2 => e2 j (by omega))
  replace fb22 := fb22.up (fun i h => e1 i (by omega)) (fun j h1 h2 => e2 j (by omega))
  replace fb43 := fb43.up (fun i h => e1 i (by omega)) (fun j h1 h2 => e2 j (by omega))
  replace fb297 := fb297.up (fun i h => e1 i (by omega)) (fun j h1 h2 => e2 j (by omega))
  have ha319 : a13 (k + 319) = q319 := e3
  have hc319 := e4
  refine lv_dup B.1 B.2.1 dX7_init_52 rfl ?_
  refine g_callN (own := RX7) (k := k + 319) (M := 22) (rest := [.ref q319, .ref x]) B hH hA (cy_X4_init B.2.2.2.2.1) (ci_X4_init l a13 c13 (k + 319) _ _ (kdo_1_319 hk) ha319 hc319) ⟨⟨rfl, rfl⟩, Nat.le_of_ble_eq_true rfl, Nat.le_of_ble_eq_true rfl, Nat.le_of_ble_eq_true rfl, Nat.le_of_ble_eq_true rfl⟩ (tg_145 B.2.2.2.2.1) hl.1 (Nat.le_of_ble_eq_true rfl) dX7_init_53 ?_
  clear hH
  intro a14 c14 H locs e1 e2 e3 hH
  have hH : GH Z s _ a14 c14 (k + 341) H locs := hH
  replace la := fun (j : Nat) (h : j < k + 1) => (e1 j (by omega)).trans (la j h)
  replace lc := fun (j : Nat) (h : j < k) => (e2 j (by omega)).trans (lc j h)
  replace hx := (e1 k (by omega)).trans hx
  replace ha1 := (e1 (k + 1) (by omega)).trans ha1
  replace ha22 := (e1 (k + 22) (by omega)).trans ha22
  replace ha43 := (e1 (k + 43) (by omega)).trans ha43
  replace ha297 := (e1 (k + 297) (by omega)).trans ha297
  replace ha319 := (e1 (k + 319) (by omega)).trans ha319
  replace hc := (e2 k (by omega)).trans hc
  replace fb1 := fb1.up (fun i h => e1 i (by omega)) (fun j h1 h2 => e2 j (by omega))
  replace fb22 := fb22.up (fun i h => e1 i (by omega)) (fun j h1 h2 => e2 j (by omega))
  replace fb43 := fb43.up (fun i h => e1 i (by omega)) (fun j h1 h2 => e2 j (by omega))
  replace fb297 := fb297.up (fun i h => e1 i (by omega)) (fun j h1 h2 => e2 j (by omega))
  have fb319 : FB Z a14 c14 (k + 319) (k + 341) := ⟨_, fun _ _ => rfl, e3⟩
  have ho319 := (e3 (k + 319) (by omega) (by omega)).trans (ctz_5 (kdo_1_319 hk))
  refine g_putF (own := RX7) B hH (by omega) hx hc rfl (ul_1 B.2.2.2.2.1) tyX7 tyX7_ok nmX7 4 (by decide) (ty := .object "SplicedLoops$Slot") (by decide +kernel) rfl rfl rfl (Nat.le_of_ble_eq_true rfl) hnm rfl (tg_186 B.2.2.2.2.1) dX7_init_56 ?_
  clear hH
  intro c15 H locs e4 e2 hH
  skip
  replace lc := fun (j : Nat) (h : j < k) => (e2 j (by omega)).trans (lc j h)
  replace fb1 := fb1.up (fun _ _ => rfl) (fun j h1 h2 => e2 j (by omega))
  replace fb22 := fb22.up (fun _ _ => rfl) (fun j h1 h2 => e2 j (by omega))
  replace fb43 := fb43.up (fun _ _ => rfl) (fun j h1 h2 => e2 j (by omega))
  replace fb297 := fb297.up (fun _ _ => rfl) (fun j h1 h2 => e2 j (by omega))
  replace fb319 := fb319.up (fun _ _ => rfl) (fun j h1 h2 => e2 j (by omega))
  clear hc
  have hc := e4
  refine lv_aload_n B.1 B.2.1 dX7_init_59 rfl (lv_at hl 0 rfl) ?_
  refine g_new (own := RX7) B hH hA (ci := 5) (fs := [.null, .null, .int 0, .int 0, .int 0]) rfl (ul_7 B.2.2.2.2.1) tyX6 tyX6_ok (tg_159 B.2.2.2.2.1) (tg_160 B.2.2.2.2.1) (tg_7 B.2.2.2.2.1) (fun j hj => by rcases (show j = 0 ∨ j = 1 ∨ j = 2 ∨ j = 3 ∨ j = 4 by omega) with rfl | rfl | rfl | rfl | rfl <;> rfl) (Nat.le_of_ble_eq_true rfl) (Nat.le_of_ble_eq_true rfl) dX7_init_60 ?_
  clear hH
  intro q341 a16 c16 H e1 e2 e3 e4 hH
  have hH : GH Z s _ a16 c16 (k + 342) H _ := hH
  replace la := fun (j : Nat) (h : j < k + 1) => (e1 j (by omega)).trans (la j h)
  replace lc := fun (j : Nat) (h : j < k) => (e2 j (by omega)).trans (lc j h)
  replace hx := (e1 k (by omega)).trans hx
  replace ha1 := (e1 (k + 1) (by omega)).trans ha1
  replace ha22 := (e1 (k + 22) (by omega)).trans ha22
  replace ha43 := (e1 (k + 43) (by omega)).trans ha43
  replace ha297 := (e1 (k + 297) (by omega)).trans ha297
  replace ha319 := (e1 (k + 319) (by omega)).trans ha319
  replace hc := (e2 k (by omega)).trans hc
  replace fb1 := fb1.up (fun i h => e1 i (by omega)) (fun j h1 h2 => e2 j (by omega))
  replace fb22 := fb22.up (fun i h => e1 i (by omega)) (fun j h1 h2 => e2 j (by omega))
  replace fb43 := fb43.up (fun i h => e1 i (by omega)) (fun j h1 h2 => e2 j (by omega))
  replace fb297 := fb297.up (fun i h => e1 i (by omega)) (fun j h1 h2 => e2 j (by omega))
  replace fb319 := fb319.up (fun i h => e1 i (by omega)) (fun j h1 h2 => e2 j (by omega))
  have ha341 : a16 (k + 341) = q341 := e3
  have hc341 := e4
  refine lv_dup B.1 B.2.1 dX7_init_63 rfl ?_
  refine g_callN (own := RX7) (k := k + 341) (M := 3) (rest := [.ref q341, .ref x]) B hH hA (cy_X6_init B.2.2.2.2.1) (ci_X6_init l a16 c16 (k + 341) _ _ (kdo_1_341 hk) ha341 hc341) ⟨⟨rfl, rfl⟩, Nat.le_of_ble_eq_true rfl, Nat.le_of_ble_eq_true rfl, Nat.le_of_ble_eq_true rfl, Nat.le_of_ble_eq_true rfl⟩ (tg_161 B.2.2.2.2.1) hl.1 (Nat.le_of_ble_eq_true rfl) dX7_init_64 ?_
  clear hH
  intro a17 c17 H locs e1 e2 e3 hH
  have hH : GH Z s _ a17 c17 (k + 344) H locs := hH
  replace la := fun (j : Nat) (h : j < k + 1) => (e1 j (by omega)).trans (la j h)
  replace lc := fun (j : Nat) (h : j < k) => (e2 j (by omega)).trans (lc j h)
  replace hx := (e1 k (by omega)).trans hx
  replace ha1 := (e1 (k + 1) (by omega)).trans ha1
  replace ha22 := (e1 (k + 22) (by omega)).trans ha22
  replace ha43 := (e1 (k + 43) (by omega)).trans ha43
  replace ha297 := (e1 (k + 297) (by omega)).trans ha297
  replace ha319 := (e1 (k + 319) (by omega)).trans ha319
  replace ha341 := (e1 (k + 341) (by omega)).trans ha341
  replace hc := (e2 k (by omega)).trans hc
  replace fb1 := fb1.up (fun i h => e1 i (by omega)) (fun j h1 h2 => e2 j (by omega))
  replace fb22 := fb22.up (fun i h => e1 i (by omega)) (fun j h1 h2 => e2 j (by omega))
  replace fb43 := fb43.up (fun i h => e1 i (by omega)) (fun j h1 h2 => e2 j (by omega))
  replace fb297 := fb297.up (fun i h => e1 i (by omega)) (fun j h1 h2 => e2 j (by omega))
  replace fb319 := fb319.up (fun i h => e1 i (by omega)) (fun j h1 h2 => e2 j (by omega))
  have fb341 : FB Z a17 c17 (k + 341) (k + 344) := ⟨_, fun _ _ => rfl, e3⟩
  have ho341 := (e3 (k + 341) (by omega) (by omega)).trans (ctz_7 (kdo_1_341 hk))
  refine g_putF (own := RX7) B hH (by omega) hx hc rfl (ul_1 B.2.2.2.2.1) tyX7 tyX7_ok nmX7 5 (by decide) (ty := .object "SplicedLoops$Text") (by decide +kernel) rfl rfl rfl (Nat.le_of_ble_eq_true rfl) hnm rfl (tg_187 B.2.2.2.2.1) dX7_init_67 ?_
  clear hH
  intro c18 H locs e4 e2 hH
  skip
  replace lc := fun (j : Nat) (h : j < k) => (e2 j (by omega)).trans (lc j h)
  replace fb1 := fb1.up (fun _ _ => rfl) (fun j h1 h2 => e2 j (by omega))
  replace fb22 := fb22.up (fun _ _ => rfl) (fun j h1 h2 => e2 j (by omega))
  replace fb43 := fb43.up (fun _ _ => rfl) (fun j h1 h2 => e2 j (by omega))
  replace fb297 := fb297.up (fun _ _ => rfl) (fun j h1 h2 => e2 j (by omega))
  replace fb319 := fb319.up (fun _ _ => rfl) (fun j h1 h2 => e2 j (by omega))
  replace fb341 := fb341.up (fun _ _ => rfl) (fun j h1 h2 => e2 j (by omega))
  clear hc
  have hc := e4
  refine e_g B hr (a := a17) (f := fun j => if j < k then c18 j else ctz Z a17 j) (gw_fin hH.1 (fun j hj h => ?_)) hH.2.2.1 hH.2.1 ⟨la, fun j h => (if_pos h).trans (lc j h), fun j h1 h2 => if_neg (by omega), hH.2.2.2⟩ dX7_init_70
  by_cases q : j < k
  · rw [if_pos q]; exact h
  · rw [if_neg q]
    by_cases qj0 : j = k
    · rw [qj0] at h ⊢
      rw [hc] at h
      rw [ctz_1 hk, show a17 (k + 1) = _ from ha1, show a17 (k + 22) = _ from ha22, show a17 (k + 43) = _ from ha43, show a17 (k + 297) = _ from ha297, show a17 (k + 319) = _ from ha319, show a17 (k + 341) = _ from ha341]
      exact h
    · by_cases qb1 : k + 1 ≤ j ∧ j < k + 22
      · exact fb_at fb1 qb1.1 qb1.2 (rmb_2 (kdo_1_1 hk) qb1.1 qb1.2) h
      · by_cases qb22 : k + 22 ≤ j ∧ j < k + 43
        · exact fb_at fb22 qb22.1 qb22.2 (rmb_2 (kdo_1_22 hk) qb22.1 qb22.2) h
        · by_cases qb43 : k + 43 ≤ j ∧ j < k + 297
          · exact fb_at fb43 qb43.1 qb43.2 (rmb_6 (kdo_1_43 hk) qb43.1 qb43.2) h
          · by_cases qb297 : k + 297 ≤ j ∧ j < k + 319
            · exact fb_at fb297 qb297.1 qb297.2 (rmb_5 (kdo_1_297 hk) qb297.1 qb297.2) h
            · by_cases qb319 : k + 319 ≤ j ∧ j < k + 341
              · exact fb_at fb319 qb319.1 qb319.2 (rmb_5 (kdo_1_319 hk) qb319.1 qb319.2) h
              · by_cases qb341 : k + 341 ≤ j ∧ j < k + 344
                · exact fb_at fb341 qb341.1 qb341.2 (rmb_7 (kdo_1_341 hk) qb341.1 qb341.2) h
                · exfalso; omega
