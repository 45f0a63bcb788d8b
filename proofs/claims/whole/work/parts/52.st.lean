
theorem clear_0 : wp_X8_clear 346 (fun _ _ => 0) (fun h => h = fun _ _ => 0) := by
  have z : ∀ i, up2 (fun _ _ => 0) 346 i 0 = fun _ _ => 0 := by
    intro i
    funext k j
    unfold up2
    split <;> rfl
  refine ⟨428, ?_⟩
  suffices H : ∀ d i, i + d = 427 → wp_X8_clear_b2 346 (fun h => h = fun _ _ => 0) (d + 1) (nI i) (fun _ _ => 0) from H 427 0 (by omega)
  intro d
  induction d with
  | zero =>
    intro i hi
    unfold wp_X8_clear_b2
    rw [li_427]
    exact bt (nI_le (by omega) (by omega)) rfl
  | succ d ih =>
    intro i hi
    unfold wp_X8_clear_b2
    rw [al_346, li_427]
    refine bf (nI_ge (by omega) (by omega)) ⟨vp_in_nI (by omega) (by omega), ?_⟩
    rintro h3 rfl x rfl
    rw [nI_1, nI_clamp (by omega), z]
    exact ih (i + 1) (by omega)
theorem II_0 : II (fun _ _ => 0) := by
  have no : ¬ 0 = 1 := by decide
  refine ⟨zeS, fun _ => zeS, 0, 0, fun _ => zeS, fun _ => 0, 0, fun _ => 0, ⟨Inv.ze, ⟨⟨SB_1.1, SB_1.2.1, rfl, rfl, rfl, fun r hr => absurd hr (Nat.not_lt_zero r), fun l hl => absurd hl (Nat.not_lt_zero l)⟩, rfl⟩, ⟨fun j hj => rfl, fun r hr => ⟨rfl, fun c hc => rfl⟩, fun l hl w hw => rfl⟩⟩, ⟨⟨by omega, by omega, fun i hi => absurd hi (Nat.not_lt_zero i)⟩, ⟨rfl, rfl, fun i hi => absurd hi (Nat.not_lt_zero i)⟩, ⟨rfl, fun i hi => absurd hi (Nat.not_lt_zero i)⟩⟩, ⟨fun j hj => ⟨Nat.zero_le 1, fun z => absurd z no⟩, fun j hj => ⟨rfl, fun z => absurd z no⟩, fun j hj => ⟨rfl, fun z => absurd z no⟩⟩, ⟨⟨by omega, fun k hk => absurd hk (Nat.not_lt_zero k)⟩, ⟨rfl, fun k hk => absurd hk (Nat.not_lt_zero k)⟩, ⟨rfl, fun k hk => absurd hk (Nat.not_lt_zero k)⟩⟩⟩
theorem ra_p {s : State} {args : Array Value} {ty : FieldType} (h : (Cond.arrayClass ty).before args s = true) (hty : ty = .int ∨ ty = .boolean ∨ ty = .long) : ∃ cA : ClassId, ArrOfT s cA ty ∧ va_RA s cA ty := by
  obtain ⟨c, k, comp, h1, h2, h3⟩ := Cond.arrayClass_spec h
  exact ⟨c, fun n z => ⟨fun k h => (by cases h), k, h2, comp, h3⟩, by rcases hty with rfl | rfl | rfl <;> exact h1⟩
theorem ra_o {s : State} {C : String} (h : va_AO C s) : ∃ cA : ClassId, ArrOfT s cA (.object C) ∧ va_RA s cA (.object C) := by
  obtain ⟨comp, c, k, h1, h2, h3, h4, h5⟩ := Cond.arrayOver_spec (va_AO.use (A := #[]) h)
  exact ⟨c, fun n z => ⟨fun k h => (by cases h), k, h3, comp, h4⟩, k, comp, h3, h4, h1, h5⟩

theorem st_AC {s : State} {args : Array Value} (hts : ∀ w ∈ lw_tbl, w.before args s = true) : AC s :=
  ⟨ac_any (hts _ (List.mem_append_right _ (List.mem_of_getElem? (i := 55) (by decide +kernel)))), ac_any (hts _ (List.mem_append_right _ (List.mem_of_getElem? (i := 1000) (by decide +kernel)))), ac_any (hts _ (List.mem_append_right _ (List.mem_of_getElem? (i := 1308) (by decide +kernel)))), va_AO.of (hts _ (List.mem_append_right _ (List.mem_of_getElem? (i := 37) (by decide +kernel)))), va_AO.of (hts _ (List.mem_append_right _ (List.mem_of_getElem? (i := 57) (by decide +kernel)))), va_AO.of (hts _ (List.mem_append_right _ (List.mem_of_getElem? (i := 130) (by decide +kernel))))⟩
theorem st_Z {s : State} {args : Array Value} (hts : ∀ w ∈ lw_tbl, w.before args s = true) : ∃ (D : va_G) (t : Nat → ClassId), ∀ (a : Nat → Nat) (n : Nat), va_K D vwCl (zt (D, t, a, n)) s := by
  have hG : GG s := GG.of hts
  have hAC := st_AC hts
  obtain ⟨c0, i0, k0⟩ := u_known (C := RX0) (T := TX0) (N := 8) (n := 8) (ul_4 (A := args) hG) (fun _ h => h) (hts _ (List.mem_append_right _ (List.mem_of_getElem? (i := 58) (by decide +kernel))))
  obtain ⟨c1, i1, k1⟩ := u_known (C := RX2) (T := TX2) (N := 3) (n := 3) (ul_6 (A := args) hG) (fun _ h => h) (hts _ (List.mem_append_right _ (List.mem_of_getElem? (i := 124) (by decide +kernel))))
  obtain ⟨c2, i2, k2⟩ := u_known (C := RX3) (T := TX3) (N := 2) (n := 2) (ul_3 (A := args) hG) (fun _ h => h) (hts _ (List.mem_append_right _ (List.mem_of_getElem? (i := 38) (by decide +kernel))))
  obtain ⟨c3, i3, k3⟩ := u_known (C := RX4) (T := TX4) (N := 2) (n := 2) (ul_5 (A := args) hG) (fun _ h => h) (hts _ (List.mem_append_right _ (List.mem_of_getElem? (i := 144) (by decide +kernel))))
  obtain ⟨c4, i4, k4⟩ := u_known (C := RX5) (T := TX5) (N := 6) (n := 6) (ul_2 (A := args) hG) (fun _ h => h) (hts _ (List.mem_append_right _ (List.mem_of_getElem? (i := 31) (by decide +kernel))))
  obtain ⟨c5, i5, k5⟩ := u_known (C := RX6) (T := TX6) (N := 5) (n := 5) (ul_7 (A := args) hG) (fun _ h => h) (hts _ (List.mem_append_right _ (List.mem_of_getElem? (i := 160) (by decide +kernel))))
  obtain ⟨c6, i6, k6⟩ := u_known (C := RX7) (T := TX7) (N := 6) (n := 6) (ul_1 (A := args) hG) (fun _ h => h) (hts _ (List.mem_append_right _ (List.mem_of_getElem? (i := 23) (by decide +kernel))))
  obtain ⟨c7, i7, k7⟩ := u_known (C := RX8) (T := TX8) (N := 11) (n := 11) (ul_8 (A := args) hG) (fun _ h => h) (hts _ (List.mem_append_right _ (List.mem_of_getElem? (i := 958) (by decide +kernel))))
  obtain ⟨t0, p0⟩ := ra_p hAC.1 (Or.inl rfl)
  obtain ⟨t1, p1⟩ := ra_p hAC.2.1 (Or.inr (Or.inl rfl))
  obtain ⟨t2, p2⟩ := ra_p hAC.2.2.1 (Or.inr (Or.inr rfl))
  obtain ⟨t3, p3⟩ := ra_o hAC.2.2.2.1
  obtain ⟨t4, p4⟩ := ra_o hAC.2.2.2.2.1
  obtain ⟨t5, p5⟩ := ra_o hAC.2.2.2.2.2
  refine ⟨(fun k => if k = 0 then c0 else if k = 1 then c1 else if k = 2 then c2 else if k = 3 then c3 else if k = 4 then c4 else if k = 5 then c5 else if k = 6 then c6 else c7, fun k => if k = 0 then i0 else if k = 1 then i1 else if k = 2 then i2 else if k = 3 then i3 else if k = 4 then i4 else if k = 5 then i5 else if k = 6 then i6 else i7), fun k => if k = 0 then t0 else if k = 1 then t1 else if k = 2 then t2 else if k = 3 then t3 else if k = 4 then t4 else t5, fun a n => ⟨?_, ?_⟩⟩
  · intro k q hq
    match k, hq with
    | 0, hq => cases hq; exact k0
    | 1, hq => cases hq; exact k1
    | 2, hq => cases hq; exact k2
    | 3, hq => cases hq; exact k3
    | 4, hq => cases hq; exact k4
    | 5, hq => cases hq; exact k5
    | 6, hq => cases hq; exact k6
    | 7, hq => cases hq; exact k7
    | k + 8, hq => simp [vwCl] at hq
  · intro k q hq
    match k, hq with
    | 0, hq => cases hq; exact p0
    | 1, hq => cases hq; exact p1
    | 2, hq => cases hq; exact p2
    | 3, hq => cases hq; exact p3
    | 4, hq => cases hq; exact p4
    | 5, hq => cases hq; exact p5
    | k + 6, hq => simp [zt] at hq


theorem st_K {Z : ZT} {s : State} {args : Array Value} {own tx : String} {k len : Nat} {byt : List Int32} (hl : len < 2 ^ 31) (h0 : (Cond.stringRef own k tx).before args s = true) (h1 : (Cond.exactly (.string own k) "java/lang/String").before args s = true) (h2 : (Cond.eq (.field (.string own k) "java/lang/String" "coder" "B") (.int 0)).before args s = true) (h3 : (Cond.arrayOf (.field (.string own k) "java/lang/String" "value" "[B") .byte).before args s = true) (h4 : (Cond.eq (.length (.field (.string own k) "java/lang/String" "value" "[B")) (.int (Int32.ofNat len))).before args s = true)
    (h5 : ∀ j : Nat, j < len → (Cond.eq (.elem (.field (.string own k) "java/lang/String" "value" "[B") (.int (Int32.ofNat j))) (.int (byt.getD j 0))).before args s = true) (hA : ∀ a : Nat, a < s.heap.size → ¬ fr Z s.heap.size a) : ∃ aK aV : Nat, vk_R own k tx aK s ∧ SC Z aK aV len byt s := by
  obtain ⟨adK, adV, hS, hE⟩ := vk_Sof (N := 1) (tm := fun _ => .string own k) (len := [len]) (byt := [byt]) (A := fr Z s.heap.size) (fun i hi => by rw [show i = 0 by omega]; exact hl) (fun i hi => h1) (fun i hi => h2) (fun i hi => h3) (fun i hi => by rw [show i = 0 by omega]; exact h4) (fun i hi j hj => by rw [show i = 0 by omega] at hj ⊢; exact h5 j hj) (fun i j hi hj ne => by omega) hA
  refine ⟨adK 0, adV 0, vk_R.of h0 (hE 0 (by omega)), fun i hi => ?_, fun i j hi hj _ => by omega⟩
  have e : i = 0 := by omega
  subst e
  exact hS.1 0 (by omega)

theorem st_KT {Z : ZT} {s : State} {args : Array Value} (hts : ∀ w ∈ lw_tbl, w.before args s = true) (hg : ∀ w ∈ flatC (Jvm.Cond.and given_1 narrow_1), w.before args s = true) (hA : ∀ a : Nat, a < s.heap.size → ¬ fr Z s.heap.size a) : KT Z s := by
  intro q hq
  simp only [KL, List.mem_cons, List.not_mem_nil, or_false] at hq
  rcases hq with rfl | rfl | rfl | rfl | rfl | rfl | rfl | rfl
  · exact st_K (own := RX6) (k := 78) (len := 1) (by decide) (hts _ (List.mem_append_right _ (List.mem_of_getElem? (i := 241) (by decide +kernel)))) (hg _ (by decide +kernel)) (hg _ (by decide +kernel)) (hg _ (by decide +kernel)) (hg _ (by decide +kernel)) (fun j hj => hg _ ((by decide +kernel : ∀ j : Nat, j < 1 → (Cond.eq (.elem (.field (.string RX6 78) "java/lang/String" "value" "[B") (.int (Int32.ofNat j))) (.int ((([114] : List Int32)).getD j 0))) ∈ flatC (Jvm.Cond.and given_1 narrow_1)) j hj)) hA
  · exact st_K (own := RX6) (k := 80) (len := 4) (by decide) (hts _ (List.mem_append_right _ (List.mem_of_getElem? (i := 242) (by decide +kernel)))) (hg _ (by decide +kernel)) (hg _ (by decide +kernel)) (hg _ (by decide +kernel)) (hg _ (by decide +kernel)) (fun j hj => hg _ ((by decide +kernel : ∀ j : Nat, j < 4 → (Cond.eq (.elem (.field (.string RX6 80) "java/lang/String" "value" "[B") (.int (Int32.ofNat j))) (.int ((([82, 67, 67, 112] : List Int32)).getD j 0))) ∈ flatC (Jvm.Cond.and given_1 narrow_1)) j hj)) hA
  · exact st_K (own := RX6) (k := 82) (len := 4) (by decide) (hts _ (List.mem_append_right _ (List.mem_of_getElem? (i := 243) (by decide +kernel)))) (hg _ (by decide +kernel)) (hg _ (by decide +kernel)) (hg _ (by decide +kernel)) (hg _ (by decide +kernel)) (fun j hj => hg _ ((by decide +kernel : ∀ j : Nat, j < 4 → (Cond.eq (.elem (.field (.string RX6 82) "java/lang/String" "value" "[B") (.int (Int32.ofNat j))) (.int ((([76, 82, 67, 67] : List Int32)).getD j 0))) ∈ flatC (Jvm.Cond.and given_1 narrow_1)) j hj)) hA
  · exact st_K (own := RX6) (k := 84) (len := 3) (by decide) (hts _ (List.mem_append_right _ (List.mem_of_getElem? (i := 244) (by decide +kernel)))) (hg _ (by decide +kernel)) (hg _ (by decide +kernel)) (hg _ (by decide +kernel)) (hg _ (by decide +kernel)) (fun j hj => hg _ ((by decide +kernel : ∀ j : Nat, j < 3 → (Cond.eq (.elem (.field (.string RX6 84) "java/lang/String" "value" "[B") (.int (Int32.ofNat j))) (.int ((([76, 118, 118] : List Int32)).getD j 0))) ∈ flatC (Jvm.Cond.and given_1 narrow_1)) j hj)) hA
  · exact st_K (own := RX6) (k := 86) (len := 2) (by decide) (hts _ (List.mem_append_right _ (List.mem_of_getElem? (i := 245) (by decide +kernel)))) (hg _ (by decide +kernel)) (hg _ (by decide +kernel)) (hg _ (by decide +kernel)) (hg _ (by decide +kernel)) (fun j hj => hg _ ((by decide +kernel : ∀ j : Nat, j < 2 → (Cond.eq (.elem (.field (.string RX6 86) "java/lang/String" "value" "[B") (.int (Int32.ofNat j))) (.int ((([76, 109] : List Int32)).getD j 0))) ∈ flatC (Jvm.Cond.and given_1 narrow_1)) j hj)) hA
  · exact st_K (own := RX6) (k := 88) (len := 1) (by decide) (hts _ (List.mem_append_right _ (List.mem_of_getElem? (i := 246) (by decide +kernel)))) (hg _ (by decide +kernel)) (hg _ (by decide +kernel)) (hg _ (by decide +kernel)) (hg _ (by decide +kernel)) (fun j hj => hg _ ((by decide +kernel : ∀ j : Nat, j < 1 → (Cond.eq (.elem (.field (.string RX6 88) "java/lang/String" "value" "[B") (.int (Int32.ofNat j))) (.int ((([116] : List Int32)).getD j 0))) ∈ flatC (Jvm.Cond.and given_1 narrow_1)) j hj)) hA
  · exact st_K (own := RX6) (k := 90) (len := 2) (by decide) (hts _ (List.mem_append_right _ (List.mem_of_getElem? (i := 247) (by decide +kernel)))) (hg _ (by decide +kernel)) (hg _ (by decide +kernel)) (hg _ (by decide +kernel)) (hg _ (by decide +kernel)) (fun j hj => hg _ ((by decide +kernel : ∀ j : Nat, j < 2 → (Cond.eq (.elem (.field (.string RX6 90) "java/lang/String" "value" "[B") (.int (Int32.ofNat j))) (.int ((([82, 119] : List Int32)).getD j 0))) ∈ flatC (Jvm.Cond.and given_1 narrow_1)) j hj)) hA
  · exact st_K (own := RX6) (k := 92) (len := 0) (by decide) (hts _ (List.mem_append_right _ (List.mem_of_getElem? (i := 248) (by decide +kernel)))) (hg _ (by decide +kernel)) (hg _ (by decide +kernel)) (hg _ (by decide +kernel)) (hg _ (by decide +kernel)) (fun j hj => absurd hj (Nat.not_lt_zero j)) hA

theorem st_SX {Z : ZT} {s : State} {args : Array Value} (hts : ∀ w ∈ lw_tbl, w.before args s = true) (hg : ∀ w ∈ flatC (Jvm.Cond.and given_1 narrow_1), w.before args s = true) (hA : ∀ a : Nat, a < s.heap.size → ¬ fr Z s.heap.size a) : SX Z s :=
  ⟨vx_Zqof (hts _ (List.mem_append_right _ (List.mem_of_getElem? (i := 389) (by decide +kernel)))) (hts _ (List.mem_append_right _ (List.mem_of_getElem? (i := 9) (by decide +kernel)))) (hg _ (by decide +kernel)) hA, vx_Zqof (hts _ (List.mem_append_right _ (List.mem_of_getElem? (i := 391) (by decide +kernel)))) (hts _ (List.mem_append_right _ (List.mem_of_getElem? (i := 9) (by decide +kernel)))) (hg _ (by decide +kernel)) hA, ⟨va_Zof (hts _ (List.mem_append_right _ (List.mem_of_getElem? (i := 258) (by decide +kernel)))) (hts _ (List.mem_append_right _ (List.mem_of_getElem? (i := 14) (by decide +kernel)))) (va_eqt (hg _ (by decide +kernel))) hA, va_Zqof (hts _ (List.mem_append_right _ (List.mem_of_getElem? (i := 274) (by decide +kernel)))) (hts _ (List.mem_append_right _ (List.mem_of_getElem? (i := 16) (by decide +kernel)))) (hg _ (by decide +kernel)) hA⟩, st_KT hts hg hA⟩
theorem st_SR {s : State} {args : Array Value} (hts : ∀ w ∈ lw_tbl, w.before args s = true) (hg : ∀ w ∈ flatC (Jvm.Cond.and given_1 narrow_1), w.before args s = true) : SR s := by
  intro q hq
  have m1 : (Cond.stringRef RX7 q.1 q.2) ∈ tables_1 := (by decide +kernel : ∀ q ∈ strL, (Cond.stringRef RX7 q.1 q.2) ∈ tables_1) q hq
  have m2 : (Cond.exactly (.string RX7 q.1) "java/lang/String") ∈ flatC (Jvm.Cond.and given_1 narrow_1) := (by decide +kernel : ∀ q ∈ strL, (Cond.exactly (.string RX7 q.1) "java/lang/String") ∈ flatC (Jvm.Cond.and given_1 narrow_1)) q hq
  obtain ⟨a, c, cell, k, h1, -⟩ := Cond.exactly_spec (hg _ m2)
  exact ⟨a, vk_R.of (hts _ (List.mem_append_right _ m1)) h1⟩
theorem st_NC {s : State} {args : Array Value} (hg : ∀ w ∈ flatC (Jvm.Cond.and given_1 narrow_1), w.before args s = true) : NC s :=
  ⟨va_Nc.of (hg _ (by decide +kernel)), va_Nc.of (hg _ (by decide +kernel)), va_Nc.of (hg _ (by decide +kernel))⟩
theorem st_noT (l : Launch) (hflags : l.flags = flags0) : l.stackTraces = false := by
  unfold Launch.stackTraces
  rw [hflags]
  decide +kernel
