
theorem m351 {h : PH} {N : Nat → Nat → Nat} {v : Int32} (m : Mw (h 346) N) : Mw (up2 h 351 0 v 346) N := by rw [up2_o 346 (by omega)]; exact m
theorem m344 {h : PH} {N : Nat → Nat → Nat} {j : Nat} {v : Int32} (m : Mw (h 346) N) : Mw (up2 h 344 j v 346) N := by rw [up2_o 346 (by omega)]; exact m
theorem HQ.q {Q2 : Int32 → Int32 → PH → Prop} (q : HQ Q2) {h : PH} (I : II h) {v : Int32} : Q2 0 v (up2 (up2 h 351 0 v) 344 0 0) :=
  q.yes I (Eqv.out.tr (Eqv.rfu (by decide) (by decide))) up2_at (by rw [up2_o 351 (by omega)]; exact up2_at)
theorem Mw.of {g g' : Nat → Int32} {N : Nat → Nat → Nat} (h : Mw g N) (e : ∀ k, k < 427 → g' k = g k) : Mw g' N := h.eqv e

theorem S_undo {h : PH} (I : II h) {Q2 : Int32 → Int32 → PH → Prop} (hQ : HQ Q2)  : wp_L_undo 0  351 h (fun r7 h6 => wp_X8_undo 344  h6 (fun r10 h9 => Q2 r7 r10 h9)) := by
  obtain ⟨N, D, A, nx, K, kb, s, t, x⟩ := id I
  have x' : PreI h N D A nx K kb s t := x
  obtain ⟨⟨hI, hR, hM⟩, ⟨b1, b2, b3⟩, ⟨c1, c2, c3⟩, d1, d2, d3⟩ := x
  have i3 := hI.1
  have i4 := hI.2.1
  have R := hR.1
  unfold wp_L_undo wp_X7_undo
  obtain ⟨g1, g2, g3⟩ := b1
  obtain ⟨p1, p2, p3⟩ := b2
  by_cases hA : A = 0
  · refine bt' ?_ ?_
    · show h 43 2 = 0
      rw [p2, hA]; rfl
    refine ⟨fun _ => ?_, fun z => absurd rfl z⟩
    unfold wp_X8_undo
    refine bt' ?_ (refu_1 (bf (by decide) (hQ.no I (by decide))))
    rw [b3.1, hA]; rfl
  · have hh : h 43 2 = nI A := p2
    refine bf' ?_ ?_
    · show ¬ h 43 2 = 0
      rw [p2, z0 (by omega)]; exact hA
    obtain ⟨B, rfl⟩ : ∃ B, A = B + 1 := ⟨A - 1, by omega⟩
    have fin : ∀ m, m < 12 → m = (nx + 11) % 12 → ∀ h2 : PH, h2 = up2 h 43 1 (nI m) → ∀ h3 : PH, h3 = up2 h2 43 2 ((h2 43 2) - 1) → wp_X2_stateAt 43 (h3 43 1) h3 (fun r5 h4 => (r5 = none → (vp_in 0 (al 351)) ∧ (∀ h5 : PH, h5 = up2 h4 351 (0 : Int32).toNatClampNeg (h4 43 2) → wp_X8_undo 344 h5 (fun r10 h9 => Q2 0 r10 h9))) ∧ (∀ j6 : Nat, r5 = some j6 → wp_X5_copyFrom 1 j6 h4 (fun h8 => (vp_in 0 (al 351)) ∧ (∀ h5 : PH, h5 = up2 h8 351 (0 : Int32).toNatClampNeg (h8 43 2) → wp_X8_undo 344 h5 (fun r10 h9 => Q2 0 r10 h9))))) := by
      rintro m hm em h2 rfl h3 rfl
      have e2 : up2 h 43 1 (nI m) 43 2 = nI (B + 1) := by rw [up2_ne (by decide)]; exact p2
      rw [e2, nI_pred, up2_ne (by decide), up2_at]
      have sl : 45 + 21 * m = slot (B + 1) nx B := by unfold slot; omega
      refine ok_stateAt hm (sm_t ?_)
      rw [sl]
      have sb := slot_lt (A := B + 1) (nx := nx) (i := B)
      have oth : ∀ i, i ≠ 43 → up2 (up2 h 43 1 (nI m)) 43 2 (nI B) i = h i := fun i hi => by rw [up2_o i hi, up2_o i hi]
      obtain ⟨q1, q2⟩ := p3 B (by omega)
      have ID := g3 B (by omega)
      refine ok_copyStudio SB_1 (q1.ag ID (fun i h1 h2 => oth i (by omega))) ID (by omega) ?_
      intro h8 F8 e5 R8
      have e43 : h8 43 = up2 (up2 h 43 1 (nI m)) 43 2 (nI B) 43 := F8 43 (by omega)
      have e432 : h8 43 2 = nI B := by rw [e43, up2_at]
      rw [e432]
      refine wr ?_
      unfold wp_X8_undo
      have k344 : up2 h8 351 0 (nI B) 344 = h 344 := by rw [up2_o 344 (by omega), F8 344 (by omega), oth 344 (by omega)]
      rw [k344, b3.1]
      refine bf' (by rw [z0 (by omega)]; omega) (refu_0 (bt rfl ?_))
      rintro h9 rfl
      have k6 : up2 (up2 h8 351 0 (nI B)) 344 0 0 344 6 = nI (B + 1) := by rw [up2_ne (by decide), k344]; exact b3.1
      rw [k6, nI_pred, up2_at, li_427, pk_mul, li_0]
      refine mo_copyState (o := 427 * B) (u := 0) (show al (344 + 4) = 5124 from al_348) (show al (344 + 2) = 427 from al_346) (by omega) (by omega) (by omega) (by omega) (by omega) ?_
      intro h10 F10 c1' c2'
      have k10 : h10 344 6 = nI B := by rw [F10 344 (by omega), up2_at]
      rw [k10]
      have o10 : ∀ i, i ≠ 346 → i ≠ 344 → i ≠ 351 → h10 i = h8 i := fun i h1 h2 h3 => by rw [F10 i (by omega), up2_o i h2, up2_o i h2, up2_o i h3]
      have o8 : ∀ i, 22 ≤ i → i ≠ 43 → h8 i = h i := fun i h1 h2 => by rw [F8 i (by omega), oth i h2]
      have o344 : ∀ j, j ≠ 0 → j ≠ 6 → h10 344 j = h 344 j := fun j h1 h2 => by rw [F10 344 (by omega), up2_ne h2, up2_ne h1, k344]
      refine hQ 0 (nI B) h10 ?_ ?_ (fun _ => ?_)
      · refine ⟨D B, D, B, m, K, kb, s, t, ⟨ID, ⟨R8.ag ID (fun i h1 h2 => o10 i (by omega) (by omega) (by omega)), ?_⟩, ?_⟩, ⟨⟨hm, by omega, fun i hi => g3 i (by omega)⟩, ⟨?_, ?_, fun i hi => ?_⟩, ⟨k10, fun i hi => ?_⟩⟩, ⟨c1, c2.ag c1 (fun i h1 h2 => ?_), c3.ag ?_ ?_⟩, d1, d2.ag ?_ ?_, d3.ag ?_ ?_⟩
        · rw [o10 1 (by omega) (by omega) (by omega), e5, oth _ (by omega)]; exact q2
        · refine (b3.2 B (by omega)).eqv (fun k hk => ?_)
          have := c1' k hk
          rw [Nat.zero_add] at this
          have e : h10 346 k = h10 (344 + 2) k := rfl
          rw [e, this, up2_o _ (by omega), up2_o _ (by omega), up2_o _ (by omega), o8 _ (by omega) (by omega)]
        · rw [o10 43 (by omega) (by omega) (by omega), e43, up2_ne (by decide), up2_at]
        · rw [o10 43 (by omega) (by omega) (by omega), e432]
        · have es : slot B m i = slot (B + 1) nx i := by unfold slot; omega
          have sb := slot_lt (A := B + 1) (nx := nx) (i := i)
          obtain ⟨q1, q2⟩ := p3 i (by omega)
          rw [es]
          refine ⟨q1.ag (g3 i (by omega)) (fun k h1 h2 => by rw [o10 k (by omega) (by omega) (by omega), o8 k (by omega) (by omega)]), ?_⟩
          rw [o10 _ (by omega) (by omega) (by omega), o8 _ (by omega) (by omega)]; exact q2
        · rw [o10 348 (by omega) (by omega) (by omega), o8 348 (by omega) (by omega)]
          exact b3.2 i (by omega)
        · rw [o10 i (by omega) (by omega) (by omega), o8 i (by omega) (by omega)]
        · rw [o10 _ (by omega) (by omega) (by omega), o8 _ (by omega) (by omega)]
        · rw [o10 _ (by omega) (by omega) (by omega), o8 _ (by omega) (by omega)]
        · rw [o10 _ (by omega) (by omega) (by omega), o8 _ (by omega) (by omega)]
        · rw [o10 _ (by omega) (by omega) (by omega), o8 _ (by omega) (by omega)]
        · exact o344 2 (by decide) (by decide)
        · rw [o10 _ (by omega) (by omega) (by omega), o8 _ (by omega) (by omega)]
      · rw [F10 344 (by omega), up2_ne (by decide), up2_at]; rfl
      · rw [F10 351 (by omega), up2_o _ (by omega), up2_o _ (by omega)]
        exact up2_at
    unfold wp_X2_takeBack
    show ((h 43 1 ≤ 0) → _) ∧ ((¬ (h 43 1 ≤ 0)) → _)
    rw [p1]
    by_cases hn : nx = 0
    · subst hn
      refine bt (by decide) ?_
      exact fin 11 (by omega) (by omega)
    · refine bf (by rw [li_0]; exact nI_ge (by omega) (by omega)) ?_
      obtain ⟨m, rfl⟩ : ∃ m, nx = m + 1 := ⟨nx - 1, by omega⟩
      rw [nI_pred]
      exact fin m (by omega) (by omega)


theorem slotAt_0 {h : PH} {Q : Option Nat → PH → Prop} (q : Q (some 297) h) : wp_X7_slotAt 0 (nI 0) h Q := by
  unfold wp_X7_slotAt
  exact bt' rfl q
theorem slotAt_1 {h : PH} {Q : Option Nat → PH → Prop} (q : Q (some 319) h) : wp_X7_slotAt 0 (nI 1) h Q := by
  unfold wp_X7_slotAt
  exact bf' (by decide) (bt' rfl q)
theorem slotAt_j {h : PH} {Q : Option Nat → PH → Prop} {j : Nat} (hj : j < 2) (q : Q (some (297 + 22 * j)) h) : wp_X7_slotAt 0 (nI j) h Q := by
  have : j = 0 ∨ j = 1 := by omega
  rcases this with rfl | rfl
  · exact slotAt_0 q
  · exact slotAt_1 q
theorem slotAt_n {h : PH} {Q : Option Nat → PH → Prop} {x : Int32} (hx : ¬ inB x 0 2) (q : Q none h) : wp_X7_slotAt 0 x h Q := by
  unfold wp_X7_slotAt
  exact bf' (fun e => hx ⟨0, by omega, by omega, e⟩) (bf' (fun e => hx ⟨1, by omega, by omega, e⟩) q)

theorem S_save {h : PH} (I : II h) {Q2 : Int32 → Int32 → PH → Prop} (hQ : HQ Q2) (u : Int32) : wp_L_save 0 u 351 h (fun r7 h6 => wp_X8_save 344 u h6 (fun r10 h9 => Q2 r7 r10 h9)) := by
  obtain ⟨N, D, A, nx, K, kb, s, t, x⟩ := id I
  have x' : PreI h N D A nx K kb s t := x
  obtain ⟨⟨hI, hR, hM⟩, ⟨b1, b2, b3⟩, ⟨c1, c2, c3⟩, d1, d2, d3⟩ := x
  have i3 := hI.1
  have i4 := hI.2.1
  have R := hR.1
  unfold wp_L_save wp_X7_save
  by_cases hu : inB u 0 2
  · obtain ⟨j, _, hj, rfl⟩ := hu
    have SBj : SB (297 + 22 * j + 1) := SB_all (by omega)
    refine slotAt_j hj (sm_t (ok_copyStudio (b' := 1) SBj R hI (by omega) ?_))
    intro h5 F5 e5 R5
    rintro h6 rfl
    have t4 : up2 h5 (297 + 22 * j) 1 1 (0 + 1) 4 = nI (N 0 2) := by
      show up2 h5 (297 + 22 * j) 1 1 1 4 = _
      rw [up2_o 1 (by omega), F5 1 (by omega)]; exact R.n2
    rw [t4]
    refine wr ?_
    unfold wp_X8_save
    have o6 : ∀ i, (i < 297 + 22 * j ∨ 297 + 22 * j + 22 ≤ i) → i ≠ 351 → up2 (up2 h5 (297 + 22 * j) 1 1) 351 0 (nI (N 0 2)) i = h i := fun i h1 h2 => by rw [up2_o i h2, up2_o i (by omega), F5 i (by omega)]
    refine in_in (lo := 0) (hi := 1) (by omega) (by omega) (by omega) (bf (by decide) (refu_0 (bt rfl ?_)))
    rw [li_427, pk_mul, li_0]
    refine mo_copyState (o := 0) (u := 427 * j) (show al (344 + 2) = 427 from al_346) (show al (344 + 5) = 854 from al_349) (by omega) (by omega) (by omega) (by omega) (by omega) ?_
    intro h7 F7 k1 k2
    refine ⟨by rw [show al (344 + 6) = 2 from al_350]; exact vp_in_nI (by omega) (by omega), ?_⟩
    rintro h9 rfl
    rw [nI_clamp (by omega)]
    refine ⟨by rw [show al (344 + 2) = 427 from al_346, li_2]; exact vp_in_nI (by omega) (by omega), ?_⟩
    have o7 : ∀ i, i ≠ 344 → i ≠ 349 → i ≠ 350 → i ≠ 351 → (i < 297 + 22 * j ∨ 297 + 22 * j + 22 ≤ i) → up2 h7 (344 + 6) j 1 i = h i := fun i h1 h2 h3 h4 h5 => by rw [up2_o i (by omega), F7 i (by omega), up2_o i h1, o6 i h5 h4]
    have o7' : ∀ i, i < 344 → up2 h7 (344 + 6) j 1 i = up2 h5 (297 + 22 * j) 1 1 i := fun i h1 => by rw [up2_o i (by omega), F7 i (by omega), up2_o i (by omega), up2_o i (by omega)]
    have e2 : up2 h7 (344 + 6) j 1 (344 + 2) (2 : Int32).toNatClampNeg = nI (N 0 2) := by
      have : (2 : Int32).toNatClampNeg = 2 := by decide
      rw [this, o7 (344 + 2) (by omega) (by omega) (by omega) (by omega) (by omega)]
      exact hM.g (by omega)
    rw [e2]
    have o344 : ∀ i, i ≠ 0 → up2 h7 (344 + 6) j 1 344 i = h 344 i := fun i hi => by rw [up2_o 344 (by omega), F7 344 (by omega), up2_ne hi, o6 344 (by omega) (by omega)]
    refine hQ 0 _ _ ?_ ?_ (fun _ => ?_)
    · refine ⟨N, D, A, nx, (fun i => if i = j then N else K i), (fun i => if i = j then 1 else kb i), s, t, ⟨hI, hR.ag hI (fun i h1 h2 => o7 i (by omega) (by omega) (by omega) (by omega) (by omega)), by rw [o7 346 (by omega) (by omega) (by omega) (by omega) (by omega)]; exact hM⟩, ⟨b1, b2.ag b1 (fun i h1 h2 => o7 i (by omega) (by omega) (by omega) (by omega) (by omega)), b3.ag (o344 6 (by decide)) (o7 348 (by omega) (by omega) (by omega) (by omega) (by omega))⟩, ⟨fun i hi => ?_, fun i hi => ?_, fun i hi => ?_⟩, d1, d2.ag (by rw [o7 341 (by omega) (by omega) (by omega) (by omega) (by omega)]) (o7 342 (by omega) (by omega) (by omega) (by omega) (by omega)), d3.ag (o344 2 (by decide)) (o7 345 (by omega) (by omega) (by omega) (by omega) (by omega))⟩
      · dsimp only
        by_cases e : i = j
        · rw [if_pos e, if_pos e]; exact ⟨by omega, fun _ => hI⟩
        · rw [if_neg e, if_neg e]; exact c1 i hi
      · dsimp only
        by_cases e : i = j
        · subst e
          rw [if_pos rfl, if_pos rfl]
          refine ⟨by rw [o7' _ (by omega), up2_at]; rfl, fun _ => ⟨?_, ?_⟩⟩
          · have R5' : Rl (298 + 22 * i) N h5 := by rw [show 298 + 22 * i = 297 + 22 * i + 1 by omega]; exact R5
            exact R5'.ag hI (fun k h1 h2 => by rw [o7' k (by omega), up2_o k (by omega)])
          · rw [o7' _ (by omega), up2_o _ (by omega), show 298 + 22 * i = 297 + 22 * i + 1 by omega, e5]; exact hR.2
        · rw [if_neg e, if_neg e]
          have c := c2 i hi
          refine ⟨by rw [o7 _ (by omega) (by omega) (by omega) (by omega) (by omega)]; exact c.1, fun e1 => ⟨((c.2 e1).1).ag ((c1 i hi).2 e1) (fun k h1 h2 => o7 k (by omega) (by omega) (by omega) (by omega) (by omega)), by rw [o7 _ (by omega) (by omega) (by omega) (by omega) (by omega)]; exact (c.2 e1).2⟩⟩
      · dsimp only
        have f349 : up2 h7 (344 + 6) j 1 349 = h7 349 := up2_o 349 (by omega)
        have z350 : h7 350 = h 350 := by rw [F7 350 (by omega), up2_o 350 (by omega), o6 350 (by omega) (by omega)]
        have z349 : ∀ k, (k < 427 * j ∨ 427 * j + 427 ≤ k) → h7 349 k = h 349 k := fun k hk => by
          have := k2 k hk
          have e : h7 349 k = h7 (344 + 5) k := rfl
          rw [e, this, up2_o _ (by omega)]
          exact congrFun (o6 349 (by omega) (by omega)) k
        by_cases e : i = j
        · subst e
          rw [if_pos rfl, if_pos rfl]
          refine ⟨up2_at, fun _ => ?_⟩
          rw [f349]
          refine hM.eqv (fun k hk => ?_)
          have := k1 k hk
          rw [Nat.zero_add] at this
          have e : h7 349 (427 * i + k) = h7 (344 + 5) (427 * i + k) := rfl
          rw [e, this, up2_o _ (by omega)]
          exact congrFun (o6 346 (by omega) (by omega)) k
        · rw [if_neg e, if_neg e]
          have c := c3 i hi
          refine ⟨?_, fun e1 => ?_⟩
          · have : up2 h7 (344 + 6) j 1 350 i = h7 350 i := up2_ne e
            rw [this, z350]; exact c.1
          · rw [f349]
            exact (c.2 e1).eqv (fun k hk => z349 _ (by omega))
    · rw [up2_o 344 (by omega), F7 344 (by omega)]; exact up2_at
    · rw [up2_o 351 (by omega), F7 351 (by omega), up2_o 351 (by omega)]; exact up2_at
  · refine slotAt_n hu (sm_n ?_)
    refine ⟨fun _ => ?_, fun z => absurd rfl z⟩
    unfold wp_X8_save
    exact in_out (lo := 0) (hi := 1) hu (by omega) (by omega) (bt rfl (refu_1 (bf (by decide) (hQ.no I (by decide)))))

theorem S_restore {h : PH} (I : II h) {Q2 : Int32 → Int32 → PH → Prop} (hQ : HQ Q2) (u : Int32) : wp_L_restore 0 u 351 h (fun r7 h6 => wp_X8_restore 344 u h6 (fun r10 h9 => Q2 r7 r10 h9)) := by
  obtain ⟨N, D, A, nx, K, kb, s, t, x⟩ := id I
  have x' : PreI h N D A nx K kb s t := x
  obtain ⟨⟨hI, hR, hM⟩, ⟨b1, b2, b3⟩, ⟨c1, c2, c3⟩, d1, d2, d3⟩ := x
  have i3 := hI.1
  have i4 := hI.2.1
  have R := hR.1
  unfold wp_L_restore wp_X7_restore
  by_cases hu : inB u 0 2
  · obtain ⟨j, _, hj, rfl⟩ := hu
    have v0 : vp_in (nI j) (al (344 + 6)) := by rw [show al (344 + 6) = 2 from al_350]; exact vp_in_nI (by omega) (by omega)
    have c := c2 j hj
    have cm := c3 j hj
    have g := c1 j hj
    refine slotAt_j hj (sm_t ?_)
    rw [c.1, z0 (by omega)]
    by_cases e : kb j = 0
    · refine bt' e ?_
      refine ⟨fun z => absurd z (by simp), fun _ => ?_, fun _ z => absurd rfl z⟩
      unfold wp_X8_restore
      refine in_in (lo := 0) (hi := 1) (by omega) (by omega) (by omega) (bf' (by decide) ⟨v0, bt' ?_ (refu_2 (bf (by decide) (hQ.no I (by decide))))⟩)
      rw [nI_clamp (by omega)]
      show h 350 j = 0
      rw [cm.1, e]; rfl
    · have e1 : kb j = 1 := by omega
      have ID := g.2 e1
      obtain ⟨q1, q2⟩ := c.2 e1
      refine bf' e ?_
      have q1' : Rl (297 + 22 * j + 1) (K j) h := by rw [show 297 + 22 * j + 1 = 298 + 22 * j by omega]; exact q1
      refine ok_copyStudio (b := 1) SB_1 q1' ID (by omega) ?_
      intro h5 F5 e5 R5
      unfold wp_X2_forget
      rintro h6 rfl
      have t4 : up2 h5 (0 + 43) 2 0 (0 + 1) 4 = nI (K j 0 2) := by
        show up2 h5 43 2 0 1 4 = _
        rw [up2_o 1 (by omega)]; exact R5.n2
      rw [t4]
      refine wr ?_
      unfold wp_X8_restore
      have o6 : ∀ i, 22 ≤ i → i ≠ 43 → i ≠ 351 → up2 (up2 h5 (0 + 43) 2 0) 351 0 (nI (K j 0 2)) i = h i := fun i h1 h2 h3 => by rw [up2_o i h3, up2_o i (by omega), F5 i (by omega)]
      refine in_in (lo := 0) (hi := 1) (by omega) (by omega) (by omega) (bf' (by decide) ⟨v0, bf' ?_ (refu_0 (bt rfl ?_))⟩)
      · rw [nI_clamp (by omega), o6 (344 + 6) (by omega) (by omega) (by omega)]
        show ¬ h 350 j = 0
        rw [cm.1, e1]; decide
      rw [li_427, pk_mul, li_0]
      refine mo_copyState (o := 427 * j) (u := 0) (show al (344 + 5) = 854 from al_349) (show al (344 + 2) = 427 from al_346) (by omega) (by omega) (by omega) (by omega) (by omega) ?_
      intro h7 F7 k1 k2
      rintro h9 rfl
      refine ⟨by rw [show al (344 + 2) = 427 from al_346, li_2]; exact vp_in_nI (by omega) (by omega), ?_⟩
      have M9 : Mw (up2 h7 344 6 (nI 0) 346) (K j) := by
        rw [up2_o 346 (by omega)]
        refine (cm.2 e1).eqv (fun k hk => ?_)
        have := k1 k hk
        rw [Nat.zero_add] at this
        have e : h7 346 k = h7 (344 + 2) k := rfl
        rw [e, this, up2_o _ (by omega)]
        exact congrFun (o6 349 (by omega) (by omega) (by omega)) _
      have e2 : up2 h7 344 6 (nI 0) (344 + 2) (2 : Int32).toNatClampNeg = nI (K j 0 2) := by
        have : (2 : Int32).toNatClampNeg = 2 := by decide
        rw [this]
        exact M9.g (by omega)
      rw [e2]
      have o7 : ∀ i, 22 ≤ i → i ≠ 43 → i ≠ 351 → i ≠ 344 → i ≠ 346 → up2 h7 344 6 (nI 0) i = h i := fun i h1 h2 h3 h4 h5 => by rw [up2_o i h4, F7 i (by omega), up2_o i h4]; exact o6 i h1 h2 h3
      have o7' : ∀ i, i < 344 → up2 h7 344 6 (nI 0) i = up2 h5 43 2 0 i := fun i h1 => by rw [up2_o i (by omega), F7 i (by omega), up2_o i (by omega), up2_o i (by omega)]; rfl
      have o344 : ∀ i, i ≠ 0 → i ≠ 6 → up2 h7 344 6 (nI 0) 344 i = h 344 i := fun i hi hi6 => by rw [up2_ne hi6, F7 344 (by omega), up2_ne hi]; exact congrFun (o6 344 (by omega) (by omega) (by omega)) i
      refine hQ 0 _ _ ?_ ?_ (fun _ => ?_)
      · refine ⟨K j, D, 0, nx, K, kb, s, t, ⟨ID, ⟨R5.ag ID (fun i h1 h2 => by rw [o7' i (by omega), up2_o i (by omega)]), ?_⟩, M9⟩, ⟨⟨b1.1, by omega, fun i hi => absurd hi (Nat.not_lt_zero i)⟩, ⟨?_, ?_, fun i hi => absurd hi (Nat.not_lt_zero i)⟩, ⟨up2_at, fun i hi => absurd hi (Nat.not_lt_zero i)⟩⟩, ⟨c1, c2.ag c1 (fun i h1 h2 => o7 i (by omega) (by omega) (by omega) (by omega) (by omega)), c3.ag (o7 350 (by omega) (by omega) (by omega) (by omega) (by omega)) (o7 349 (by omega) (by omega) (by omega) (by omega) (by omega))⟩, d1, d2.ag (by rw [o7 341 (by omega) (by omega) (by omega) (by omega) (by omega)]) (o7 342 (by omega) (by omega) (by omega) (by omega) (by omega)), d3.ag (o344 2 (by decide) (by decide)) (o7 345 (by omega) (by omega) (by omega) (by omega) (by omega))⟩
        · rw [o7' 1 (by omega), up2_o 1 (by omega), e5, show 297 + 22 * j + 1 = 298 + 22 * j by omega]; exact q2
        · rw [o7' 43 (by omega), up2_ne (by decide), F5 43 (by omega)]; exact b2.1
        · rw [o7' 43 (by omega), up2_at]; rfl
      · rw [up2_ne (by decide), F7 344 (by omega)]; exact up2_at
      · rw [up2_o 351 (by omega), F7 351 (by omega), up2_o 351 (by omega)]; exact up2_at
  · refine slotAt_n hu (sm_n ?_)
    refine ⟨fun _ => ?_, fun z => absurd z (by simp), fun z _ => absurd rfl z⟩
    unfold wp_X8_restore
    exact in_out (lo := 0) (hi := 1) hu (by omega) (by omega) (bt' rfl (refu_1 (bf (by decide) (hQ.no I (by decide)))))

