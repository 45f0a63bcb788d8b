theorem S_append {h : PH} (I : II h) {Q2 : Int32 → Int32 → PH → Prop} (hQ : HQ Q2) (c : Int32) : wp_L_append 0 c 351 h (fun r7 h6 => wp_X8_append 344 c h6 (fun r10 h9 => Q2 r7 r10 h9)) := by
  obtain ⟨N, D, A, nx, K, kb, s, t, x⟩ := id I
  have x' : PreI h N D A nx K kb s t := x
  obtain ⟨⟨hI, hR, hM⟩, ⟨b1, b2, b3⟩, ⟨c1, c2, c3⟩, d1, d2, d3⟩ := x
  have i3 := hI.1
  have i4 := hI.2.1
  have R := hR.1
  unfold wp_L_append wp_X7_append
  by_cases hc : inB c 0 256
  · obtain ⟨c, _, hc, rfl⟩ := hc
    refine out_in (lo := 0) (hi := 255) (by omega) (by omega) (by omega) (bt rfl ?_)
    unfold wp_X6_isFull
    show ((h 341 2 < 120) → _) ∧ ((¬ h 341 2 < 120) → _)
    rw [d2.1, li_120]
    have s120 := d1.1
    by_cases hs : s < 120
    · refine bt (nI_lt hs (by omega)) (bt rfl ?_)
      unfold wp_X6_add
      show wp_X7_put (341 + 1) (h 341 2) (nI c) h _
      rw [d2.1]
      refine put_in (show al (341 + 1) = 120 from al_342) (by omega) hs ?_
      rintro h2 rfl
      have e1 : up2 h (341 + 1) s (nI c) 341 2 = nI s := by rw [up2_o 341 (by omega)]; exact d2.1
      show (vp_in 0 (al 351)) ∧ (∀ h5 : PH, h5 = up2 (up2 (up2 h (341 + 1) s (nI c)) 341 2 (up2 h (341 + 1) s (nI c) 341 2 + 1)) 351 (0 : Int32).toNatClampNeg (up2 (up2 h (341 + 1) s (nI c)) 341 2 (up2 h (341 + 1) s (nI c) 341 2 + 1) 341 2) → _)
      rw [e1, nI_1, up2_at]
      refine wr ?_
      generalize hg : up2 (up2 (up2 h (341 + 1) s (nI c)) 341 2 (nI (s + 1))) 351 0 (nI (s + 1)) = g
      have o : ∀ i, i ≠ 341 → i ≠ 342 → i ≠ 351 → g i = h i := fun i h1 h2 h3 => by rw [← hg, up2_o i h3, up2_o i h1, up2_o i h2]
      have g341 : g 341 2 = nI (s + 1) := by rw [← hg, up2_o 341 (by omega), up2_at]
      have g342 : ∀ k, k ≠ s → g 342 k = h 342 k := fun k hk => by rw [← hg, up2_o 342 (by omega), up2_o 342 (by omega)]; exact up2_ne hk
      have g342s : g 342 s = nI c := by rw [← hg, up2_o 342 (by omega), up2_o 342 (by omega)]; exact up2_at
      have g351 : g 351 0 = nI (s + 1) := by rw [← hg, up2_at]
      unfold wp_X8_append
      have x2 : g 344 2 = nI s := by rw [o 344 (by omega) (by omega) (by omega)]; exact d3.1
      refine in_in (lo := 0) (hi := 255) (by omega) (by omega) (by omega) (bf' (by decide) ?_)
      rw [x2, li_120, nI_eq (by omega) (by omega)]
      refine bf' (by omega) (refu_0 (bt rfl ?_))
      have x2' : up2 g 344 0 0 344 2 = nI s := by rw [up2_ne (by decide)]; exact x2
      rw [x2', show al (344 + 1) = 120 from al_345, nI_clamp (by omega)]
      refine ⟨vp_in_nI hs (by omega), ?_⟩
      rintro h9 rfl h10 rfl
      have x3 : up2 (up2 g 344 0 0) (344 + 1) s (nI c) 344 2 = nI s := by rw [up2_o 344 (by omega)]; exact x2'
      rw [x3, nI_1, up2_at]
      generalize hf : up2 (up2 (up2 g 344 0 0) (344 + 1) s (nI c)) 344 2 (nI (s + 1)) = f
      have o2 : ∀ i, i ≠ 344 → i ≠ 345 → f i = g i := fun i h1 h2 => by rw [← hf, up2_o i h1, up2_o i h2, up2_o i h1]
      have oo : ∀ i, i ≠ 341 → i ≠ 342 → i ≠ 351 → i ≠ 344 → i ≠ 345 → f i = h i := fun i h1 h2 h3 h4 h5 => by rw [o2 i h4 h5, o i h1 h2 h3]
      have f344 : ∀ j, j ≠ 0 → j ≠ 2 → f 344 j = h 344 j := fun j h1 h2 => by rw [← hf, up2_ne h2, up2_o 344 (by omega), up2_ne h1, o 344 (by omega) (by omega) (by omega)]
      refine hQ 0 _ f ?_ ?_ (fun _ => ?_)
      · refine ⟨N, D, A, nx, K, kb, s + 1, (fun k => if k = s then c else t k), ⟨hI, hR.ag hI (fun i h1 h2 => oo i (by omega) (by omega) (by omega) (by omega) (by omega)), by rw [oo 346 (by omega) (by omega) (by omega) (by omega) (by omega)]; exact hM⟩, ⟨b1, b2.ag b1 (fun i h1 h2 => oo i (by omega) (by omega) (by omega) (by omega) (by omega)), b3.ag (f344 6 (by decide) (by decide)) (oo 348 (by omega) (by omega) (by omega) (by omega) (by omega))⟩, ⟨c1, c2.ag c1 (fun i h1 h2 => oo i (by omega) (by omega) (by omega) (by omega) (by omega)), c3.ag (oo 350 (by omega) (by omega) (by omega) (by omega) (by omega)) (oo 349 (by omega) (by omega) (by omega) (by omega) (by omega))⟩, ⟨by omega, fun k hk => ?_⟩, ⟨?_, fun k hk => ?_⟩, ⟨?_, fun k hk => ?_⟩⟩
        · dsimp only
          split
          · omega
          · exact d1.2 k (by omega)
        · rw [o2 341 (by omega) (by omega)]; exact g341
        · rw [o2 342 (by omega) (by omega)]
          dsimp only
          by_cases e : k = s
          · rw [if_pos e, e]; exact g342s
          · rw [if_neg e, g342 k e]; exact d2.2 k (by omega)
        · rw [← hf]; exact up2_at
        · rw [← hf, up2_o 345 (by omega)]
          dsimp only
          by_cases e : k = s
          · rw [if_pos e, e]; exact up2_at
          · rw [if_neg e]
            have : up2 (up2 g 344 0 0) (344 + 1) s (nI c) 345 k = (up2 g 344 0 0) 345 k := up2_ne e
            rw [this, up2_o 345 (by omega), o 345 (by omega) (by omega) (by omega)]; exact d3.2 k (by omega)
      · rw [← hf, up2_ne (by decide), up2_o 344 (by omega)]; exact up2_at
      · rw [o2 351 (by omega) (by omega)]; exact g351
    · refine bf (nI_nlt (by omega) (by omega)) (bf (by decide) ?_)
      refine ⟨fun z => absurd z (by simp), fun _ => ?_, fun _ z => absurd rfl z⟩
      unfold wp_X8_append
      refine in_in (lo := 0) (hi := 255) (by omega) (by omega) (by omega) (bf' (by decide) ?_)
      rw [d3.1, li_120, nI_eq (by omega) (by omega)]
      exact bt' (by omega) (refu_2 (bf (by decide) (hQ.no I (by decide))))
  · refine out_out (lo := 0) (hi := 255) hc (by omega) (by omega) (bf (by decide) ?_)
    refine ⟨fun _ => ?_, fun z => absurd z (by simp), fun z _ => absurd rfl z⟩
    unfold wp_X8_append
    exact in_out (lo := 0) (hi := 255) hc (by omega) (by omega) (bt' rfl (refu_1 (bf (by decide) (hQ.no I (by decide)))))

theorem S_clearText {h : PH} (I : II h) {Q2 : Int32 → Int32 → PH → Prop} (hQ : ∀ r h', II h' → Q2 r r h')  : wp_X7_clearText 0  h (fun r7 h6 => wp_X8_clearText 344  h6 (fun r10 h9 => Q2 r7 r10 h9)) := by
  obtain ⟨N, D, A, nx, K, kb, s, t, x⟩ := id I
  have x' : PreI h N D A nx K kb s t := x
  obtain ⟨⟨hI, hR, hM⟩, ⟨b1, b2, b3⟩, ⟨c1, c2, c3⟩, d1, d2, d3⟩ := x
  have i3 := hI.1
  have i4 := hI.2.1
  have R := hR.1
  unfold wp_X7_clearText
  unfold wp_X6_empty
  rintro x1 rfl h2 rfl
  show wp_X8_clearText 344 (up2 h 341 2 0) (fun r10 h9 => Q2 (h 341 2) r10 h9)
  unfold wp_X8_clearText
  rintro h1 rfl x2 rfl h3 rfl
  have e : up2 (up2 h 341 2 0) 344 0 0 344 2 = h 341 2 := by rw [up2_ne (by decide), up2_o 344 (by omega), d3.1, d2.1]
  rw [e]
  have oo : ∀ i, i ≠ 341 → i ≠ 344 → up2 (up2 (up2 h 341 2 0) 344 0 0) 344 2 0 i = h i := fun i h1 h2 => by rw [up2_o i h2, up2_o i h2, up2_o i h1]
  have f344 : ∀ j, j ≠ 0 → j ≠ 2 → up2 (up2 (up2 h 341 2 0) 344 0 0) 344 2 0 344 j = h 344 j := fun j h1 h2 => by rw [up2_ne h2, up2_ne h1, up2_o 344 (by omega)]
  refine hQ _ _ ⟨N, D, A, nx, K, kb, 0, t, ⟨hI, hR.ag hI (fun i h1 h2 => oo i (by omega) (by omega)), by rw [oo 346 (by omega) (by omega)]; exact hM⟩, ⟨b1, b2.ag b1 (fun i h1 h2 => oo i (by omega) (by omega)), b3.ag (f344 6 (by decide) (by decide)) (oo 348 (by omega) (by omega))⟩, ⟨c1, c2.ag c1 (fun i h1 h2 => oo i (by omega) (by omega)), c3.ag (oo 350 (by omega) (by omega)) (oo 349 (by omega) (by omega))⟩, ⟨by omega, fun k hk => absurd hk (Nat.not_lt_zero k)⟩, ⟨?_, fun k hk => absurd hk (Nat.not_lt_zero k)⟩, ⟨up2_at, fun k hk => absurd hk (Nat.not_lt_zero k)⟩⟩
  rw [up2_o 341 (by omega), up2_o 341 (by omega)]
  exact up2_at


def SWab (b1 b2 b3 : Int32) (Q : Int32 → PH → Prop) (h : PH) : Prop := ((b1 = 3) → wp_X8_soundLater (344 + 2) 0 h (fun r11 h10 => Q r11 h10)) ∧ ((b1 = 4) → Q b2 h) ∧ ((b1 = 5) → Q b3 h) ∧ ((b1 = 6) → wp_X8_allCells (344 + 2) h (fun r16 h15 => Q r16 h15)) ∧ ((b1 = 7) → (vp_in 3 (al (344 + 2))) ∧ (Q (h (344 + 2) (3 : Int32).toNatClampNeg) h)) ∧ (¬ b1 = 3 → ¬ b1 = 4 → ¬ b1 = 5 → ¬ b1 = 6 → ¬ b1 = 7 → (vp_in b1 (al (344 + 2))) ∧ (Q (h (344 + 2) b1.toNatClampNeg) h))
theorem mo_ab {b1 : Int32} {N : Nat → Nat → Nat} {h : PH} {Q : Int32 → PH → Prop} (hI : Inv N) (hM : Mw (h 346) N) (q : SWab b1 (nI (twN N)) (nI (muN N)) Q h) : ∃ n : Nat, wp_X8_about_b33 344 b1 Q n 0 0 0 h := by
  have h4 := hI.2.1
  refine ⟨N 0 1 + 1, ?_⟩
  suffices H : ∀ d i m s, i + d = N 0 1 → SWab b1 (nI (fl (fun l s => if N (4 + l) 0 = 0 then s else s + 1) d i m)) (nI (fl (fun l s => s ||| (N (4 + l) 4 * 2 ^ l)) d i s)) Q h → wp_X8_about_b33 344 b1 Q (d + 1) (nI m) (nI s) (nI i) h from H (N 0 1) 0 0 0 (by omega) q
  have e346 : al (344 + 2) = 427 := al_346
  have c1 : (1 : Int32).toNatClampNeg = 1 := by decide
  have g1 : h (344 + 2) 1 = nI (N 0 1) := hM.g (by omega)
  have v1 : vp_in 1 427 := by rw [li_1]; exact vp_in_nI (by omega) (by omega)
  intro d
  induction d with
  | zero =>
    intro i m s hi q
    unfold wp_X8_about_b33
    rw [c1, g1]
    refine ⟨by rw [e346]; exact v1, bt (nI_le (by omega) (by omega)) ?_⟩
    exact q
  | succ d ih =>
    intro i m s hi q
    unfold wp_X8_about_b33
    have hl : Ml (h 346) i (N (4 + i)) := hM.l (by omega)
    have il := hI.il (by omega : i < N 0 1)
    have b0 := il.1
    have b4 := il.2.2.2.1
    rw [c1, g1]
    refine ⟨by rw [e346]; exact v1, bf (nI_ge (by omega) (by omega)) (mo_of (u := 0) al_346 hl (by omega) (by omega) ?_)⟩
    unfold fl at q
    have fin : ∀ m', m' = (if N (4 + i) 0 = 0 then m else m + 1) → wp_X8_of (344 + 2) (nI i) 4 h (fun r25 h24 => ∀ x26 : Int32, x26 = nI s ||| (r25 <<< (nI i &&& 31)) → ∀ x27 : Int32, x27 = nI i + 1 → wp_X8_about_b33 344 b1 Q (d + 1) (nI m') x26 x27 h24) := by
      rintro m' rfl
      refine mo_of (u := 4) al_346 hl (by omega) (by omega) ?_
      rintro x rfl y rfl
      rw [shl_n b4 (by omega), fa_or, nI_1]
      exact ih _ _ _ (by omega) q
    by_cases e : N (4 + i) 0 = 0
    · refine bt (by rw [e]; decide) ?_
      rintro x rfl
      rw [li_0, nI_add]
      exact fin m (by rw [if_pos e])
    · refine bf (by rw [li_0]; exact nI_ge (by omega) (by omega)) ?_
      rintro x rfl
      rw [nI_1 m]
      exact fin (m + 1) (by rw [if_neg e])

theorem S_about {h : PH} (I : II h) {Q2 : Int32 → Int32 → PH → Prop} (hQ : HQ Q2) (u : Int32) : wp_L_about 0 u 351 h (fun r7 h6 => wp_X8_about 344 u h6 (fun r10 h9 => Q2 r7 r10 h9)) := by
  obtain ⟨N, D, A, nx, K, kb, s, t, x⟩ := id I
  have x' : PreI h N D A nx K kb s t := x
  obtain ⟨⟨hI, hR, hM⟩, ⟨b1, b2, b3⟩, ⟨c1, c2, c3⟩, d1, d2, d3⟩ := x
  have i3 := hI.1
  have i4 := hI.2.1
  have R := hR.1
  unfold wp_L_about wp_X7_about
  by_cases hu : inB u 0 8
  · obtain ⟨u, _, hu, rfl⟩ := hu
    refine out_in (lo := 0) (hi := 7) (by omega) (by omega) (by omega) (bt rfl ?_)
    have Mo : ∀ {v : Int32}, SWab (nI u) (nI (twN N)) (nI (muN N)) (fun r10 h9 => Q2 0 r10 h9) (up2 (up2 h 351 0 v) 344 0 0) → wp_X8_about 344 (nI u) (up2 h 351 0 v) (fun r10 h9 => Q2 0 r10 h9) := by
      intro v q
      unfold wp_X8_about
      exact in_in (lo := 0) (hi := 7) (by omega) (by omega) (by omega) (bf (by decide) (refu_0 (bt rfl (mo_ab hI (m344 (m351 hM)) q))))
    have gv : ∀ {v : Int32} j, j < 4 → (vp_in (nI j) (al (344 + 2))) ∧ (up2 (up2 h 351 0 v) 344 0 0 (344 + 2) (nI j).toNatClampNeg) = nI (N 0 j) := fun {v} j hj => by
      rw [show al (344 + 2) = 427 from al_346, nI_clamp (by omega)]
      exact ⟨vp_in_nI (by omega) (by omega), (m344 (m351 hM)).g hj⟩
    have : u = 0 ∨ u = 1 ∨ u = 2 ∨ u = 3 ∨ u = 4 ∨ u = 5 ∨ u = 6 ∨ u = 7 := by omega
    rcases this with rfl | rfl | rfl | rfl | rfl | rfl | rfl | rfl
    · refine ⟨fun _ => ?_, fun z => absurd z (by decide), fun z => absurd z (by decide), fun z => absurd z (by decide), fun z => absurd z (by decide), fun z => absurd z (by decide), fun z => absurd z (by decide), fun z _ _ _ _ _ _ => absurd rfl z⟩
      have e : h (0 + 1) 2 = nI (N 0 0) := R.n0
      rw [e]
      refine wr (Mo ?_)
      unfold SWab
      refine ⟨fun z => absurd z (by decide), fun z => absurd z (by decide), fun z => absurd z (by decide), fun z => absurd z (by decide), fun z => absurd z (by decide), fun _ _ _ _ _ => ?_⟩
      have := @gv (nI (N 0 0)) 0 (by omega)
      rw [this.2]
      exact ⟨this.1, hQ.q I⟩
    · refine ⟨fun z => absurd z (by decide), fun _ => ?_, fun z => absurd z (by decide), fun z => absurd z (by decide), fun z => absurd z (by decide), fun z => absurd z (by decide), fun z => absurd z (by decide), fun _ z _ _ _ _ _ => absurd rfl z⟩
      have e : h (0 + 1) 3 = nI (N 0 1) := R.n1
      rw [e]
      refine wr (Mo ?_)
      unfold SWab
      refine ⟨fun z => absurd z (by decide), fun z => absurd z (by decide), fun z => absurd z (by decide), fun z => absurd z (by decide), fun z => absurd z (by decide), fun _ _ _ _ _ => ?_⟩
      have := @gv (nI (N 0 1)) 1 (by omega)
      rw [this.2]
      exact ⟨this.1, hQ.q I⟩
    · refine ⟨fun z => absurd z (by decide), fun z => absurd z (by decide), fun _ => ?_, fun z => absurd z (by decide), fun z => absurd z (by decide), fun z => absurd z (by decide), fun z => absurd z (by decide), fun _ _ z _ _ _ _ => absurd rfl z⟩
      have e : h (0 + 1) 4 = nI (N 0 2) := R.n2
      rw [e]
      refine wr (Mo ?_)
      unfold SWab
      refine ⟨fun z => absurd z (by decide), fun z => absurd z (by decide), fun z => absurd z (by decide), fun z => absurd z (by decide), fun z => absurd z (by decide), fun _ _ _ _ _ => ?_⟩
      have := @gv (nI (N 0 2)) 2 (by omega)
      rw [this.2]
      exact ⟨this.1, hQ.q I⟩
    · refine ⟨fun z => absurd z (by decide), fun z => absurd z (by decide), fun z => absurd z (by decide), fun _ => ?_, fun z => absurd z (by decide), fun z => absurd z (by decide), fun z => absurd z (by decide), fun _ _ _ z _ _ _ => absurd rfl z⟩
      refine ok_soundBehind (n := 0) R hI (by omega) (wr (Mo ?_))
      unfold SWab
      refine ⟨fun _ => ?_, fun z => absurd z (by decide), fun z => absurd z (by decide), fun z => absurd z (by decide), fun z => absurd z (by decide), fun z _ _ _ _ => absurd rfl z⟩
      exact mo_soundLater (n := 0) al_346 (m344 (m351 hM)) hI (by omega) (hQ.q I)
    · refine ⟨fun z => absurd z (by decide), fun z => absurd z (by decide), fun z => absurd z (by decide), fun z => absurd z (by decide), fun _ => ?_, fun z => absurd z (by decide), fun z => absurd z (by decide), fun _ _ _ _ z _ _ => absurd rfl z⟩
      refine ok_loopsWithTape R hI (wr (Mo ?_))
      unfold SWab
      refine ⟨fun z => absurd z (by decide), fun _ => ?_, fun z => absurd z (by decide), fun z => absurd z (by decide), fun z => absurd z (by decide), fun _ z _ _ _ => absurd rfl z⟩
      exact hQ.q I
    · refine ⟨fun z => absurd z (by decide), fun z => absurd z (by decide), fun z => absurd z (by decide), fun z => absurd z (by decide), fun z => absurd z (by decide), fun _ => ?_, fun z => absurd z (by decide), fun _ _ _ _ _ z _ => absurd rfl z⟩
      refine ok_mutedLoops R hI (wr (Mo ?_))
      unfold SWab
      refine ⟨fun z => absurd z (by decide), fun z => absurd z (by decide), fun _ => ?_, fun z => absurd z (by decide), fun z => absurd z (by decide), fun _ _ z _ _ => absurd rfl z⟩
      exact hQ.q I
    · refine ⟨fun z => absurd z (by decide), fun z => absurd z (by decide), fun z => absurd z (by decide), fun z => absurd z (by decide), fun z => absurd z (by decide), fun z => absurd z (by decide), fun _ => ?_, fun _ _ _ _ _ _ z => absurd rfl z⟩
      refine ok_loopCells R hI (wr (Mo ?_))
      unfold SWab
      refine ⟨fun z => absurd z (by decide), fun z => absurd z (by decide), fun z => absurd z (by decide), fun _ => ?_, fun z => absurd z (by decide), fun _ _ _ z _ => absurd rfl z⟩
      exact mo_allCells al_346 (m344 (m351 hM)) hI (hQ.q I)
    · refine ⟨fun z => absurd z (by decide), fun z => absurd z (by decide), fun z => absurd z (by decide), fun z => absurd z (by decide), fun z => absurd z (by decide), fun z => absurd z (by decide), fun z => absurd z (by decide), fun _ _ _ _ _ _ _ => ?_⟩
      have e : h (0 + 1) 5 = nI (N 0 3) := hR.2
      rw [e]
      refine wr (Mo ?_)
      unfold SWab
      refine ⟨fun z => absurd z (by decide), fun z => absurd z (by decide), fun z => absurd z (by decide), fun z => absurd z (by decide), fun _ => ?_, fun _ _ _ _ z => absurd rfl z⟩
      have := @gv (nI (N 0 3)) 3 (by omega)
      refine ⟨this.1, ?_⟩
      have e2 : up2 (up2 h 351 0 (nI (N 0 3))) 344 0 0 (344 + 2) (3 : Int32).toNatClampNeg = nI (N 0 3) := this.2
      rw [e2]
      exact hQ.q I
  · refine out_out (lo := 0) (hi := 7) hu (by omega) (by omega) (bf (by decide) ?_)
    refine ⟨fun _ => ?_, fun z => absurd rfl z⟩
    unfold wp_X8_about
    exact in_out (lo := 0) (hi := 7) hu (by omega) (by omega) (bt rfl (refu_1 (bf (by decide) (hQ.no I (by decide)))))


def SWro (r b2 b3 b4 : Int32) (Q : Int32 → PH → Prop) (h10 : PH) : Prop := ((¬ b2 = 0) → ((3 ≤ b2) → ((¬ b2 = 3) → Q b4 h10) ∧ ((b2 = 3) → Q b3 h10)) ∧ ((¬ (3 ≤ b2)) → ((¬ b2 = 1) → wp_X8_rows (344 + 2) r 0 h10 (fun r18 h17 => Q r18 h17)) ∧ ((b2 = 1) → wp_X8_rows (344 + 2) r 1 h10 (fun r20 h19 => Q r20 h19)))) ∧ ((b2 = 0) → wp_X8_cells (344 + 2) r h10 (fun r22 h21 => Q r22 h21))
theorem mo_ro {r : Nat} {b2 : Int32} {N : Nat → Nat → Nat} {h : PH} {Q : Int32 → PH → Prop} (hI : Inv N) (hM : Mw (h 346) N) (hr : r < N 0 0) (q : SWro (nI r) b2 (nI (fl (fun c g => g + N (1 + r) (1 + c)) (N (1 + r) 0) 0 0)) (nI (fl (fun c g => if begN (N (1 + r)) true c then max g (rmany (N (1 + r)) c) else g) (N (1 + r) 0) 0 0)) Q h) : ∃ n : Nat, wp_X8_reelOf_b49 344 (nI r) b2 Q n 0 0 0 h := by
  have h3 := hI.1
  have ir := hI.ir hr
  have h60 := ir.1
  have mr : Mr (h (344 + 2)) r (N (1 + r)) := hM.r (by omega)
  generalize N (1 + r) = f at *
  refine ⟨f 0 + 1, ?_⟩
  suffices H : ∀ d i s g, g ≤ 60 → i + d = f 0 → SWro (nI r) b2 (nI (fl (fun c g => g + f (1 + c)) d i s)) (nI (fl (fun c g => if begN f true c then max g (rmany f c) else g) d i g)) Q h → wp_X8_reelOf_b49 344 (nI r) b2 Q (d + 1) (nI s) (nI g) (nI i) h from H (f 0) 0 0 0 (by omega) (by omega) q
  intro d
  induction d with
  | zero =>
    intro i s g hg hi q
    unfold wp_X8_reelOf_b49
    exact mo_cells al_346 mr (by omega) (bt (nI_le (by omega) (by omega)) q)
  | succ d ih =>
    intro i s g hg hi q
    unfold wp_X8_reelOf_b49
    have hm := rmany_le (f := f) (a := i) (by omega)
    refine mo_cells al_346 mr (by omega) (bf (nI_ge (by omega) (by omega)) (mo_soundAt al_346 mr (by omega) (by omega) ?_))
    rintro x rfl
    refine mo_begins (s := true) al_346 mr (by omega) ir (by omega) ?_
    unfold fl at q
    rw [nI_add]
    cases e : begN f true i with
    | false =>
      rw [e] at q
      refine bt rfl (bt (nI_pos' (by omega)) ?_)
      rintro y rfl
      rw [nI_1]
      exact ih _ _ _ hg (by omega) q
    | true =>
      rw [e] at q
      refine bf (by decide) (mo_rowMany al_346 mr (by omega) ir (by omega) ?_)
      by_cases e2 : rmany f i ≤ g
      · refine bt (nI_le e2 (by omega)) ?_
        rintro y rfl
        rw [nI_1]
        refine ih _ _ _ hg (by omega) ?_
        rw [if_pos rfl, Nat.max_eq_left e2] at q
        exact q
      · refine bf (nI_ge (by omega) (by omega)) ?_
        rintro y rfl
        rw [nI_1]
        refine ih _ _ _ (by omega) (by omega) ?_
        rw [if_pos rfl, Nat.max_eq_right (by omega)] at q
        exact q

theorem S_reelOf {h : PH} (I : II h) {Q2 : Int32 → Int32 → PH → Prop} (hQ : HQ Q2) (r u : Int32) : wp_L_reelOf 0 r u 351 h (fun r7 h6 => wp_X8_reelOf 344 r u h6 (fun r10 h9 => Q2 r7 r10 h9)) := by
  obtain ⟨N, D, A, nx, K, kb, s, t, x⟩ := id I
  have x' : PreI h N D A nx K kb s t := x
  obtain ⟨⟨hI, hR, hM⟩, ⟨b1, b2, b3⟩, ⟨c1, c2, c3⟩, d1, d2, d3⟩ := x
  have i3 := hI.1
  have i4 := hI.2.1
  have R := hR.1
  unfold wp_L_reelOf wp_X7_reelOf
  by_cases hr : inB r 0 (N 0 0)
  · obtain ⟨r, _, hr, rfl⟩ := hr
    have ir := hI.ir hr
    refine ok_reelAt R hI hr (sm_t ?_)
    by_cases hu : inB u 0 5
    · obtain ⟨u, _, hu, rfl⟩ := hu
      refine out_in (lo := 0) (hi := 4) (by omega) (by omega) (by omega) (bt rfl ?_)
      have Mo : ∀ {v : Int32}, SWro (nI r) (nI u) (nI (fl (fun c g => g + N (1 + r) (1 + c)) (N (1 + r) 0) 0 0)) (nI (fl (fun c g => if begN (N (1 + r)) true c then max g (rmany (N (1 + r)) c) else g) (N (1 + r) 0) 0 0)) (fun r10 h9 => Q2 0 r10 h9) (up2 (up2 h 351 0 v) 344 0 0) → wp_X8_reelOf 344 (nI r) (nI u) (up2 h 351 0 v) (fun r10 h9 => Q2 0 r10 h9) := by
        intro v q
        unfold wp_X8_reelOf
        exact mo_isReel al_346 (m351 hM) hI hr (bf' (by decide) (in_in (lo := 0) (hi := 4) (by omega) (by omega) (by omega) (bf (by decide) (refu_0 (bt rfl (mo_ro hI (m344 (m351 hM)) hr q))))))
      have : u = 0 ∨ u = 1 ∨ u = 2 ∨ u = 3 ∨ u = 4 := by omega
      rcases this with rfl | rfl | rfl | rfl | rfl
      · refine ⟨fun _ => ?_, fun z => absurd z (by decide), fun z => absurd z (by decide), fun z => absurd z (by decide), fun z _ _ _ => absurd rfl z⟩
        rw [show h (0 + 1 + 1 + 1 + 2 * r) 1 = nI (N (1 + r) 0) from (R.re hr).2.1]
        refine wr (Mo ?_)
        unfold SWro
        exact bt' rfl (mo_cells al_346 ((m344 (m351 hM)).r (by omega)) (by omega) (hQ.q I))
      · refine ⟨fun z => absurd z (by decide), fun _ => ?_, fun z => absurd z (by decide), fun z => absurd z (by decide), fun _ z _ _ => absurd rfl z⟩
        refine ok_countRows (s := true) (R.re hr) ir (wr (Mo ?_))
        unfold SWro
        exact bf' (by decide) (bf (by decide) (bt' rfl (mo_rows (s := true) al_346 ((m344 (m351 hM)).r (by omega)) (by omega) ir (hQ.q I))))
      · refine ⟨fun z => absurd z (by decide), fun z => absurd z (by decide), fun _ => ?_, fun z => absurd z (by decide), fun _ _ z _ => absurd rfl z⟩
        refine ok_countRows (s := false) (R.re hr) ir (wr (Mo ?_))
        unfold SWro
        exact bf' (by decide) (bf (by decide) (bf' (by decide) (mo_rows (s := false) al_346 ((m344 (m351 hM)).r (by omega)) (by omega) ir (hQ.q I))))
      · refine ⟨fun z => absurd z (by decide), fun z => absurd z (by decide), fun z => absurd z (by decide), fun _ => ?_, fun _ _ _ z => absurd rfl z⟩
        refine ok_sumOfSounds (R.re hr) ir (wr (Mo ?_))
        unfold SWro
        exact bf' (by decide) (bt (by decide) (bt' rfl (hQ.q I)))
      · refine ⟨fun z => absurd z (by decide), fun z => absurd z (by decide), fun z => absurd z (by decide), fun z => absurd z (by decide), fun _ _ _ _ => ?_⟩
        refine ok_longestSilence (R.re hr) ir (wr (Mo ?_))
        unfold SWro
        exact bf' (by decide) (bt (by decide) (bf' (by decide) (hQ.q I)))
    · refine out_out (lo := 0) (hi := 4) hu (by omega) (by omega) (bf (by decide) ?_)
      refine ⟨fun z => absurd z (by simp), fun _ => ?_, fun _ z => absurd rfl z⟩
      unfold wp_X8_reelOf
      exact mo_isReel al_346 hM hI hr (bf' (by decide) (in_out (lo := 0) (hi := 4) hu (by omega) (by omega) (bt rfl (refu_2 (bf (by decide) (hQ.no I (by decide)))))))
  · refine ok_reelAtN R hI hr (sm_n ?_)
    refine ⟨fun _ => ?_, fun z => absurd z (by simp), fun z _ => absurd rfl z⟩
    unfold wp_X8_reelOf
    exact mo_isReelN al_346 hM hI hr (bt' rfl (refu_1 (bf (by decide) (hQ.no I (by decide)))))

theorem S_sound {h : PH} (I : II h) {Q2 : Int32 → Int32 → PH → Prop} (hQ : HQ Q2) (r c : Int32) : wp_L_sound 0 r c 351 h (fun r7 h6 => wp_X8_sound 344 r c h6 (fun r10 h9 => Q2 r7 r10 h9)) := by
  obtain ⟨N, D, A, nx, K, kb, s, t, x⟩ := id I
  have x' : PreI h N D A nx K kb s t := x
  obtain ⟨⟨hI, hR, hM⟩, ⟨b1, b2, b3⟩, ⟨c1, c2, c3⟩, d1, d2, d3⟩ := x
  have i3 := hI.1
  have i4 := hI.2.1
  have R := hR.1
  unfold wp_L_sound wp_X7_sound
  by_cases hr : inB r 0 (N 0 0)
  · obtain ⟨r, _, hr, rfl⟩ := hr
    have ir := hI.ir hr
    have h60 := ir.1
    refine ok_reelAt R hI hr (sm_t ?_)
    by_cases hc : inB c 0 (N (1 + r) 0)
    · obtain ⟨c, _, hc, rfl⟩ := hc
      refine ok_hasCell (R.re hr) ir hc (bf' (by decide) (Re_get (R.re hr) ir hc (wr ?_)))
      unfold wp_X8_sound
      exact mo_isCell al_346 (m351 hM) hI hr hc (bf (by decide) (refu_0 (bt rfl (mo_soundAt al_346 ((m344 (m351 hM)).r (by omega)) (by omega) (by omega) (hQ.q I)))))
    · refine ok_hasCellN (R.re hr) ir hc (bt' rfl ?_)
      refine ⟨fun _ => ?_, fun z => absurd rfl z⟩
      unfold wp_X8_sound
      exact mo_isCellN2 al_346 hM hI hr hc (bt rfl (refu_1 (bf (by decide) (hQ.no I (by decide)))))
  · refine ok_reelAtN R hI hr (sm_n ?_)
    refine ⟨fun _ => ?_, fun z => absurd rfl z⟩
    unfold wp_X8_sound
    exact mo_isCellN1 al_346 hM hI hr (bt rfl (refu_1 (bf (by decide) (hQ.no I (by decide)))))

theorem S_cell {h : PH} (I : II h) {Q2 : Int32 → Int32 → PH → Prop} (hQ : HQ Q2) (l c : Int32) : wp_L_cell 0 l c 351 h (fun r7 h6 => wp_X8_cell 344 l c h6 (fun r10 h9 => Q2 r7 r10 h9)) := by
  obtain ⟨N, D, A, nx, K, kb, s, t, x⟩ := id I
  have x' : PreI h N D A nx K kb s t := x
  obtain ⟨⟨hI, hR, hM⟩, ⟨b1, b2, b3⟩, ⟨c1, c2, c3⟩, d1, d2, d3⟩ := x
  have i3 := hI.1
  have i4 := hI.2.1
  have R := hR.1
  unfold wp_L_cell wp_X7_cell
  by_cases hl : inB l 0 (N 0 1)
  · obtain ⟨l, _, hl, rfl⟩ := hl
    have il := hI.il hl
    have i48 := il.1
    refine ok_loopAt R hI hl (sm_t ?_)
    rw [show h (0 + 1 + 8 + 1 + 3 * l) 2 = nI (N (4 + l) 0) from (R.lo hl).2.2.1]
    by_cases hc : inB c 0 (N (4 + l) 0)
    · obtain ⟨c, _, hc, rfl⟩ := hc
      refine cnt_in hc (by omega) (bt rfl (Lo_get (R.lo hl) il hc (wr ?_)))
      unfold wp_X8_cell
      refine mo_isLoop al_346 (m351 hM) hI hl (bf (by decide) (mo_of (u := 0) al_346 ((m351 hM).l (by omega)) (by omega) (by omega) (inc_in hc (by omega) (bf (by decide) (refu_0 (bt rfl ?_))))))
      rw [li_12, nI_add]
      exact mo_of al_346 ((m344 (m351 hM)).l (by omega)) (by omega) (by omega) (hQ.q I)
    · refine cnt_out hc (by omega) (bf (by decide) ?_)
      refine ⟨fun _ => ?_, fun z => absurd rfl z⟩
      unfold wp_X8_cell
      exact mo_isLoop al_346 hM hI hl (bf (by decide) (mo_of (u := 0) al_346 (hM.l (by omega)) (by omega) (by omega) (inc_out hc (by omega) (bt rfl (refu_1 (bf (by decide) (hQ.no I (by decide))))))))
  · refine ok_loopAtN R hI hl (sm_n ?_)
    refine ⟨fun _ => ?_, fun z => absurd rfl z⟩
    unfold wp_X8_cell
    exact mo_isLoopN al_346 hM hI hl (bt rfl (refu_1 (bf (by decide) (hQ.no I (by decide)))))

theorem S_soundIn {h : PH} (I : II h) {Q2 : Int32 → Int32 → PH → Prop} (hQ : HQ Q2) (n : Int32) : wp_L_soundIn 0 n 351 h (fun r7 h6 => wp_X8_soundIn 344 n h6 (fun r10 h9 => Q2 r7 r10 h9)) := by
  obtain ⟨N, D, A, nx, K, kb, s, t, x⟩ := id I
  have x' : PreI h N D A nx K kb s t := x
  obtain ⟨⟨hI, hR, hM⟩, ⟨b1, b2, b3⟩, ⟨c1, c2, c3⟩, d1, d2, d3⟩ := x
  have i3 := hI.1
  have i4 := hI.2.1
  have R := hR.1
  unfold wp_L_soundIn wp_X7_soundIn
  by_cases hn : inB n 0 1000001
  · obtain ⟨n, _, hn, rfl⟩ := hn
    refine out_in (lo := 0) (hi := 1000000) (by omega) (by omega) (by omega) (bt rfl (ok_soundBehind R hI (by omega) (wr ?_)))
    unfold wp_X8_soundIn
    refine in_in (lo := 0) (hi := 1000000) (by omega) (by omega) (by omega) (bf (by decide) (refu_0 (bt rfl ?_)))
    rw [nI_l (by omega : n < 2 ^ 31)]
    exact mo_soundLater al_346 (m344 (m351 hM)) hI (by omega) (hQ.q I)
  · refine out_out (lo := 0) (hi := 1000000) hn (by omega) (by omega) (bf (by decide) ?_)
    refine ⟨fun _ => ?_, fun z => absurd rfl z⟩
    unfold wp_X8_soundIn
    exact in_out (lo := 0) (hi := 1000000) hn (by omega) (by omega) (bt rfl (refu_1 (bf (by decide) (hQ.no I (by decide)))))

