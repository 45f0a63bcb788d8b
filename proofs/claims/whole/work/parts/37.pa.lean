
def PreI (h : PH) (N : Nat → Nat → Nat) (D : Nat → Nat → Nat → Nat) (A nx : Nat) (K : Nat → Nat → Nat → Nat) (kb : Nat → Nat) (s : Nat) (t : Nat → Nat) : Prop :=
  (Inv N ∧ RN N h ∧ Mw (h 346) N) ∧ (GP D A nx ∧ CP D A nx h ∧ MP D A h) ∧ (GK K kb ∧ CK K kb h ∧ MK K kb h) ∧ (GX s t ∧ CX s t h ∧ MX s t h)
/-- what the law wants of an answer -/
def HQ (Q2 : Int32 → Int32 → PH → Prop) : Prop := ∀ r v h', II h' → h' 344 0 = r → (r = 0 → h' 351 0 = v) → Q2 r v h'
theorem HQ.no {Q2 : Int32 → Int32 → PH → Prop} (q : HQ Q2) {h : PH} (I : II h) {k : Int32} (hk : k ≠ 0) : Q2 k 0 (up2 h 344 0 k) :=
  q k 0 _ ((Eqv.rfu (by decide) (by decide)).II I) up2_at (fun e => absurd e hk)
theorem HQ.yes {Q2 : Int32 → Int32 → PH → Prop} (q : HQ Q2) {h h' : PH} (I : II h) {v : Int32} (e : Eqv h h') (e0 : h' 344 0 = 0) (e1 : h' 351 0 = v) : Q2 0 v h' :=
  q 0 v _ (e.II I) e0 (fun _ => e1)
section
variable {A a b c d : Int32} {h : PH} {Q : Int32 → PH → Prop} {X : String → PH → Prop}
theorem act_1 (hw : ∀ Q' : Int32 → PH → Prop, Q' 1 h → wp_X5_whyNot 1 A a b c d h Q') (q : X "java/lang/IndexOutOfBoundsException" h) : wp_X7_act 0 A a b c d h Q X := by
  unfold wp_X7_act
  refine hw _ ?_
  unfold wp_X7_throwFor
  exact bt' rfl q
theorem act_2 (hw : ∀ Q' : Int32 → PH → Prop, Q' 2 h → wp_X5_whyNot 1 A a b c d h Q') (q : X "java/lang/IllegalArgumentException" h) : wp_X7_act 0 A a b c d h Q X := by
  unfold wp_X7_act
  refine hw _ ?_
  unfold wp_X7_throwFor
  exact bf' (by decide) (bt' rfl q)
theorem act_3 (hw : ∀ Q' : Int32 → PH → Prop, Q' 3 h → wp_X5_whyNot 1 A a b c d h Q') (q : X "java/lang/IllegalStateException" h) : wp_X7_act 0 A a b c d h Q X := by
  unfold wp_X7_act
  refine hw _ ?_
  unfold wp_X7_throwFor
  exact bf' (by decide) (bf' (by decide) (bt' rfl q))
end
/-- behind the class's action -/
def CLS (h h4 : PH) (N' : Nat → Nat → Nat) (D : Nat → Nat → Nat → Nat) (A nx : Nat) (v : Int32) : Prop := RN N' h4 ∧ CP D A nx h4 ∧ (∀ i, 297 ≤ i → i ≠ 351 → h4 i = h i) ∧ h4 351 0 = v
theorem L1 {A' a b c d : Int32} {h : PH} {X : String → PH → Prop} {K' : PH → Prop} {N N' : Nat → Nat → Nat} {D : Nat → Nat → Nat → Nat} {A nx : Nat} {K : Nat → Nat → Nat → Nat} {kb : Nat → Nat} {s : Nat} {t : Nat → Nat} {v : Int32} (x : PreI h N D A nx K kb s t) (hN' : Inv N')
    (hw : ∀ Q' : Int32 → PH → Prop, Q' 0 h → wp_X5_whyNot 1 A' a b c d h Q')
    (hc : ∀ (h2 : PH) (Q' : Int32 → PH → Prop), RN N h2 → (∀ h3, Fr 1 21 h2 h3 → RN N' h3 → Q' v h3) → wp_X5_carryOut 1 A' a b c d h2 Q')
    (q : ∀ h4, CLS h h4 N' (rmD D A N) (min (A + 1) 12) (if nx + 1 < 12 then nx + 1 else 0) v → K' h4) :
    wp_X7_act 0 A' a b c d h (fun r2 h1 => (vp_in 0 (al 351)) ∧ (∀ h5 : PH, h5 = up2 h1 351 (0 : Int32).toNatClampNeg r2 → K' h5)) X := by
  obtain ⟨⟨a1, a2, a3⟩, ⟨b1, b2, b3⟩, _, _⟩ := x
  unfold wp_X7_act
  refine hw _ ?_
  unfold wp_X7_throwFor
  refine bf' (by decide) (bf' (by decide) (bf' (by decide) ?_))
  refine ok_remember a1 a2 b1 b2 ?_
  intro h2 F2 C2
  refine hc h2 _ (a2.ag a1 (fun i h1 h2 => F2 i (by omega))) ?_
  intro h3 F3 R3
  refine wr (q _ ⟨?_, ?_, fun i hi hi2 => ?_, up2_at⟩)
  · exact R3.ag hN' (fun i h1 h2 => up2_o i (by omega))
  · exact (C2.ag (b1.rm a1) (fun i h1 h2 => by rw [up2_o i (by omega), F3 i (by omega)]))
  · rw [up2_o i hi2, F3 i (by omega), F2 i (by omega)]
theorem L2 {h h4 : PH} {Mop : PH → (Int32 → PH → Prop) → Prop} {Q2 : Int32 → Int32 → PH → Prop} {N N' : Nat → Nat → Nat} {D : Nat → Nat → Nat → Nat} {A nx : Nat} {K : Nat → Nat → Nat → Nat} {kb : Nat → Nat} {s : Nat} {t : Nat → Nat} {v : Int32} (x : PreI h N D A nx K kb s t)
    (y : CLS h h4 N' (rmD D A N) (min (A + 1) 12) (if nx + 1 < 12 then nx + 1 else 0) v) (hN' : Inv N')
    (hm : ∀ (h5 : PH) (Q' : Int32 → PH → Prop), Mw (h5 346) N → (∀ h', Fr 346 1 h5 h' → Mw (h' 346) N' → Q' v h') → Mop h5 Q')
    (hQ : HQ Q2) : wp_X8_refused 344 0 h4 (fun r5 h5 => ((r5 = 0) → wp_X8_remember 344 h5 (fun h7 => Mop h7 (fun r9 h8 => Q2 0 r9 h8))) ∧ ((¬ (r5 = 0)) → Q2 0 0 h5)) := by
  obtain ⟨⟨a1, a2, a3⟩, ⟨b1, b2, b3⟩, ⟨c1, c2, c3⟩, d1, d2, d3⟩ := x
  obtain ⟨y1, y2, y3, y4⟩ := y
  refine refu_0 (bt rfl ?_)
  have e : ∀ i, 297 ≤ i → i ≠ 351 → i ≠ 344 → up2 h4 344 0 0 i = h i := fun i h1 h2 h3 => by rw [up2_o i h3, y3 i h1 h2]
  have e4 : ∀ j, j ≠ 0 → up2 h4 344 0 0 344 j = h 344 j := fun j hj => by rw [up2_ne hj, y3 344 (by omega) (by omega)]
  refine mo_remember (N := N) (by rw [e 346 (by omega) (by omega) (by omega)]; exact a3) b1 (b3.ag (e4 6 (by decide)) (e 348 (by omega) (by omega) (by omega))) ?_
  intro h6 G1 G2 M6
  refine hm h6 _ (by rw [G1 346 (by omega) (by omega), e 346 (by omega) (by omega) (by omega)]; exact a3) ?_
  intro h7 F7 M7
  have o : ∀ i, i ≠ 344 → i ≠ 346 → i ≠ 348 → h7 i = h4 i := fun i h1 h2 h3 => by rw [F7 i (by omega), G1 i h1 h3, up2_o i h1]
  have o4 : ∀ j, j ≠ 6 → j ≠ 0 → h7 344 j = h4 344 j := fun j h1 h2 => by rw [F7 344 (by omega), G2 j h1, up2_ne h2]
  refine hQ 0 v h7 ?_ ?_ (fun _ => ?_)
  · refine ⟨N', rmD D A N, min (A + 1) 12, (if nx + 1 < 12 then nx + 1 else 0), K, kb, s, t, ⟨hN', y1.ag hN' (fun i h1 h2 => o i (by omega) (by omega) (by omega)), M7⟩, ⟨b1.rm a1, y2.ag (b1.rm a1) (fun i h1 h2 => o i (by omega) (by omega) (by omega)), M6.ag (by rw [F7 344 (by omega)]) (F7 348 (by omega))⟩, ⟨c1, c2.ag c1 (fun i h1 h2 => ?_), c3.ag ?_ ?_⟩, d1, d2.ag ?_ ?_, d3.ag ?_ ?_⟩
    · rw [o i (by omega) (by omega) (by omega), y3 i (by omega) (by omega)]
    · rw [o 350 (by omega) (by omega) (by omega), y3 350 (by omega) (by omega)]
    · rw [o 349 (by omega) (by omega) (by omega), y3 349 (by omega) (by omega)]
    · rw [o 341 (by omega) (by omega) (by omega), y3 341 (by omega) (by omega)]
    · rw [o 342 (by omega) (by omega) (by omega), y3 342 (by omega) (by omega)]
    · rw [o4 2 (by omega) (by omega), y3 344 (by omega) (by omega)]
    · rw [o 345 (by omega) (by omega) (by omega), y3 345 (by omega) (by omega)]
  · rw [F7 344 (by omega), G2 0 (by omega)]
    exact up2_at
  · rw [o 351 (by omega) (by omega) (by omega)]
    exact y4
theorem CLS.m {h h4 : PH} {N N' : Nat → Nat → Nat} {D : Nat → Nat → Nat → Nat} {A nx : Nat} {v : Int32} (y : CLS h h4 N' D A nx v) (a3 : Mw (h 346) N) : Mw (h4 346) N := by rw [y.2.2.1 346 (by omega) (by omega)]; exact a3
theorem s0 {N : Nat → Nat → Nat} {r : Nat} {f : Nat → Nat} : setO N (1 + r) f 0 3 = N 0 3 := by rw [setO_n (by omega)]
theorem s4 {N : Nat → Nat → Nat} {r : Nat} {f : Nat → Nat} : setO N (4 + r) f 0 3 = N 0 3 := by rw [setO_n (by omega)]
theorem RN.dn {N N' : Nat → Nat → Nat} {h2 h3 : PH} (y : RN N h2) (x : Dn 1 N' h2 h3) (e : N' 0 3 = N 0 3) : Fr 1 21 h2 h3 ∧ RN N' h3 := ⟨x.1, x.2.2, by rw [x.2.1, y.2, e]⟩

theorem S_ticks {h : PH} (I : II h) {Q2 : Int32 → Int32 → PH → Prop} (hQ : HQ Q2) (n : Int32) : wp_L_ticks 0 n 351 h (fun r7 h6 => wp_X8_ticks 344 n h6 (fun r10 h9 => Q2 r7 r10 h9)) := by
  obtain ⟨N, D, A, nx, K, kb, s, t, x⟩ := id I
  have x' : PreI h N D A nx K kb s t := x
  obtain ⟨⟨hI, hR, hM⟩, _⟩ := x
  have i3 := hI.1
  have i4 := hI.2.1
  unfold wp_L_ticks wp_X7_ticks
  by_cases hn : inB n 1 1000
  · obtain ⟨n, h1, h2, rfl⟩ := hn
    refine L1 (N' := gnN N n) x' hI.go (fun Q' q => wn_ticks_0 h1 (by omega) q) (fun h2 Q' r q => co_ticks r.1 hI (by omega) (fun h3 z => q h3 (r.dn z rfl).1 (r.dn z rfl).2)) ?_
    intro h4 y
    unfold wp_X8_ticks
    refine in_in (lo := 1) (hi := 999) h1 (by omega) (by omega) (bf (by decide) ?_)
    exact L2 (Mop := fun h Q => wp_X8_goOn (344 + 2) (nI n) h Q) x' y hI.go (fun h5 Q' m q => mo_goOn al_346 m hI (by omega) q) hQ
  · refine act_2 (fun Q' q => wn_ticks_2 hn q) ?_
    refine ⟨fun _ => ?_, fun z => absurd rfl z⟩
    unfold wp_X8_ticks
    exact in_out (lo := 1) (hi := 999) hn (by omega) (by omega) (bt rfl (refu_1 (bf (by decide) (hQ.no I (by decide)))))

theorem S_reel {h : PH} (I : II h) {Q2 : Int32 → Int32 → PH → Prop} (hQ : HQ Q2) (n : Int32) : wp_L_reel 0 n 351 h (fun r7 h6 => wp_X8_reel 344 n h6 (fun r10 h9 => Q2 r7 r10 h9)) := by
  obtain ⟨N, D, A, nx, K, kb, s, t, x⟩ := id I
  have x' : PreI h N D A nx K kb s t := x
  obtain ⟨⟨hI, hR, hM⟩, _⟩ := x
  have i3 := hI.1
  have i4 := hI.2.1
  unfold wp_L_reel wp_X7_reel
  by_cases hn : inB n 2 61
  · obtain ⟨n, h1, h2, rfl⟩ := hn
    have c3 : ∀ g : PH, Mw (g 346) N → (g (344 + 2) (0 : Int32).toNatClampNeg) = nI (N 0 0) := fun g m => by
      have : (0 : Int32).toNatClampNeg = 0 := by decide
      rw [this]; exact m.g (by omega)
    have v0 : vp_in 0 (al (344 + 2)) := by rw [show al (344 + 2) = 427 from al_346, li_0]; exact vp_in_nI (by omega) (by omega)
    by_cases h3 : N 0 0 < 3
    · refine L1 (N' := adR N n) x' (hI.adR h3 (by omega)) (fun Q' q => wn_reel_0 hR.1 hI h1 (by omega) h3 q) (fun h2 Q' r q => co_reel SB_1 r.1 hI (by omega) h3 (fun h3 z => q h3 (r.dn z rfl).1 (r.dn z rfl).2)) ?_
      intro h4 y
      unfold wp_X8_reel
      refine in_in (lo := 2) (hi := 60) h1 (by omega) (by omega) (bf' (by decide) ⟨v0, bf ?_ ?_⟩)
      · rw [c3 h4 (y.m hM), li_3]; exact nI_ge (by omega) (by omega)
      exact L2 (Mop := fun h Q => wp_X8_reelOn (344 + 2) (nI n) h Q) x' y (hI.adR h3 (by omega)) (fun h5 Q' m q => mo_reelOn al_346 m h3 q) hQ
    · refine act_3 (fun Q' q => wn_reel_3 hR.1 hI h1 (by omega) (by omega) q) ?_
      refine ⟨fun z => absurd z (by simp), fun _ => ?_, fun _ z => absurd rfl z⟩
      unfold wp_X8_reel
      refine in_in (lo := 2) (hi := 60) h1 (by omega) (by omega) (bf' (by decide) ⟨v0, bt ?_ ?_⟩)
      · rw [c3 h hM, li_3]; exact nI_le (by omega) (by omega)
      exact refu_2 (bf (by decide) (hQ.no I (by decide)))
  · refine act_2 (fun Q' q => wn_reel_2 hn q) ?_
    refine ⟨fun _ => ?_, fun z => absurd z (by simp), fun z _ => absurd rfl z⟩
    unfold wp_X8_reel
    exact in_out (lo := 2) (hi := 60) hn (by omega) (by omega) (bt' rfl (refu_1 (bf (by decide) (hQ.no I (by decide)))))

theorem S_loop {h : PH} (I : II h) {Q2 : Int32 → Int32 → PH → Prop} (hQ : HQ Q2)  : wp_L_loop 0  351 h (fun r7 h6 => wp_X8_loop 344  h6 (fun r10 h9 => Q2 r7 r10 h9)) := by
  obtain ⟨N, D, A, nx, K, kb, s, t, x⟩ := id I
  have x' : PreI h N D A nx K kb s t := x
  obtain ⟨⟨hI, hR, hM⟩, _⟩ := x
  have i3 := hI.1
  have i4 := hI.2.1
  unfold wp_L_loop wp_X7_loop
  have c3 : ∀ g : PH, Mw (g 346) N → (g (344 + 2) (1 : Int32).toNatClampNeg) = nI (N 0 1) := fun g m => by
    have : (1 : Int32).toNatClampNeg = 1 := by decide
    rw [this]; exact m.g (by omega)
  have v0 : vp_in 1 (al (344 + 2)) := by rw [show al (344 + 2) = 427 from al_346, li_1]; exact vp_in_nI (by omega) (by omega)
  by_cases h4 : N 0 1 < 4
  · refine L1 (N' := adL N) x' (hI.adL h4) (fun Q' q => wn_loop_0 hR.1 hI h4 q) (fun h2 Q' r q => co_loop SB_1 r.1 hI h4 (fun h3 z => q h3 (r.dn z rfl).1 (r.dn z rfl).2)) ?_
    intro h5 y
    unfold wp_X8_loop
    refine ⟨v0, bf ?_ ?_⟩
    · rw [c3 h5 (y.m hM), li_4]; exact nI_ge (by omega) (by omega)
    exact L2 (Mop := fun h Q => wp_X8_loopOn (344 + 2) h Q) x' y (hI.adL h4) (fun h5 Q' m q => mo_loopOn al_346 m h4 q) hQ
  · refine act_3 (fun Q' q => wn_loop_3 hR.1 hI (by omega) q) ?_
    refine ⟨fun _ => ?_, fun z => absurd rfl z⟩
    unfold wp_X8_loop
    refine ⟨v0, bt ?_ ?_⟩
    · rw [c3 h hM, li_4]; exact nI_le (by omega) (by omega)
    exact refu_1 (bf (by decide) (hQ.no I (by decide)))

theorem S_paint {h : PH} (I : II h) {Q2 : Int32 → Int32 → PH → Prop} (hQ : HQ Q2) (r x y v : Int32) : wp_L_paint 0 r x y v 351 h (fun r7 h6 => wp_X8_paint 344 r x y v h6 (fun r10 h9 => Q2 r7 r10 h9)) := by
  obtain ⟨N, D, A, nx, K, kb, s, t, x⟩ := id I
  have x' : PreI h N D A nx K kb s t := x
  obtain ⟨⟨hI, hR, hM⟩, _⟩ := x
  have i3 := hI.1
  have i4 := hI.2.1
  unfold wp_L_paint wp_X7_paint
  by_cases hr : inB r 0 (N 0 0)
  · obtain ⟨r, _, hr, rfl⟩ := hr
    by_cases hx : inB x 0 (N (1 + r) 0)
    · obtain ⟨x, _, hx, rfl⟩ := hx
      by_cases hy : inB y 0 (N (1 + r) 0)
      · obtain ⟨y, _, hy, rfl⟩ := hy
        have h60 := (hI.ir hr).1
        by_cases ho : x ≤ y
        · by_cases hv : inB v 0 10
          · obtain ⟨v, _, hv, rfl⟩ := hv
            have ok : okPa N r x y v := ⟨hr, hx, hy, ho, by omega⟩
            refine L1 (N' := paS N r x y v) x' (hI.setR hr ((hI.ir hr).pa (by omega))) (fun Q' q => wn_paint_0 hR.1 hI ok q) (fun h2 Q' rr q => co_paint rr.1 hI ok (fun h3 z => q h3 (rr.dn z s0).1 (rr.dn z s0).2)) ?_
            intro h4 yy
            unfold wp_X8_paint
            refine mo_isCell al_346 (yy.m hM) hI hr hx (bf (by decide) (mo_isCell al_346 (yy.m hM) hI hr hy (bf' (by decide) (bf (nI_nlt ho (by omega)) (in_in (lo := 0) (hi := 9) (by omega) (by omega) (by omega) (bf' (by decide) ?_))))))
            exact L2 (Mop := fun h Q => wp_X8_paintOn (344 + 2) (nI r) (nI x) (nI y) (nI v) h Q) x' yy (hI.setR hr ((hI.ir hr).pa (by omega))) (fun h5 Q' m q => mo_paintOn al_346 m hI hr ho hy (by omega) q) hQ
          · refine act_2 (fun Q' q => wn_paint_v hR.1 hI hr hx hy ho hv q) ?_
            refine ⟨fun z => absurd z (by simp), fun _ => ?_, fun _ z => absurd rfl z⟩
            unfold wp_X8_paint
            exact mo_isCell al_346 hM hI hr hx (bf (by decide) (mo_isCell al_346 hM hI hr hy (bf' (by decide) (bf (nI_nlt ho (by omega)) (in_out (lo := 0) (hi := 9) hv (by omega) (by omega) (bt' rfl (refu_2 (bf (by decide) (hQ.no I (by decide)))))))))) 
        · refine act_2 (fun Q' q => wn_paint_o hR.1 hI hr hx hy (by omega) q) ?_
          refine ⟨fun z => absurd z (by simp), fun _ => ?_, fun _ z => absurd rfl z⟩
          unfold wp_X8_paint
          exact mo_isCell al_346 hM hI hr hx (bf (by decide) (mo_isCell al_346 hM hI hr hy (bf' (by decide) (bt (nI_lt (by omega) (by omega)) (refu_2 (bf (by decide) (hQ.no I (by decide))))))))
      · refine act_1 (fun Q' q => wn_paint_y hR.1 hI hr hx hy q) ?_
        refine ⟨fun _ => ?_, fun z => absurd z (by simp), fun z _ => absurd rfl z⟩
        unfold wp_X8_paint
        exact mo_isCell al_346 hM hI hr hx (bf (by decide) (mo_isCellN2 al_346 hM hI hr hy (bt' rfl (refu_1 (bf (by decide) (hQ.no I (by decide)))))))
    · refine act_1 (fun Q' q => wn_paint_x hR.1 hI hr hx q) ?_
      refine ⟨fun _ => ?_, fun z => absurd z (by simp), fun z _ => absurd rfl z⟩
      unfold wp_X8_paint
      exact mo_isCellN2 al_346 hM hI hr hx (bt rfl (refu_1 (bf (by decide) (hQ.no I (by decide)))))
  · refine act_1 (fun Q' q => wn_paint_r hR.1 hI hr q) ?_
    refine ⟨fun _ => ?_, fun z => absurd z (by simp), fun z _ => absurd rfl z⟩
    unfold wp_X8_paint
    exact mo_isCellN1 al_346 hM hI hr (bt rfl (refu_1 (bf (by decide) (hQ.no I (by decide)))))

theorem S_splice {h : PH} (I : II h) {Q2 : Int32 → Int32 → PH → Prop} (hQ : HQ Q2) (l r x y : Int32) : wp_L_splice 0 l r x y 351 h (fun r7 h6 => wp_X8_splice 344 l r x y h6 (fun r10 h9 => Q2 r7 r10 h9)) := by
  obtain ⟨N, D, A, nx, K, kb, s, t, x⟩ := id I
  have x' : PreI h N D A nx K kb s t := x
  obtain ⟨⟨hI, hR, hM⟩, _⟩ := x
  have i3 := hI.1
  have i4 := hI.2.1
  unfold wp_L_splice wp_X7_splice
  by_cases hl : inB l 0 (N 0 1)
  · obtain ⟨l, _, hl, rfl⟩ := hl
    by_cases hr : inB r 0 (N 0 0)
    · obtain ⟨r, _, hr, rfl⟩ := hr
      by_cases hx : inB x 0 (N (1 + r) 0 + 1)
      · obtain ⟨x, _, hx, rfl⟩ := hx
        by_cases hy : inB y 0 (N (1 + r) 0 + 1)
        · obtain ⟨y, _, hy, rfl⟩ := hy
          have ok : okSp N l r x y := ⟨hl, hr, by omega, by omega⟩
          have md : ∀ {h4}, Mw (h4 346) N → ∀ Q', wp_X8_refused 344 0 h4 Q' → wp_X8_isLoop (344 + 2) (nI l) h4 (fun r2 h1 => ((r2 = 0) → True) ∧ ((¬ (r2 = 0)) → True)) := fun m Q' _ => mo_isLoop al_346 m hI hl ⟨fun _ => trivial, fun _ => trivial⟩
          by_cases e : rsN N l r x y = 0
          · obtain ⟨hxy, h48, h5⟩ := rsN_0 e
            have il := hI.il hl
            have i6 := il.2.2.2.2.1
            refine L1 (N' := jnS N l r x y) (v := 0) x' (hI.setL hl (il.jn (hI.ir hr) hxy (by omega) h48 (by omega))) (fun Q' q => wn_splice_0 hR.1 hI ok q) (fun h2 Q' rr q => co_splice rr.1 hI ok (fun _ h3 z => q h3 (rr.dn z s4).1 (rr.dn z s4).2) (fun z => absurd e z)) ?_
            intro h4 yy
            unfold wp_X8_splice
            refine mo_isLoop al_346 (yy.m hM) hI hl (bf (by decide) (mo_isPlace al_346 (yy.m hM) hI hr (by omega) (bf (by decide) (mo_isPlace al_346 (yy.m hM) hI hr (by omega) (bf (by decide) ?_)))))
            exact L2 (Mop := fun h Q => wp_X8_spliceOn (344 + 2) (nI l) (nI r) (nI x) (nI y) h Q) x' yy (hI.setL hl (il.jn (hI.ir hr) hxy (by omega) h48 (by omega))) (fun h5 Q' m q => mo_spliceOn al_346 m hI hl hr (by omega) (by omega) (fun _ => q) (fun z => absurd e z)) hQ
          · refine L1 (N' := reF N) (v := nI (rsN N l r x y)) x' (hI.set0 (by decide) (by decide)) (fun Q' q => wn_splice_0 hR.1 hI ok q) (fun h2 Q' rr q => co_splice rr.1 hI ok (fun z => absurd z e) (fun _ R' => q _ (Fr.up.sub (by omega) (by omega)) ⟨?_, ?_⟩)) ?_
            · obtain ⟨y1, y2, y3, y4, y5, y6, y7⟩ := R'
              exact ⟨y1, y2, y3, y4, y5, fun r hr => by rw [show reF N (1 + r) = N (1 + r) from setO_n (by omega)]; exact y6 r hr, fun l hl => by rw [show reF N (4 + l) = N (4 + l) from setO_n (by omega)]; exact y7 l hl⟩
            · rw [up2_at, rr.2, nI_1]; rfl
            intro h4 yy
            unfold wp_X8_splice
            refine mo_isLoop al_346 (yy.m hM) hI hl (bf (by decide) (mo_isPlace al_346 (yy.m hM) hI hr (by omega) (bf (by decide) (mo_isPlace al_346 (yy.m hM) hI hr (by omega) (bf (by decide) ?_)))))
            exact L2 (Mop := fun h Q => wp_X8_spliceOn (344 + 2) (nI l) (nI r) (nI x) (nI y) h Q) x' yy (hI.set0 (by decide) (by decide)) (fun h5 Q' m q => mo_spliceOn al_346 m hI hl hr (by omega) (by omega) (fun z => absurd z e) (fun _ => q)) hQ
        · refine act_1 (fun Q' q => wn_splice_y hR.1 hI hl hr (by omega) hy q) ?_
          refine ⟨fun _ => ?_, fun z => absurd rfl z⟩
          unfold wp_X8_splice
          exact mo_isLoop al_346 hM hI hl (bf (by decide) (mo_isPlace al_346 hM hI hr (by omega) (bf (by decide) (mo_isPlaceN2 al_346 hM hI hr hy (bt rfl (refu_1 (bf (by decide) (hQ.no I (by decide)))))))))
      · refine act_1 (fun Q' q => wn_splice_x hR.1 hI hl hr hx q) ?_
        refine ⟨fun _ => ?_, fun z => absurd rfl z⟩
        unfold wp_X8_splice
        exact mo_isLoop al_346 hM hI hl (bf (by decide) (mo_isPlaceN2 al_346 hM hI hr hx (bt rfl (refu_1 (bf (by decide) (hQ.no I (by decide)))))))
    · refine act_1 (fun Q' q => wn_splice_r hR.1 hI hl hr q) ?_
      refine ⟨fun _ => ?_, fun z => absurd rfl z⟩
      unfold wp_X8_splice
      exact mo_isLoop al_346 hM hI hl (bf (by decide) (mo_isPlaceN1 al_346 hM hI hr (bt rfl (refu_1 (bf (by decide) (hQ.no I (by decide)))))))
  · refine act_1 (fun Q' q => wn_splice_l hR.1 hI hl q) ?_
    refine ⟨fun _ => ?_, fun z => absurd rfl z⟩
    unfold wp_X8_splice
    exact mo_isLoopN al_346 hM hI hl (bt rfl (refu_1 (bf (by decide) (hQ.no I (by decide)))))

theorem S_unsplice {h : PH} (I : II h) {Q2 : Int32 → Int32 → PH → Prop} (hQ : HQ Q2) (l : Int32) : wp_L_unsplice 0 l 351 h (fun r7 h6 => wp_X8_unsplice 344 l h6 (fun r10 h9 => Q2 r7 r10 h9)) := by
  obtain ⟨N, D, A, nx, K, kb, s, t, x⟩ := id I
  have x' : PreI h N D A nx K kb s t := x
  obtain ⟨⟨hI, hR, hM⟩, _⟩ := x
  have i3 := hI.1
  have i4 := hI.2.1
  unfold wp_L_unsplice wp_X7_unsplice
  by_cases hl : inB l 0 (N 0 1)
  · obtain ⟨l, _, hl, rfl⟩ := hl
    have il := hI.il hl
    have i48 := il.1
    by_cases h0 : N (4 + l) 0 = 0
    · refine act_3 (fun Q' q => wn_unsplice_3 hR.1 hI hl h0 q) ?_
      refine ⟨fun z => absurd z (by simp), fun _ => ?_, fun _ z => absurd rfl z⟩
      unfold wp_X8_unsplice
      exact mo_isLoop al_346 hM hI hl (bf' (by decide) (mo_of (u := 0) al_346 (hM.l (by omega)) (by omega) (by omega) (bt' (by rw [h0]; rfl) (refu_2 (bf (by decide) (hQ.no I (by decide)))))))
    · refine L1 (N' := toS N l) x' (hI.setL hl (il.to (il.some (by omega)))) (fun Q' q => wn_unsplice_0 hR.1 hI hl h0 q) (fun h2 Q' rr q => co_unsplice rr.1 hI hl h0 (fun h3 z => q h3 (rr.dn z s4).1 (rr.dn z s4).2)) ?_
      intro h4 yy
      unfold wp_X8_unsplice
      refine mo_isLoop al_346 (yy.m hM) hI hl (bf' (by decide) (mo_of (u := 0) al_346 ((yy.m hM).l (by omega)) (by omega) (by omega) (bf' (by rw [z0 (by omega)]; exact h0) ?_)))
      exact L2 (Mop := fun h Q => wp_X8_unspliceOn (344 + 2) (nI l) h Q) x' yy (hI.setL hl (il.to (il.some (by omega)))) (fun h5 Q' m q => mo_unspliceOn al_346 m hI hl (by omega) q) hQ
  · refine act_1 (fun Q' q => wn_unsplice_l hR.1 hI hl q) ?_
    refine ⟨fun _ => ?_, fun z => absurd z (by simp), fun z _ => absurd rfl z⟩
    unfold wp_X8_unsplice
    exact mo_isLoopN al_346 hM hI hl (bt' rfl (refu_1 (bf (by decide) (hQ.no I (by decide)))))

theorem S_speed {h : PH} (I : II h) {Q2 : Int32 → Int32 → PH → Prop} (hQ : HQ Q2) (l p u : Int32) : wp_L_speed 0 l p u 351 h (fun r7 h6 => wp_X8_speed 344 l p u h6 (fun r10 h9 => Q2 r7 r10 h9)) := by
  obtain ⟨N, D, A, nx, K, kb, s, t, x⟩ := id I
  have x' : PreI h N D A nx K kb s t := x
  obtain ⟨⟨hI, hR, hM⟩, _⟩ := x
  have i3 := hI.1
  have i4 := hI.2.1
  unfold wp_L_speed wp_X7_speed
  by_cases hl : inB l 0 (N 0 1)
  · obtain ⟨l, _, hl, rfl⟩ := hl
    have il := hI.il hl
    by_cases hp : inB p 1 10
    · obtain ⟨p, hp1, hp2, rfl⟩ := hp
      by_cases hu : inB u 1 10
      · obtain ⟨u, hu1, hu2, rfl⟩ := hu
        refine L1 (N' := spS N l p u) x' (hI.setL hl (il.sp ⟨hp1, by omega⟩ ⟨hu1, by omega⟩)) (fun Q' q => wn_speed_0 hR.1 hI hl ⟨hp1, by omega⟩ ⟨hu1, by omega⟩ q) (fun h2 Q' rr q => co_speed rr.1 hI hl (by omega) (fun h3 z => q h3 (rr.dn z s4).1 (rr.dn z s4).2)) ?_
        intro h4 yy
        unfold wp_X8_speed
        refine mo_isLoop al_346 (yy.m hM) hI hl (bf' (by decide) (in_in (lo := 1) (hi := 9) hp1 (by omega) (by omega) (bf (by decide) (in_in (lo := 1) (hi := 9) hu1 (by omega) (by omega) (bf (by decide) ?_)))))
        exact L2 (Mop := fun h Q => wp_X8_speedOn (344 + 2) (nI l) (nI p) (nI u) h Q) x' yy (hI.setL hl (il.sp ⟨hp1, by omega⟩ ⟨hu1, by omega⟩)) (fun h5 Q' m q => mo_speedOn al_346 m hI hl (by omega) q) hQ
      · refine act_2 (fun Q' q => wn_speed_q hR.1 hI hl ⟨hp1, by omega⟩ hu q) ?_
        refine ⟨fun z => absurd z (by simp), fun _ => ?_, fun _ z => absurd rfl z⟩
        unfold wp_X8_speed
        exact mo_isLoop al_346 hM hI hl (bf' (by decide) (in_in (lo := 1) (hi := 9) hp1 (by omega) (by omega) (bf (by decide) (in_out (lo := 1) (hi := 9) hu (by omega) (by omega) (bt rfl (refu_2 (bf (by decide) (hQ.no I (by decide)))))))))
    · refine act_2 (fun Q' q => wn_speed_p hR.1 hI hl hp q) ?_
      refine ⟨fun z => absurd z (by simp), fun _ => ?_, fun _ z => absurd rfl z⟩
      unfold wp_X8_speed
      exact mo_isLoop al_346 hM hI hl (bf' (by decide) (in_out (lo := 1) (hi := 9) hp (by omega) (by omega) (bt rfl (refu_2 (bf (by decide) (hQ.no I (by decide)))))))
  · refine act_1 (fun Q' q => wn_speed_l hR.1 hI hl q) ?_
    refine ⟨fun _ => ?_, fun z => absurd z (by simp), fun z _ => absurd rfl z⟩
    unfold wp_X8_speed
    exact mo_isLoopN al_346 hM hI hl (bt' rfl (refu_1 (bf (by decide) (hQ.no I (by decide)))))

theorem S_mute {h : PH} (I : II h) {Q2 : Int32 → Int32 → PH → Prop} (hQ : HQ Q2) (l : Int32) (m : Bool) : wp_L_mute 0 l (bi m) 351 h (fun r7 h6 => wp_X8_mute 344 l (bi m) h6 (fun r10 h9 => Q2 r7 r10 h9)) := by
  obtain ⟨N, D, A, nx, K, kb, s, t, x⟩ := id I
  have x' : PreI h N D A nx K kb s t := x
  obtain ⟨⟨hI, hR, hM⟩, _⟩ := x
  have i4 := hI.2.1
  unfold wp_L_mute wp_X7_mute
  have E : ∀ P1 P2 : Prop, (∀ m', m' = m → (if m' = true then P2 else P1)) → ((bi m = 0) → P1) ∧ ((¬ (bi m = 0)) → P2) := by
    intro P1 P2 hh
    have := hh m rfl
    cases m with
    | false => exact bt rfl (by simpa using this)
    | true => exact bf (by decide) (by simpa using this)
  have main : ∀ (X : String → PH → Prop), (∀ g : PH, (g = h → X "java/lang/IndexOutOfBoundsException" g → True)) → True := fun _ _ => trivial
  by_cases hl : inB l 0 (N 0 1)
  · obtain ⟨l, _, hl, rfl⟩ := hl
    have il := hI.il hl
    have fin : ∀ (X : String → PH → Prop), wp_X7_act 0 109 (nI l) (bi m) 0 0 h (fun r2 h1 => (vp_in 0 (al 351)) ∧ (∀ h5 : PH, h5 = up2 h1 351 (0 : Int32).toNatClampNeg r2 → wp_X8_mute 344 (nI l) (bi m) h5 (fun r10 h9 => Q2 0 r10 h9))) X := by
      intro X
      refine L1 (N' := muS N l m.toNat) x' (hI.setL hl (il.mu (by cases m <;> decide))) (fun Q' q => wn_mute_0 hR.1 hI hl q) (fun h2 Q' rr q => co_mute rr.1 hI hl (fun h3 z => q h3 (rr.dn z s4).1 (rr.dn z s4).2)) ?_
      intro h4 yy
      unfold wp_X8_mute
      refine mo_isLoop al_346 (yy.m hM) hI hl (bf (by decide) ?_)
      exact L2 (Mop := fun h Q => wp_X8_muteOn (344 + 2) (nI l) (bi m) h Q) x' yy (hI.setL hl (il.mu (by cases m <;> decide))) (fun h5 Q' mm q => mo_muteOn al_346 mm hI hl q) hQ
    cases m with
    | false => exact bt rfl (fin _)
    | true => exact bf (by decide) (fin _)
  · have fin : ∀ u : Int32, wp_X7_act 0 109 l u 0 0 h (fun r2 h1 => (vp_in 0 (al 351)) ∧ (∀ h5 : PH, h5 = up2 h1 351 (0 : Int32).toNatClampNeg r2 → wp_X8_mute 344 l (bi m) h5 (fun r10 h9 => Q2 0 r10 h9))) (fun E h => (E = "java/lang/IndexOutOfBoundsException" → wp_X8_mute 344 l (bi m) h (fun r10 h9 => Q2 1 r10 h9)) ∧ (¬ E = "java/lang/IndexOutOfBoundsException" → False)) := by
      intro u
      refine act_1 (fun Q' q => wn_mute_l hR.1 hI hl q) ?_
      refine ⟨fun _ => ?_, fun z => absurd rfl z⟩
      unfold wp_X8_mute
      exact mo_isLoopN al_346 hM hI hl (bt rfl (refu_1 (bf (by decide) (hQ.no I (by decide)))))
    cases m with
    | false => exact bt rfl (fin 0)
    | true => exact bf (by decide) (fin 1)

theorem S_record {h : PH} (I : II h) {Q2 : Int32 → Int32 → PH → Prop} (hQ : HQ Q2) (r n : Int32) : wp_L_record 0 r n 351 h (fun r7 h6 => wp_X8_record 344 r n h6 (fun r10 h9 => Q2 r7 r10 h9)) := by
  obtain ⟨N, D, A, nx, K, kb, s, t, x⟩ := id I
  have x' : PreI h N D A nx K kb s t := x
  obtain ⟨⟨hI, hR, hM⟩, _⟩ := x
  have i3 := hI.1
  have i4 := hI.2.1
  unfold wp_L_record wp_X7_record
  by_cases hr : inB r 0 (N 0 0)
  · obtain ⟨r, _, hr, rfl⟩ := hr
    have h60 := (hI.ir hr).1
    by_cases hn : inB n 1 (N (1 + r) 0 + 1)
    · obtain ⟨n, h1, h2, rfl⟩ := hn
      refine L1 (N' := rcS N r n) x' (hI.rc hr) (fun Q' q => wn_record_0 hR.1 hI hr h1 (by omega) q) (fun h2 Q' rr q => co_record rr.1 hI hr (by omega) (fun h3 z => q h3 (rr.dn z ?_).1 (rr.dn z ?_).2)) ?_
      · unfold rcS; rw [setO_n (by omega)]; rfl
      · unfold rcS; rw [setO_n (by omega)]; rfl
      intro h4 yy
      unfold wp_X8_record
      refine mo_isReel al_346 (yy.m hM) hI hr (bf' (by decide) (mo_cells al_346 ((yy.m hM).r (by omega)) (by omega) ?_))
      rw [nI_l (by omega : N (1 + r) 0 < 2 ^ 31)]
      refine in_in (lo := 1) h1 (by omega) (by omega) (bf (by decide) ?_)
      exact L2 (Mop := fun h Q => wp_X8_recordOn (344 + 2) (nI r) (nI n) h Q) x' yy (hI.rc hr) (fun h5 Q' m q => mo_recordOn al_346 m hI hr (by omega) q) hQ
    · refine act_2 (fun Q' q => wn_record_n hR.1 hI hr hn q) ?_
      refine ⟨fun z => absurd z (by simp), fun _ => ?_, fun _ z => absurd rfl z⟩
      unfold wp_X8_record
      refine mo_isReel al_346 hM hI hr (bf' (by decide) (mo_cells al_346 (hM.r (by omega)) (by omega) ?_))
      rw [nI_l (by omega : N (1 + r) 0 < 2 ^ 31)]
      exact in_out (lo := 1) hn (by omega) (by omega) (bt rfl (refu_2 (bf (by decide) (hQ.no I (by decide)))))
  · refine act_1 (fun Q' q => wn_record_r hR.1 hI hr q) ?_
    refine ⟨fun _ => ?_, fun z => absurd z (by simp), fun z _ => absurd rfl z⟩
    unfold wp_X8_record
    exact mo_isReelN al_346 hM hI hr (bt' rfl (refu_1 (bf (by decide) (hQ.no I (by decide)))))

