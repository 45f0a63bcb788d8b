
theorem in_Lin {k lo hi : Nat} {h : PH} {Q : Int32 → PH → Prop} (h1 : lo ≤ k) (h2 : k ≤ hi) (hh : hi < 2 ^ 63) (q : Q 1 h) : wp_X8_in (lN k) (lN lo) (lN hi) h Q := by
  unfold wp_X8_in
  exact bf (by rw [lg_cmp_lt, pk_lLT (by omega) (by omega)]; omega) (bf (by rw [lg_cmp_gt, pk_lLT (by omega) (by omega)]; omega) q)
theorem in_Lhi {k lo hi : Nat} {h : PH} {Q : Int32 → PH → Prop} (h2 : hi < k) (hl : lo < 2 ^ 63) (hk : k < 2 ^ 63) (q : Q 0 h) : wp_X8_in (lN k) (lN lo) (lN hi) h Q := by
  unfold wp_X8_in
  by_cases c : k < lo
  · exact bt (by rw [lg_cmp_lt, pk_lLT (by omega) (by omega)]; omega) q
  · exact bf (by rw [lg_cmp_lt, pk_lLT (by omega) (by omega)]; omega) (bt (by rw [lg_cmp_gt, pk_lLT (by omega) (by omega)]; omega) q)
theorem in_Lneg {z y : Int64} {h : PH} {Q : Int32 → PH → Prop} (hz : z < 0) (q : Q 0 h) : wp_X8_in z 0 y h Q := by
  unfold wp_X8_in
  exact bt (by rw [lg_cmp_lt]; exact hz) q
def rs1 (N : Nat → Nat → Nat) (G : Nat) : Bool × (Nat → Nat → Nat) := cmS N (G / 1000000) (G % 1000000)
def rsA (N : Nat → Nat → Nat) (k : Nat) : Int32 := if (rs1 N k).1 then -1 else 0
def rsB (N : Nat → Nat → Nat) (k : Nat) : Int32 := if (rs1 N (k / 10000000)).1 then (if (rs1 (rs1 N (k / 10000000)).2 (k % 10000000)).1 then -1 else 1) else 0
theorem rs_inv {N : Nat → Nat → Nat} {G : Nat} (hI : Inv N) : Inv (rs1 N G).2 := cm_inv hI
theorem ok_ob {b G : Nat} {N : Nat → Nat → Nat} {h : PH} {Q : Int32 → PH → Prop} (hS : SB b) (hR : Rl b N h) (hI : Inv N) (hG : G < 10000000) (q : ∀ h', Fr b 21 h h' → Rl b (rs1 N G).2 h' → Q (bi (rs1 N G).1) h') : wp_X5_obeys b (nI G) h Q :=
  ok_obeys hS hR hI (by omega) (by omega) (by omega : G = G / 1000000 * 1000000 + G % 1000000) q
/-- what the class's copy is worth: nothing but the trial studio and the out row -/
theorem Eqv.trial {h h1 h2 : PH} {v : Int32} (x : Fr 22 21 h h1) : Eqv h (up2 h1 351 0 v) := (Eqv.fr x (Or.inl ⟨by omega, by omega⟩)).tr Eqv.out
section
variable {N : Nat → Nat → Nat} {h : PH} {Q : Int32 → PH → Prop}
theorem rs_end {n m : Nat} {z b4 : Int64} (hn : n ≤ 2) (q : Q (-1) h) : wp_X8_runScript_b86 344 (nI n) z Q (m + 1) b4 (nI n) h := by
  unfold wp_X8_runScript_b86
  exact bt (nI_le (Nat.le_refl _) (by omega)) q
theorem rs_step {n m i u k : Nat} (hM : Mw (h 347) N) (hI : Inv N) (hi : i < n) (hn : n ≤ 2) (hu : 0 < u) (hu2 : u ≤ 10000000) (hk : k < 100000000000000)
    (q1 : (rs1 N (k / u % 10000000)).1 = true → ∀ h', Fr 347 1 h h' → Mw (h' 347) (rs1 N (k / u % 10000000)).2 → wp_X8_runScript_b86 344 (nI n) (lN k) Q m (lN u) (nI (i + 1)) h')
    (q0 : (rs1 N (k / u % 10000000)).1 = false → ∀ h', Fr 347 1 h h' → Q (nI i) h') : wp_X8_runScript_b86 344 (nI n) (lN k) Q (m + 1) (lN (u * 10000000)) (nI i) h := by
  unfold wp_X8_runScript_b86
  refine bf (nI_ge hi (by omega)) ?_
  rintro x10 rfl
  have e1 : lN (u * 10000000) / 10000000 = lN u := by
    rw [show (10000000 : Int64) = lN 10000000 from rfl, pk_lDiv (by omega) (by omega) (by omega), Nat.mul_div_cancel _ (by omega)]
  rw [e1]
  refine ⟨by rw [lL0, pk_lEQ (by omega) (by omega)]; omega, ?_⟩
  rintro x12 rfl
  have dk : k / u ≤ k := Nat.div_le_self _ _
  rw [pk_lDiv (by omega) hu (by omega), show (10000000 : Int64) = lN 10000000 from rfl, jlrem_n (by omega) (by omega) (by omega), lN_i]
  have gl := Nat.mod_lt (k / u) (by omega : 0 < 10000000)
  generalize hG : k / u % 10000000 = G at *
  rw [show (1000000 : Int32) = nI 1000000 from rfl, pk_div (by omega) (by omega) (by omega), jirem_n (by omega) (by omega) (by omega)]
  refine mo_command hM hI (by omega) (by omega) ?_
  intro h' F M
  have M' : Mw (h' 347) (rs1 N G).2 := M
  show ((¬ bi (rs1 N G).1 = 0) → _) ∧ ((bi (rs1 N G).1 = 0) → _)
  cases e : (rs1 N G).1 with
  | true =>
    refine bf' (by decide) ?_
    rintro x16 rfl
    rw [nI_1]
    exact q1 e h' F M'
  | false => exact bt' rfl (q0 e h' F)
def MRS (n : Nat) (z : Int64) (T : Nat) (Q : Int32 → PH → Prop) (h2 : PH) : Prop := wp_X8_in z 0 (lN T - 1) h2 (fun r19 h18 => ((r19 = 0) → wp_X8_refused 344 1 h18 (fun r22 h21 => ((r22 = 0) → wp_X8_copyState (344 + 2) 0 (344 + 3) 0 h21 (fun h24 => ∃ n25 : Nat, wp_X8_runScript_b86 344 (nI n) z Q n25 (lN T) 0 h24)) ∧ ((¬ (r22 = 0)) → Q 0 h21))) ∧ ((¬ (r19 = 0)) → wp_X8_refused 344 0 h18 (fun r27 h26 => ((r27 = 0) → wp_X8_copyState (344 + 2) 0 (344 + 3) 0 h26 (fun h29 => ∃ n30 : Nat, wp_X8_runScript_b86 344 (nI n) z Q n30 (lN T) 0 h29)) ∧ ((¬ (r27 = 0)) → Q 0 h26))))
theorem mo_rs1 {z : Int64} (q : MRS 1 z 10000000 Q h) : wp_X8_runScript 344 (nI 1) z h Q := by
  refine ⟨2, ?_⟩
  unfold wp_X8_runScript_b6
  refine bf (by decide) (bf (by decide) ?_)
  rintro x53 rfl x54 rfl
  unfold wp_X8_runScript_b6
  rw [show (1 : Int64) * 10000000 = lN 10000000 from by decide]
  exact bt (by decide) (in_in (x := 1) (lo := 1) (hi := 2) (by omega) (by omega) (by omega) (bf (by decide) q))
theorem mo_rs2 {z : Int64} (q : MRS 2 z 100000000000000 Q h) : wp_X8_runScript 344 (nI 2) z h Q := by
  refine ⟨3, ?_⟩
  unfold wp_X8_runScript_b6
  refine bf (by decide) (bf (by decide) ?_)
  rintro x53 rfl x54 rfl
  unfold wp_X8_runScript_b6
  refine bf (by decide) (bf (by decide) ?_)
  rintro x55 rfl x56 rfl
  unfold wp_X8_runScript_b6
  rw [show (1 : Int64) * 10000000 * 10000000 = lN 100000000000000 from by decide]
  exact bt (by decide) (in_in (x := 2) (lo := 1) (hi := 2) (by omega) (by omega) (by omega) (bf (by decide) q))
theorem mo_rsn {n : Int32} {z : Int64} (hn : ¬ inB n 1 3) (q : Q 0 (up2 h 344 0 1)) : wp_X8_runScript 344 n z h Q := by
  refine ⟨3, ?_⟩
  have bad : ∀ (K : PH → Prop) (K2 : Int32 → PH → Prop), wp_X8_in (n.toInt64) 1 2 h (fun r3 h2 => ((r3 = 0) → wp_X8_refused 344 1 h2 (fun r6 h5 => ((r6 = 0) → K h5) ∧ ((¬ (r6 = 0)) → Q 0 h5))) ∧ ((¬ (r3 = 0)) → K2 r3 h2)) := fun K K2 => in_out (lo := 1) (hi := 2) hn (by omega) (by omega) (bt rfl (refu_1 (bf (by decide) q)))
  rcases nI_arb n with hneg | ⟨j, hj, rfl⟩
  · unfold wp_X8_runScript_b6
    exact bt (Int32.le_of_lt hneg) (bad _ (fun r3 h2 => _))
  · rw [inB_n hj (by omega)] at hn
    rcases (by omega : j = 0 ∨ 3 ≤ j) with rfl | h3
    · unfold wp_X8_runScript_b6
      exact bt (by decide) (bad _ (fun r3 h2 => _))
    · unfold wp_X8_runScript_b6
      refine bf (by rw [li_0]; exact nI_ge (by omega) (by omega)) (bf (by decide) ?_)
      rintro x53 rfl x54 rfl
      unfold wp_X8_runScript_b6
      refine bf (by rw [show (0 : Int32) + 1 = nI 1 from by decide]; exact nI_ge (by omega) (by omega)) (bf (by decide) ?_)
      rintro x55 rfl x56 rfl
      unfold wp_X8_runScript_b6
      refine bf (by rw [show (0 : Int32) + 1 + 1 = nI 2 from by decide]; exact nI_ge (by omega) (by omega)) (bt (by decide) (bad _ (fun r3 h2 => _)))
end
theorem cp_347 {N : Nat → Nat → Nat} {h h' : PH} (hM : Mw (h 346) N) (c : ∀ k, k < 427 → h' 347 (0 + k) = h 346 (0 + k)) : Mw (h' 347) N := Mw.eqv hM (fun k hk => by have := c k hk; rw [Nat.zero_add] at this; exact this)

theorem S_runScript {h : PH} (I : II h) {Q2 : Int32 → Int32 → PH → Prop} (hQ : HQ Q2) (n : Int32) (z : Int64) : wp_L_runScript 0 n z 351 h (fun r7 h6 => wp_X8_runScript 344 n z h6 (fun r10 h9 => Q2 r7 r10 h9)) := by
  obtain ⟨N, D, A, nx, K, kb, s, t, x⟩ := id I
  have x' : PreI h N D A nx K kb s t := x
  obtain ⟨⟨hI, hR, hM⟩, ⟨b1, b2, b3⟩, ⟨c1, c2, c3⟩, d1, d2, d3⟩ := x
  have i3 := hI.1
  have i4 := hI.2.1
  have R := hR.1
  unfold wp_L_runScript wp_X7_runScript
  by_cases hn : inB n 1 3
  · obtain ⟨n, hn1, hn3, rfl⟩ := hn
    refine out_in (lo := 1) (hi := 2) hn1 (by omega) (by omega) (bt rfl ?_)
    have fin : ∀ h1 v, Fr 22 21 h h1 → ∀ h3, Eqv (up2 (up2 h1 351 0 v) 344 0 0) h3 → (∀ i, i ≠ 347 → h3 i = up2 (up2 h1 351 0 v) 344 0 0 i) → Q2 0 v h3 := by
      intro h1 v F1 h3 E3 o3
      refine hQ.yes I (((Eqv.trial (h2 := h1) F1).tr (Eqv.rfu (by decide) (by decide))).tr E3) ?_ ?_
      · rw [o3 344 (by decide)]; exact up2_at
      · rw [o3 351 (by decide), up2_o 351 (by decide)]; exact up2_at
    have badc : ∀ n, (n = 1 ∨ n = 2) → wp_X8_runScript 344 (nI n) z h (fun r10 h9 => Q2 1 r10 h9) → wp_X8_runScript 344 (nI n) z h (fun r10 h9 => Q2 1 r10 h9) := fun _ _ q => q
    by_cases hz : z < 0
    · have hl : (lg_cmp z 0) < 0 := by rw [lg_cmp_lt]; exact hz
      rcases (by omega : n = 1 ∨ n = 2) with rfl | rfl
      · refine bt' rfl (bt hl ?_)
        refine ⟨fun _ => ?_, fun z => absurd rfl z⟩
        exact mo_rs1 (in_Lneg hz (bt rfl (refu_1 (bf (by decide) (hQ.no I (by decide))))))
      · refine bf' (by decide) (bt hl ?_)
        refine ⟨fun _ => ?_, fun z => absurd rfl z⟩
        exact mo_rs2 (in_Lneg hz (bt rfl (refu_1 (bf (by decide) (hQ.no I (by decide))))))
    · obtain ⟨k, hk, rfl⟩ := pk_lOf hz
      have hl : ¬ (lg_cmp (lN k) 0) < 0 := by rw [lg_cmp_lt]; exact hz
      rcases (by omega : n = 1 ∨ n = 2) with rfl | rfl
      · refine bt' rfl (bf hl ?_)
        by_cases c : k < 10000000
        · refine bt (by rw [lg_cmp_lt, show (10000000 : Int64) = lN 10000000 from rfl, pk_lLT (by omega) (by omega)]; exact c) (ok_copyStudio SB_22 R hI (by omega) ?_)
          intro h1 F1 _ R1
          rintro x22 rfl
          rw [show (10000000 : Int64) = lN 10000000 from rfl, jlrem_n (by omega) (by omega) (by omega), lN_i, Nat.mod_eq_of_lt c]
          refine bt' rfl (ok_ob SB_22 R1 hI c ?_)
          intro h2 F2 _
          have Mo : wp_X8_runScript 344 (nI 1) (lN k) (up2 h2 351 0 (rsA N k)) (fun r10 h9 => Q2 0 r10 h9) := by
            have F12 := F1.tr F2
            have m0 : Mw (up2 (up2 h2 351 0 (rsA N k)) 344 0 0 346) N := by rw [up2_o 346 (by decide), up2_o 346 (by decide), F12 346 (by omega)]; exact hM
            refine mo_rs1 (in_Lin (lo := 0) (hi := 9999999) (by omega) (by omega) (by omega) (bf (by decide) (refu_0 (bt rfl (mo_copyState (s := 346) (t := 347) (o := 0) (u := 0) al_346 al_347 (by omega) (by omega) (by omega) (by omega) (by decide) ?_)))))
            intro h3 F3 c3 _
            have M3 := cp_347 m0 c3
            have e1 : k / 1 % 10000000 = k := by omega
            refine ⟨2, rs_step (u := 1) (i := 0) M3 hI (by omega) (by omega) (by omega) (by omega) (by omega) (fun e h4 F4 _ => ?_) (fun e h4 F4 => ?_)⟩
            · rw [e1] at e
              have ev : rsA N k = -1 := by unfold rsA; rw [e]; rfl
              refine rs_end (n := 1) (by omega) ?_
              rw [ev] at F3
              exact fin h2 (-1) F12 h4 (Eqv.fr (F3.tr F4) (Or.inr (Or.inr (Or.inl ⟨rfl, rfl⟩)))) (fun i hi => (F3.tr F4) i (by omega))
            · rw [e1] at e
              have ev : rsA N k = 0 := by unfold rsA; rw [e]; rfl
              rw [ev] at F3
              exact fin h2 0 F12 h4 (Eqv.fr (F3.tr F4) (Or.inr (Or.inr (Or.inl ⟨rfl, rfl⟩)))) (fun i hi => (F3.tr F4) i (by omega))
          unfold rsA at Mo
          cases e : (rs1 N k).1 with
          | true => rw [e] at Mo; exact bf (by decide) (wr Mo)
          | false => rw [e] at Mo; exact bt rfl (wr Mo)
        · refine bf (by rw [lg_cmp_lt, show (10000000 : Int64) = lN 10000000 from rfl, pk_lLT (by omega) (by omega)]; exact c) ?_
          refine ⟨fun _ => ?_, fun z => absurd rfl z⟩
          exact mo_rs1 (in_Lhi (lo := 0) (hi := 9999999) (by omega) (by omega) hk (bt rfl (refu_1 (bf (by decide) (hQ.no I (by decide))))))
      · refine bf' (by decide) (bf hl ?_)
        by_cases c : k < 100000000000000
        · refine bt (by rw [lg_cmp_lt, show (100000000000000 : Int64) = lN 100000000000000 from rfl, pk_lLT (by omega) (by omega)]; exact c) (ok_copyStudio SB_22 R hI (by omega) ?_)
          intro h1 F1 _ R1
          rintro x8 rfl
          have m7 := Nat.mod_lt k (by omega : 0 < 10000000)
          rw [show (10000000 : Int64) = lN 10000000 from rfl, jlrem_n (by omega) (by omega) (by omega), lN_i, pk_lDiv (by omega) (by omega) (by omega), lN_i]
          have e1 : k / 10000000 % 10000000 = k / 10000000 := by omega
          have e2 : k / 1 % 10000000 = k % 10000000 := by omega
          have Mo : ∀ h2, Fr 22 21 h h2 → wp_X8_runScript 344 (nI 2) (lN k) (up2 h2 351 0 (rsB N k)) (fun r10 h9 => Q2 0 r10 h9) := by
            intro h2 F12
            have m0 : Mw (up2 (up2 h2 351 0 (rsB N k)) 344 0 0 346) N := by rw [up2_o 346 (by decide), up2_o 346 (by decide), F12 346 (by omega)]; exact hM
            refine mo_rs2 (in_Lin (lo := 0) (hi := 99999999999999) (by omega) (by omega) (by omega) (bf (by decide) (refu_0 (bt rfl (mo_copyState (s := 346) (t := 347) (o := 0) (u := 0) al_346 al_347 (by omega) (by omega) (by omega) (by omega) (by decide) ?_)))))
            intro h3 F3 c3 _
            have M3 := cp_347 m0 c3
            refine ⟨3, rs_step (u := 10000000) (i := 0) M3 hI (by omega) (by omega) (by omega) (by omega) c (fun e h4 F4 M4 => ?_) (fun e h4 F4 => ?_)⟩
            · rw [e1] at e M4
              refine rs_step (u := 1) (i := 1) M4 (rs_inv hI) (by omega) (by omega) (by omega) (by omega) c (fun e' h5 F5 _ => ?_) (fun e' h5 F5 => ?_)
              · rw [e2] at e'
                have ev : rsB N k = -1 := by unfold rsB; rw [e, e']; rfl
                refine rs_end (n := 2) (by omega) ?_
                rw [ev] at F3
                exact fin h2 (-1) F12 h5 (Eqv.fr ((F3.tr F4).tr F5) (Or.inr (Or.inr (Or.inl ⟨rfl, rfl⟩)))) (fun i hi => ((F3.tr F4).tr F5) i (by omega))
              · rw [e2] at e'
                have ev : rsB N k = 1 := by unfold rsB; rw [e, e']; rfl
                rw [ev] at F3
                exact fin h2 1 F12 h5 (Eqv.fr ((F3.tr F4).tr F5) (Or.inr (Or.inr (Or.inl ⟨rfl, rfl⟩)))) (fun i hi => ((F3.tr F4).tr F5) i (by omega))
            · rw [e1] at e
              have ev : rsB N k = 0 := by unfold rsB; rw [e]; rfl
              rw [ev] at F3
              exact fin h2 0 F12 h4 (Eqv.fr (F3.tr F4) (Or.inr (Or.inr (Or.inl ⟨rfl, rfl⟩)))) (fun i hi => (F3.tr F4) i (by omega))
          unfold rsB at Mo
          refine bf' (by decide) (ok_ob SB_22 R1 hI (by omega) ?_)
          intro h2 F2 R2
          cases e : (rs1 N (k / 10000000)).1 with
          | false =>
            rw [e] at Mo
            exact bt' rfl (wr (Mo h2 (F1.tr F2)))
          | true =>
            rw [e] at Mo
            refine bf' (by decide) (ok_ob SB_22 R2 (rs_inv hI) m7 ?_)
            intro h3 F3 _
            cases e' : (rs1 (rs1 N (k / 10000000)).2 (k % 10000000)).1 with
            | false => rw [e'] at Mo; exact bt rfl (wr (Mo h3 ((F1.tr F2).tr F3)))
            | true => rw [e'] at Mo; exact bf (by decide) (wr (Mo h3 ((F1.tr F2).tr F3)))
        · refine bf (by rw [lg_cmp_lt, show (100000000000000 : Int64) = lN 100000000000000 from rfl, pk_lLT (by omega) (by omega)]; exact c) ?_
          refine ⟨fun _ => ?_, fun z => absurd rfl z⟩
          exact mo_rs2 (in_Lhi (lo := 0) (hi := 99999999999999) (by omega) (by omega) hk (bt rfl (refu_1 (bf (by decide) (hQ.no I (by decide))))))
  · refine out_out (lo := 1) (hi := 2) hn (by omega) (by omega) (bf (by decide) ?_)
    refine ⟨fun _ => ?_, fun z => absurd rfl z⟩
    exact mo_rsn hn (hQ.no I (by decide))

