
theorem FT.eqv {h h' : PH} (x : FT h h') : Eqv h h' := ⟨fun i hi => x.1 i (by omega) (by omega), x.2, by rw [x.1 344 (by decide) (by decide)], by rw [x.1 344 (by decide) (by decide)]⟩
theorem MX.ft {s : Nat} {t : Nat → Nat} {h h' : PH} (x : MX s t h) (y : FT h h') : MX s t h' := x.ag (by rw [y.1 344 (by decide) (by decide)]) (y.1 345 (by decide) (by decide))
theorem MX.rf {s j : Nat} {t : Nat → Nat} {h : PH} {v : Int32} (x : MX s t h) (e : j ≠ 2) : MX s t (up2 h 344 j v) := x.ag (up2_ne (Ne.symm e)) (up2_o 345 (by decide))
theorem S_errorPosition {h : PH} (I : II h) {Q2 : Int32 → Int32 → PH → Prop} (hQ : ∀ r h', II h' → Q2 r r h')  : wp_X7_errorPosition 0  h (fun r7 h6 => wp_X8_errorPosition 344  h6 (fun r10 h9 => Q2 r7 r10 h9)) := by
  obtain ⟨N, D, A, nx, K, kb, s, t, x⟩ := id I
  obtain ⟨_, _, _, d1, d2, d3⟩ := x
  unfold wp_X7_errorPosition
  refine ok_firstError d1 d2 ?_
  intro h1 F1
  unfold wp_X8_errorPosition
  rintro h2 rfl
  show wp_X8_readText 344 347 (up2 h1 344 0 0) _
  exact mo_readText d1 ((d3.ft F1).rf (by decide)) (fun h3 F3 _ => hQ _ _ (Eqv.II ((F1.eqv.tr (Eqv.rfu (by decide) (by decide))).tr F3.eqv) I))
theorem ok_number {j : Nat} {h : PH} {Q : Int32 → PH → Prop} (hj : j < 4) (q : Q (h 343 j) h) : wp_X6_number 341 (nI j) h Q := by
  unfold wp_X6_number
  exact get_in (show al (341 + 2) = 4 from al_343) (by omega) hj q
theorem bi_n {v : Nat} (h : v ≤ 1) : nI v = bi (decide (v = 1)) := by
  rcases (by omega : v = 0 ∨ v = 1) with rfl | rfl <;> rfl
theorem ok_pf {b c : Nat} {x0 x1 x2 x3 : Int32} {vs : List Nat} {N : Nat → Nat → Nat} {h : PH} {Q : Int32 → PH → Prop} (hS : SB b) (hR : Rl b N h) (hI : Inv N) (hc : ltr c = true) (e0 : 0 < (kl c).length → x0 = nI (vs.getD 0 0)) (e1 : 1 < (kl c).length → x1 = nI (vs.getD 1 0)) (e2 : 2 < (kl c).length → x2 = nI (vs.getD 2 0)) (e3 : 3 < (kl c).length → x3 = nI (vs.getD 3 0))
    (hb : ∀ j, j < (kl c).length → (kn ((kl c).getD j 0)).2.1 ≤ vs.getD j 0 ∧ vs.getD j 0 ≤ (kn ((kl c).getD j 0)).2.2) (q1 : ∀ N' h', exN N c (vs.getD 0 0) (vs.getD 1 0) (vs.getD 2 0) (vs.getD 3 0) = some N' → Dn b N' h h' → Q 1 h') (q0 : exN N c (vs.getD 0 0) (vs.getD 1 0) (vs.getD 2 0) (vs.getD 3 0) = none → Q 0 h) : wp_X5_perform b (nI c) x0 x1 x2 x3 h Q := by
  have bb : ∀ j, j < (kl c).length → vs.getD j 0 ≤ (kn ((kl c).getD j 0)).2.2 := fun j hj => (hb j hj).2
  rcases ltr_c hc with rfl | rfl | rfl | rfl | rfl | rfl | rfl | rfl

  · have b0 : vs.getD 0 0 ≤ 999 := Nat.le_trans (bb 0 (by decide)) (by decide)
    have b1 : vs.getD 1 0 ≤ 999 := Nat.le_trans (bb 1 (by decide)) (by decide)
    have b2 : vs.getD 2 0 ≤ 999 := Nat.le_trans (bb 2 (by decide)) (by decide)
    have b3 : vs.getD 3 0 ≤ 999 := Nat.le_trans (bb 3 (by decide)) (by decide)
    rw [e0 (by decide)]
    rw [e1 (by decide)]
    rw [e2 (by decide)]
    rw [e3 (by decide)]
    exact pe_splice hR hI (by omega) (by omega) (by omega) (by omega) (fun c h' D => q1 _ h' (ex_99 c) D) (fun c => q0 (ex_99n c))
  · exact pe_loop hS hR hI  (fun c h' D => q1 _ h' (ex_108 c) D) (fun c => q0 (ex_108n c))
  · have b0 : vs.getD 0 0 ≤ 999 := Nat.le_trans (bb 0 (by decide)) (by decide)
    have b1 : vs.getD 1 0 ≤ 999 := Nat.le_trans (bb 1 (by decide)) (by decide)
    rw [e0 (by decide)]
    rw [e1 (by decide)]
    have b1' : vs.getD 1 0 ≤ 1 := Nat.le_trans (bb 1 (by decide)) (by decide)
    rw [bi_n b1']
    exact pe_mute hR hI (by omega) (fun c h' D => q1 _ h' (ex_109 c) D) (fun c => q0 (ex_109n c))
  · have b0 : vs.getD 0 0 ≤ 999 := Nat.le_trans (bb 0 (by decide)) (by decide)
    have b1 : vs.getD 1 0 ≤ 999 := Nat.le_trans (bb 1 (by decide)) (by decide)
    have b2 : vs.getD 2 0 ≤ 999 := Nat.le_trans (bb 2 (by decide)) (by decide)
    have b3 : vs.getD 3 0 ≤ 999 := Nat.le_trans (bb 3 (by decide)) (by decide)
    rw [e0 (by decide)]
    rw [e1 (by decide)]
    rw [e2 (by decide)]
    rw [e3 (by decide)]
    exact pe_paint hR hI (by omega) (by omega) (by omega) (by omega) (fun c h' D => q1 _ h' (ex_112 c) D) (fun c => q0 (ex_112n c))
  · have b0 : vs.getD 0 0 ≤ 999 := Nat.le_trans (bb 0 (by decide)) (by decide)
    rw [e0 (by decide)]
    exact pe_reel hS hR hI (by omega) (fun c h' D => q1 _ h' (ex_114 c) D) (fun c => q0 (ex_114n c))
  · have b0 : vs.getD 0 0 ≤ 999 := Nat.le_trans (bb 0 (by decide)) (by decide)
    rw [e0 (by decide)]
    exact pe_ticks hR hI (by omega) (fun c h' D => q1 _ h' (ex_116 c) D) (fun c => q0 (ex_116n c))
  · have b0 : vs.getD 0 0 ≤ 999 := Nat.le_trans (bb 0 (by decide)) (by decide)
    have b1 : vs.getD 1 0 ≤ 999 := Nat.le_trans (bb 1 (by decide)) (by decide)
    have b2 : vs.getD 2 0 ≤ 999 := Nat.le_trans (bb 2 (by decide)) (by decide)
    rw [e0 (by decide)]
    rw [e1 (by decide)]
    rw [e2 (by decide)]
    exact pe_speed hR hI (by omega) (by omega) (by omega) (fun c h' D => q1 _ h' (ex_118 c) D) (fun c => q0 (ex_118n c))
  · have b0 : vs.getD 0 0 ≤ 999 := Nat.le_trans (bb 0 (by decide)) (by decide)
    have b1 : vs.getD 1 0 ≤ 999 := Nat.le_trans (bb 1 (by decide)) (by decide)
    rw [e0 (by decide)]
    rw [e1 (by decide)]
    exact pe_record hR hI (by omega) (by omega) (fun c h' D => q1 _ h' (ex_119 c) D) (fun c => q0 (ex_119n c))

theorem cmdP_inv {s a a1 c : Nat} {t : Nat → Nat} {vs : List Nat} (e : cmdP s t a = (some (c, vs), a1)) : a < s ∧ ltr c = true ∧ numK s t (kl c) (a + 1) = (some vs, a1) := by
  by_cases hc : a < s ∧ ltr (t a) = true
  · cases en : numK s t (kl (t a)) (a + 1) with
    | mk o a2 =>
      cases o with
      | none => rw [cmdP_n hc en] at e; cases e
      | some ws => rw [cmdP_s hc en] at e; cases e; exact ⟨hc.1, hc.2, en⟩
  · rw [cmdP_f hc] at e; cases e
def FL (h h' : PH) : Prop := (∀ i, ¬ (1 ≤ i ∧ i < 22) → i ≠ 341 → i ≠ 343 → h' i = h i) ∧ h' 341 2 = h 341 2 ∧ h' 1 5 = h 1 5
theorem FL.rf {h : PH} : FL h h := ⟨fun _ _ _ _ => rfl, rfl, rfl⟩
theorem FL.tr {h h1 h2 : PH} (x : FL h h1) (y : FL h1 h2) : FL h h2 := ⟨fun i a b c => (y.1 i a b c).trans (x.1 i a b c), y.2.1.trans x.2.1, y.2.2.trans x.2.2⟩
theorem FT.fl {h h' : PH} (x : FT h h') : FL h h' := ⟨fun i _ b c => x.1 i b c, x.2, by rw [x.1 1 (by decide) (by decide)]⟩
theorem Dn.fl {N' : Nat → Nat → Nat} {h h' : PH} (x : Dn 1 N' h h') : FL h h' := ⟨fun i a _ _ => x.1 i (by omega), by rw [x.1 341 (by omega)], x.2.1⟩
theorem CX.fl {s : Nat} {t : Nat → Nat} {h h' : PH} (x : CX s t h) (y : FL h h') : CX s t h' := x.ag y.2.1 (y.1 342 (by decide) (by decide) (by decide))
theorem Rl.ft {N : Nat → Nat → Nat} {h h' : PH} (x : Rl 1 N h) (hI : Inv N) (y : FT h h') : Rl 1 N h' := x.ag hI (fun i h1 h2 => y.1 i (by omega) (by omega))
theorem ok_ldl {s : Nat} {t : Nat → Nat} {Q : Int32 → PH → Prop} {X : String → PH → Prop} (g : GX s t) : ∀ n i a N o h, i + n = 120 → a ≤ s → CX s t h → h 341 3 = nI a → Rl 1 N h → Inv N →
    (∀ h', FL h h' → Inv (ldP s t n a N o).1 → Rl 1 (ldP s t n a N o).1 h' → (ldP s t n a N o).1 0 3 = N 0 3 → Q (nI (ldP s t n a N o).2) h') → wp_X7_load_b62 0 Q X (n + 1) (nI o) (nI i) h := by
  intro n
  induction n with
  | zero =>
    intro i a N o h hi has hx ha hR hI q
    unfold wp_X7_load_b62
    exact bt (by rw [show (120 : Int32) = nI 120 from rfl]; exact nI_le (by omega) (by omega)) (q h FL.rf hI hR rfl)
  | succ n ih =>
    intro i a N o h hi has hx ha hR hI q
    unfold wp_X7_load_b62
    refine bf (by rw [show (120 : Int32) = nI 120 from rfl]; exact nI_ge (by omega) (by omega)) ?_
    refine ok_readCommand g has hx ha ?_
    intro h1 F1 e1 v1
    have b := cmdP_le (t := t) has
    have R1 := hR.ft hI F1
    cases en : cmdP s t a with
    | mk p a1 =>
      rw [en] at e1 v1 b
      have b2 : a1 ≤ s := b.2.1
      cases p with
      | none =>
        rw [ld_none en] at q
        exact bt rfl (q h1 F1.fl hI R1 rfl)
      | some p =>
        obtain ⟨c, vs⟩ := p
        obtain ⟨e4, vv⟩ := v1 c vs rfl
        obtain ⟨lt, hc, nk⟩ := cmdP_inv en
        have kb := numK_b (kl c) (a + 1) vs a1 (fun j hj => ((ltr_t hc).2.2 j hj).2) nk
        refine bf (show ¬ (1 : Int32) = 0 by decide) (ok_number (j := 0) (by omega) (ok_number (j := 1) (by omega) (ok_number (j := 2) (by omega) (ok_number (j := 3) (by omega) ?_))))
        show wp_X5_perform 1 (h1 341 4) (h1 343 0) (h1 343 1) (h1 343 2) (h1 343 3) h1 _
        rw [e4]
        refine ok_pf SB_1 R1 hI hc (fun z => vv 0 z) (fun z => vv 1 z) (fun z => vv 2 z) (fun z => vv 3 z) kb (fun N' h2 e Dd => ?_) (fun e => ?_)
        · refine bf' (by decide) ?_
          rintro x rfl
          rw [nI_1]
          have X' : XR N (exN N c (vs.getD 0 0) (vs.getD 1 0) (vs.getD 2 0) (vs.getD 3 0)) o N' o := XR.y e
          obtain ⟨I', E'⟩ := ex_inv hc hI X'
          rw [ld_step lt en X'] at q
          refine ih (i + 1) a1 N' o h2 (by omega) b2 ((hx.ft F1).fl Dd.fl) (by rw [Dd.1 341 (by omega)]; exact e1) Dd.2.2 I' ?_
          intro h3 F3 I3 R3 E3
          exact q h3 ((F1.fl.tr Dd.fl).tr F3) I3 R3 (E3.trans E')
        · refine bt' rfl ?_
          rintro x rfl y rfl
          rw [nI_1, nI_1]
          have X' : XR N (exN N c (vs.getD 0 0) (vs.getD 1 0) (vs.getD 2 0) (vs.getD 3 0)) o N (o + 1) := XR.n e
          rw [ld_step lt en X'] at q
          refine ih (i + 1) a1 N (o + 1) h1 (by omega) b2 (hx.ft F1) e1 R1 hI ?_
          intro h3 F3 I3 R3 E3
          exact q h3 (F1.fl.tr F3) I3 R3 E3

theorem S_load {h : PH} (I : II h) {Q2 : Int32 → Int32 → PH → Prop} (hQ : HQ Q2)  : wp_L_load 0  351 h (fun r7 h6 => wp_X8_load 344  h6 (fun r10 h9 => Q2 r7 r10 h9)) := by
  obtain ⟨N, D, A, nx, K, kb, s, t, x⟩ := id I
  have x' : PreI h N D A nx K kb s t := x
  obtain ⟨⟨hI, hR, hM⟩, ⟨b1, b2, b3⟩, ⟨c1, c2, c3⟩, d1, d2, d3⟩ := x
  have i3 := hI.1
  have i4 := hI.2.1
  have R := hR.1
  unfold wp_L_load wp_X7_load
  refine ok_firstError d1 d2 ?_
  intro h1 F1
  by_cases e : errT s t = -1
  · refine bt e (ok_clear SB_1 ?_)
    intro h2 F2 e5 R2
    unfold wp_X2_forget
    rintro h3 rfl h4 rfl h5 rfl
    unfold wp_X6_begin
    rintro h6 rfl
    generalize hg : up2 (up2 (up2 (up2 h2 (0 + 43) 2 0) (0 + 297) 1 0) (0 + 319) 1 0) (0 + 341) 3 1 = g
    have G2 : ∀ i, i ≠ 43 → i ≠ 297 → i ≠ 319 → i ≠ 341 → g i = h2 i := fun i a b c d => by rw [← hg, up2_o i d, up2_o i c, up2_o i b, up2_o i a]
    have G : ∀ i, ¬ (1 ≤ i ∧ i < 22) → i ≠ 43 → i ≠ 297 → i ≠ 319 → i ≠ 341 → i ≠ 343 → g i = h i := fun i a b c d e f => by rw [G2 i b c d e, F2 i (by omega), F1.1 i e f]
    have g43 : ∀ j, j ≠ 2 → g 43 j = h 43 j := fun j hj => by rw [← hg, up2_o 43 (by decide), up2_o 43 (by decide), up2_o 43 (by decide), up2_ne hj, F2 43 (by omega), F1.1 43 (by decide) (by decide)]
    have g432 : g 43 2 = 0 := by rw [← hg, up2_o 43 (by decide), up2_o 43 (by decide), up2_o 43 (by decide)]; exact up2_at
    have g297 : g 297 1 = 0 := by rw [← hg, up2_o 297 (by decide), up2_o 297 (by decide)]; exact up2_at
    have g319 : g 319 1 = 0 := by rw [← hg, up2_o 319 (by decide)]; exact up2_at
    have g3412 : g 341 2 = h 341 2 := by rw [← hg, up2_ne (by decide), up2_o 341 (by decide), up2_o 341 (by decide), up2_o 341 (by decide), F2 341 (by omega), F1.2]
    have g3413 : g 341 3 = nI 1 := by rw [← hg]; exact up2_at
    have Rg : Rl 1 zeS g := R2.ag Inv.ze (fun i a b => G2 i (by omega) (by omega) (by omega) (by omega))
    have g15 : g 1 5 = 0 := by rw [G2 1 (by decide) (by decide) (by decide) (by decide)]; exact e5
    have xg : CX s t g := d2.ag g3412 (G 342 (by decide) (by decide) (by decide) (by decide) (by decide) (by decide))
    have s0 : 1 ≤ s := by
      rcases Nat.eq_zero_or_pos s with z | z
      · unfold errT at e
        rw [if_neg (by omega)] at e
        exact absurd e (by decide)
      · exact z
    refine ⟨121, ok_ldl d1 120 0 1 zeS 0 g (by omega) s0 xg g3413 Rg Inv.ze ?_⟩
    intro h7 F7 I7 R7 E7
    refine wr ?_
    generalize hf : up2 h7 351 0 (nI (ldP s t 120 1 zeS 0).2) = f
    have f7 : ∀ i, i ≠ 351 → f i = h7 i := fun i a => by rw [← hf, up2_o i a]
    have fo : ∀ i, ¬ (1 ≤ i ∧ i < 22) → i ≠ 43 → i ≠ 297 → i ≠ 319 → i ≠ 341 → i ≠ 343 → i ≠ 351 → f i = h i := fun i a b c d e f9 g9 => by rw [f7 i g9, F7.1 i a e f9, G i a b c d e f9]
    have fg : ∀ i, ¬ (1 ≤ i ∧ i < 22) → i ≠ 341 → i ≠ 343 → i ≠ 351 → f i = g i := fun i a b c d => by rw [f7 i d, F7.1 i a b c]
    unfold wp_X8_load
    show wp_X8_readText 344 347 f _
    refine mo_readText d1 (d3.ag (by rw [fo 344 (by decide) (by decide) (by decide) (by decide) (by decide) (by decide) (by decide)]) (fo 345 (by decide) (by decide) (by decide) (by decide) (by decide) (by decide) (by decide))) ?_
    intro h8 F8 k8
    obtain ⟨M8, o8⟩ := k8 e
    refine bt' e (refu_0 (bt rfl ?_))
    refine mo_copyState (s := 347) (t := 346) (o := 0) (u := 0) al_347 al_346 (by omega) (by omega) (by omega) (by omega) (by decide) ?_
    intro h9 F9 c9 _
    rintro h10 rfl
    refine ⟨by rw [show al (344 + 6) = 2 from al_350, li_0]; exact vp_in_nI (by omega) (by omega), ?_⟩
    rintro h11 rfl
    refine ⟨by rw [show al (344 + 6) = 2 from al_350, li_1]; exact vp_in_nI (by omega) (by omega), ?_⟩
    rintro h12 rfl
    have c0 : (0 : Int32).toNatClampNeg = 0 := by decide
    have c1 : (1 : Int32).toNatClampNeg = 1 := by decide
    rw [c0, c1]
    generalize hz : up2 (up2 (up2 h9 344 6 0) (344 + 6) 0 0) (344 + 6) 1 0 = z
    have z9 : ∀ i, i ≠ 344 → i ≠ 350 → z i = h9 i := fun i a b => by rw [← hz, up2_o i b, up2_o i b, up2_o i a]
    have zf : ∀ i, i ≠ 344 → i ≠ 346 → i ≠ 347 → i ≠ 350 → z i = f i := fun i a b c d => by rw [z9 i a d, F9 i (by omega), up2_o i a, F8.1 i a c]
    have z344 : ∀ j, j ≠ 6 → z 344 j = h9 344 j := fun j hj => by rw [← hz, up2_o 344 (by decide), up2_o 344 (by decide), up2_ne hj]
    have z3446 : z 344 6 = 0 := by rw [← hz, up2_o 344 (by decide), up2_o 344 (by decide)]; exact up2_at
    have zz : ∀ j, j ≠ 6 → j ≠ 0 → z 344 j = h8 344 j := fun j a b => by rw [z344 j a, F9 344 (by omega), up2_ne b]
    have z10 : z 344 10 = nI (ldP s t 120 1 zeS 0).2 := by rw [zz 10 (by decide) (by decide)]; exact o8
    have z0' : z 344 0 = 0 := by rw [z344 0 (by decide), F9 344 (by omega)]; exact up2_at
    rw [z10]
    refine hQ 0 _ z ?_ z0' (fun _ => ?_)
    · refine ⟨(ldP s t 120 1 zeS 0).1, D, 0, nx, K, (fun _ => 0), s, t, ⟨I7, ⟨?_, ?_⟩, ?_⟩, ⟨⟨b1.1, by omega, fun i hi => absurd hi (Nat.not_lt_zero _)⟩, ⟨?_, ?_, fun i hi => absurd hi (Nat.not_lt_zero _)⟩, ⟨?_, fun i hi => absurd hi (Nat.not_lt_zero _)⟩⟩, ⟨fun j hj => ⟨Nat.zero_le 1, fun z => absurd z (show ¬ 0 = 1 by decide)⟩, fun j hj => ⟨?_, fun z => absurd z (show ¬ 0 = 1 by decide)⟩, fun j hj => ⟨?_, fun z => absurd z (show ¬ 0 = 1 by decide)⟩⟩, ⟨d1, d2.ag ?_ ?_, d3.ag ?_ ?_⟩⟩
      · exact R7.ag I7 (fun i a b => by rw [zf i (by omega) (by omega) (by omega) (by omega), f7 i (by omega)])
      · rw [zf 1 (by decide) (by decide) (by decide) (by decide), f7 1 (by decide), F7.2.2, g15, E7]; rfl
      · rw [z9 346 (by decide) (by decide)]
        refine Mw.eqv M8 (fun k hk => ?_)
        have := c9 k hk
        rw [Nat.zero_add, up2_o 347 (by decide)] at this
        exact this
      · rw [zf 43 (by decide) (by decide) (by decide) (by decide), fg 43 (by decide) (by decide) (by decide) (by decide), g43 1 (by decide)]; exact b2.1
      · rw [zf 43 (by decide) (by decide) (by decide) (by decide), fg 43 (by decide) (by decide) (by decide) (by decide), g432]; rfl
      · rw [z3446]; rfl
      · have : j = 0 ∨ j = 1 := by omega
        rcases this with rfl | rfl
        · rw [show 297 + 22 * 0 = 297 from rfl, zf 297 (by decide) (by decide) (by decide) (by decide), fg 297 (by decide) (by decide) (by decide) (by decide), g297]; rfl
        · rw [show 297 + 22 * 1 = 319 from rfl, zf 319 (by decide) (by decide) (by decide) (by decide), fg 319 (by decide) (by decide) (by decide) (by decide), g319]; rfl
      · have : j = 0 ∨ j = 1 := by omega
        rcases this with rfl | rfl
        · rw [← hz, up2_ne (by decide)]; exact up2_at
        · rw [← hz]; exact up2_at
      · rw [zf 341 (by decide) (by decide) (by decide) (by decide), f7 341 (by decide), F7.2.1, g3412]
      · rw [zf 342 (by decide) (by decide) (by decide) (by decide), fo 342 (by decide) (by decide) (by decide) (by decide) (by decide) (by decide) (by decide)]
      · rw [zz 2 (by decide) (by decide), F8.2 2 (by decide) (by decide), fo 344 (by decide) (by decide) (by decide) (by decide) (by decide) (by decide) (by decide)]
      · rw [zf 345 (by decide) (by decide) (by decide) (by decide), fo 345 (by decide) (by decide) (by decide) (by decide) (by decide) (by decide) (by decide)]
    · rw [zf 351 (by decide) (by decide) (by decide) (by decide), ← hf]; exact up2_at
  · refine bf e ?_
    refine ⟨fun _ => ?_, fun z => absurd rfl z⟩
    unfold wp_X8_load
    show wp_X8_readText 344 347 h1 _
    exact mo_readText d1 (d3.ft F1) (fun h2 F2 _ => bf' e (refu_1 (bf (by decide) (hQ.no (Eqv.II (F1.eqv.tr F2.eqv) I) (by decide)))))

