
theorem oL_i (o : Option Nat) : (oL o).toInt32 = oI o := by
  cases o with
  | none => decide
  | some t => exact lN_i t
theorem lN_m1 {t : Nat} (h : t ≤ 1000000) : ¬ lN t = -1 := by
  intro e
  have := congrArg Int64.toInt e
  rw [lN_toInt (by omega)] at this
  have m : (-1 : Int64).toInt = -1 := by decide
  omega
theorem mo_mt {l m : Nat} {f g : Nat → Nat} {h : PH} {Q : Int32 → PH → Prop} (hM : Ml (h 346) l f) (hl : l < 4) (hI : IL f) (hM' : Ml (h 346) m g) (hm : m < 4) (hI' : IL g) (q : Q (mtN f g) h) : wp_X8_of (344 + 2) (nI l) 0 h (fun r30 h29 => ((r30 = 0) → Q (-1) h29) ∧ ((¬ (r30 = 0)) → wp_X8_of (344 + 2) (nI m) 0 h29 (fun r33 h32 => ((¬ r33 = 0) → wp_X8_firstZero (344 + 2) (nI l) 0 1 1000000 h32 (fun r36 h35 => ((¬ (lg_cmp r36 (-1)) = 0) → wp_X8_period (344 + 2) (nI l) h35 (fun r39 h38 => wp_X8_firstZero (344 + 2) (nI m) r36 (r39.toInt64) 1000000 h38 (fun r41 h40 => Q (r41.toInt32) h40))) ∧ (((lg_cmp r36 (-1)) = 0) → Q (-1) h35))) ∧ ((r33 = 0) → Q (-1) h32)))) := by
  have f48 := hI.1
  have g48 := hI'.1
  have lP := hI.per
  refine mo_of (u := 0) al_346 hM hl (by omega) ?_
  unfold mtN at q
  rw [z0 (by omega)]
  by_cases e : f 0 = 0
  · rw [if_pos (Or.inl e)] at q; exact bt e q
  · refine bf e (mo_of (u := 0) al_346 hM' hm (by omega) ?_)
    rw [z0 (by omega)]
    by_cases e2 : g 0 = 0
    · rw [if_pos (Or.inr e2)] at q; exact bt' e2 q
    · rw [if_neg (by omega)] at q
      refine bf' e2 (mo_firstZero (t0 := 0) (step := 1) al_346 hM hl hI (by omega) (by omega) (by omega) ?_)
      cases ez : zfO f 1 (perN f) 0 with
      | none => rw [ez] at q; exact bt' rfl q
      | some t =>
        rw [ez] at q
        obtain ⟨_, ht, _⟩ := zf_is _ _ ez
        refine bf' ?_ (mo_period al_346 hM hl hI ?_)
        · show ¬ lg_cmp (lN t) (-1) = 0
          rw [lg_cmp_eq]
          exact lN_m1 ht
        · show wp_X8_firstZero (344 + 2) (nI m) (lN t) ((nI (perN f)).toInt64) 1000000 h _
          rw [nI_l (by omega)]
          refine mo_firstZero al_346 hM' hm hI' (by omega) ht (by omega) ?_
          rw [oL_i]
          exact q

theorem S_meet {h : PH} (I : II h) {Q2 : Int32 → Int32 → PH → Prop} (hQ : HQ Q2) (l m u : Int32) : wp_L_meet 0 l m u 351 h (fun r7 h6 => wp_X8_meet 344 l m u h6 (fun r10 h9 => Q2 r7 r10 h9)) := by
  obtain ⟨N, D, A, nx, K, kb, s, t, x⟩ := id I
  have x' : PreI h N D A nx K kb s t := x
  obtain ⟨⟨hI, hR, hM⟩, ⟨b1, b2, b3⟩, ⟨c1, c2, c3⟩, d1, d2, d3⟩ := x
  have i3 := hI.1
  have i4 := hI.2.1
  have R := hR.1
  unfold wp_L_meet wp_X7_meet
  by_cases hl : inB l 0 (N 0 1)
  · obtain ⟨l, _, hl, rfl⟩ := hl
    have il := hI.il hl
    refine ok_loopAt R hI hl ?_
    by_cases hm : inB m 0 (N 0 1)
    · obtain ⟨m, _, hm, rfl⟩ := hm
      have im := hI.il hm
      refine ok_loopAt R hI hm (sm_t (sm_t ?_))
      by_cases hu : inB u 0 2
      · obtain ⟨u, _, hu, rfl⟩ := hu
        refine out_in (lo := 0) (hi := 1) (by omega) (by omega) (by omega) (bt rfl ?_)
        have Mo : wp_X8_meet 344 (nI l) (nI m) (nI u) (up2 h 351 0 (mtN (N (4 + l)) (N (4 + m)))) (fun r10 h9 => Q2 0 r10 h9) := by
          unfold wp_X8_meet
          exact mo_isLoop al_346 (m351 hM) hI hl (bf (by decide) (mo_isLoop al_346 (m351 hM) hI hm (bf' (by decide) (in_in (lo := 0) (hi := 1) (by omega) (by omega) (by omega) (bf (by decide) (refu_0 (bt rfl (mo_mt ((m344 (m351 hM)).l (by omega)) (by omega) il ((m344 (m351 hM)).l (by omega)) (by omega) im (hQ.q I)))))))))
        have : u = 0 ∨ u = 1 := by omega
        rcases this with rfl | rfl
        · exact bt' rfl (ok_byGoing (R.lo hl) il (R.lo hm) im (wr Mo))
        · exact bf' (by decide) (ok_byDivisor (R.lo hl) il (R.lo hm) im (wr Mo))
      · refine out_out (lo := 0) (hi := 1) hu (by omega) (by omega) (bf (by decide) ?_)
        refine ⟨fun z => absurd z (by simp), fun _ => ?_, fun _ z => absurd rfl z⟩
        unfold wp_X8_meet
        exact mo_isLoop al_346 hM hI hl (bf (by decide) (mo_isLoop al_346 hM hI hm (bf' (by decide) (in_out (lo := 0) (hi := 1) hu (by omega) (by omega) (bt rfl (refu_2 (bf (by decide) (hQ.no I (by decide)))))))))
    · refine ok_loopAtN R hI hm (sm_t (sm_n ?_))
      refine ⟨fun _ => ?_, fun z => absurd z (by simp), fun z _ => absurd rfl z⟩
      unfold wp_X8_meet
      exact mo_isLoop al_346 hM hI hl (bf (by decide) (mo_isLoopN al_346 hM hI hm (bt' rfl (refu_1 (bf (by decide) (hQ.no I (by decide)))))))
  · refine ok_loopAtN R hI hl ?_
    have fin : wp_X8_meet 344 l m u h (fun r10 h9 => Q2 1 r10 h9) := by
      unfold wp_X8_meet
      exact mo_isLoopN al_346 hM hI hl (bt rfl (refu_1 (bf (by decide) (hQ.no I (by decide)))))
    by_cases hm : inB m 0 (N 0 1)
    · obtain ⟨m, _, hm, rfl⟩ := hm
      refine ok_loopAt R hI hm (sm_n ?_)
      refine ⟨fun _ => ?_, fun z => absurd z (by simp), fun z _ => absurd rfl z⟩
      exact fin
    · refine ok_loopAtN R hI hm (sm_n ?_)
      refine ⟨fun _ => ?_, fun z => absurd z (by simp), fun z _ => absurd rfl z⟩
      exact fin


def maN (N : Nat → Nat → Nat) : Nat → Nat → Option Nat → Nat → Int32
  | 0, _, o, _ => oI o
  | d + 1, l, o, st => if N (4 + l) 0 = 0 then maN N d (l + 1) o st else
      match zfO (N (4 + l)) st (perN (N (4 + l))) (o.getD 0) with
      | none => -1
      | some T => maN N d (l + 1) (some T) (st / Nat.gcd st (perN (N (4 + l))) * perN (N (4 + l)))
theorem ma_st {st p l : Nat} (h0 : 0 < st) (hs : st ≤ 432 ^ l) (hp : 0 < p) (h : p ≤ 432) : 0 < st / Nat.gcd st p * p ∧ st / Nat.gcd st p * p ≤ 432 ^ (l + 1) := by
  have g0 : 0 < Nat.gcd st p := Nat.gcd_pos_of_pos_left _ h0
  refine ⟨Nat.mul_pos (Nat.div_pos (Nat.le_of_dvd h0 (Nat.gcd_dvd_left _ _)) g0) hp, ?_⟩
  rw [Nat.pow_succ]
  exact Nat.mul_le_mul (Nat.le_trans (Nat.div_le_self _ _) hs) h
theorem st_40 {st l : Nat} (hs : st ≤ 432 ^ l) (hl : l ≤ 4) : st < 2 ^ 40 :=
  Nat.lt_of_le_of_lt (Nat.le_trans hs (Nat.pow_le_pow_right (by omega) hl)) (Nat.le_of_ble_eq_true rfl : 432 ^ 4 + 1 ≤ 2 ^ 40)
theorem ok_lm {st p : Nat} {h : PH} {Q : Int64 → PH → Prop} (h0 : 0 < st) (hs : st < 2 ^ 40) (hp : 0 < p) (p4 : p ≤ 432) (q : Q (lN (st / Nat.gcd st p * p)) h) : wp_X1_leastMultiple (lN st) (lN p) h Q := by
  have g0 : 0 < Nat.gcd st p := Nat.gcd_pos_of_pos_left _ h0
  have g1 : Nat.gcd st p ≤ p := Nat.gcd_le_right _ hp
  unfold wp_X1_leastMultiple
  refine ok_gcd (m := 9) (by omega) (by omega) (by omega) ?_
  refine bt ?_ ⟨by rw [lL0, pk_lEQ (by omega) (by omega)]; omega, ?_⟩
  · rw [lg_cmp_gt, lL0, pk_lLT (by omega) (by omega)]; exact g0
  · rw [pk_lDiv (by omega) g0 (by omega), lN_mul]; exact q
theorem mo_mul {st p : Nat} {h : PH} {Q : Int64 → PH → Prop} (h0 : 0 < st) (hs : st < 2 ^ 40) (hp : 0 < p) (p4 : p ≤ 432) (q : Q (lN (st / Nat.gcd st p * p)) h) : wp_X8_multiple (lN st) (nI p) h Q := by
  have g0 : 0 < Nat.gcd st p := Nat.gcd_pos_of_pos_left _ h0
  have g1 : Nat.gcd st p ≤ p := Nat.gcd_le_right _ hp
  have hm := Nat.mod_lt st hp
  unfold wp_X8_multiple
  rw [nI_l (by omega)]
  refine ⟨by rw [lL0, pk_lEQ (by omega) (by omega)]; omega, ?_⟩
  rw [jlrem_n (by omega) hp (by omega), lN_i]
  refine mo_divisor (by omega) (by omega) ?_
  rw [(Nat.gcd_rec p st).symm.trans (Nat.gcd_comm p st), nI_l (by omega)]
  refine ⟨by rw [lL0, pk_lEQ (by omega) (by omega)]; omega, ?_⟩
  rw [pk_lDiv (by omega) g0 (by omega), lN_mul]
  exact q
theorem ok_ofAll {b : Nat} {N : Nat → Nat → Nat} {h : PH} {Q : Int32 → PH → Prop} (hR : Rl b N h) (hI : Inv N) (q : Q (maN N (N 0 1) 0 none 1) h) : wp_X1_ofAll b h Q := by
  have i4 := hI.2.1
  refine ⟨N 0 1 + 1, ?_⟩
  suffices H : ∀ d i o st, i + d = N 0 1 → (∀ t, o = some t → t ≤ 1000000) → 0 < st → st ≤ 432 ^ i → Q (maN N d i o st) h → wp_X1_ofAll_b7 b Q (d + 1) (oI o) (lN st) (nI i) h from H (N 0 1) 0 none 1 (by omega) (fun t e => nomatch e) (by omega) (by decide) q
  intro d
  induction d with
  | zero =>
    intro i o st hi ho h0 hs q
    unfold wp_X1_ofAll_b7
    rw [hR.n1]
    exact bt (nI_le (by omega) (by omega)) q
  | succ d ih =>
    intro i o st hi ho h0 hs q
    unfold wp_X1_ofAll_b7
    rw [hR.n1]
    have hl : i < N 0 1 := by omega
    have il := hI.il hl
    have lP := il.per
    have s40 : st < 2 ^ 40 := st_40 hs (by omega)
    unfold maN at q
    refine bf (nI_ge hl (by omega)) (ok_loopAt hR hI hl (sm_t (ok_isEmpty (hR.lo hl) il ?_)))
    by_cases e : N (4 + i) 0 = 0
    · rw [if_pos e] at q
      refine bf' (bi_t (decide_eq_true e)) ?_
      rintro x rfl
      rw [nI_1]
      exact ih _ _ _ (by omega) ho h0 (Nat.le_trans hs (Nat.pow_le_pow_right (by omega) (by omega))) q
    · rw [if_neg e] at q
      refine bt' (bi_f (decide_eq_false e)) ?_
      have mx : ∀ {Q' : Int32 → PH → Prop}, Q' (nI (o.getD 0)) h → wp_J9_max_7cf53 (oI o) 0 h Q' := by
        intro Q' q'
        cases o with
        | none => exact bt (show (-1 : Int32) < 0 by decide) q'
        | some t =>
          have := ho t rfl
          exact max_n (a := t) (b := 0) (by omega) (by omega) (by rw [Nat.max_eq_left (Nat.zero_le _)]; exact q')
      refine mx ?_
      have tb : o.getD 0 ≤ 1000000 := by
        cases o with
        | none => exact Nat.zero_le _
        | some t => exact ho t rfl
      rw [nI_l (by omega)]
      refine ok_zeroFrom (hR.lo hl) il tb s40 ?_
      rw [if_neg e]
      cases ez : zfO (N (4 + i)) st (perN (N (4 + i))) (o.getD 0) with
      | none => rw [ez] at q; exact bt' rfl q
      | some T =>
        rw [ez] at q
        obtain ⟨_, ht, _⟩ := zf_is _ _ ez
        refine bf' (by show ¬ nI T = -1; rw [zm (by omega)]; exact not_false) (ok_period (hR.lo hl) il ?_)
        rw [if_neg e, nI_l (by omega)]
        have pp := il.perp (by omega)
        obtain ⟨m1, m2⟩ := ma_st h0 hs pp lP
        refine ok_lm h0 s40 pp lP ?_
        rintro x rfl
        rw [nI_1]
        exact ih _ (some T) _ (by omega) (fun t e => by cases e; exact ht) m1 m2 q
theorem mo_ma {N : Nat → Nat → Nat} {h : PH} {Q : Int32 → PH → Prop} (hM : Mw (h 346) N) (hI : Inv N) (q : Q (maN N (N 0 1) 0 none 1) h) : ∃ n : Nat, wp_X8_meetAll_b15 344 Q n 0 1 0 0 h := by
  have i4 := hI.2.1
  refine ⟨N 0 1 + 2, ?_⟩
  suffices H : ∀ d i o st, i + d = N 0 1 → (∀ t, o = some t → t ≤ 1000000) → 0 < st → st ≤ 432 ^ i → Q (maN N d i o st) h → wp_X8_meetAll_b15 344 Q (d + 2) (lN (o.getD 0)) (lN st) (bi o.isSome) (nI i) h from H (N 0 1) 0 none 1 (by omega) (fun t e => nomatch e) (by omega) (by decide) q
  have e346 : al (344 + 2) = 427 := al_346
  have c1 : (1 : Int32).toNatClampNeg = 1 := by decide
  have g1 : h (344 + 2) 1 = nI (N 0 1) := hM.g (by omega)
  have v1 : vp_in 1 427 := by rw [li_1]; exact vp_in_nI (by omega) (by omega)
  have stop : ∀ n i b3, i ≤ N 0 1 → Q (-1) h → wp_X8_meetAll_b15 344 Q (n + 1) (-1) b3 1 (nI i) h := by
    intro n i b3 hi q
    unfold wp_X8_meetAll_b15
    rw [c1, g1]
    refine ⟨by rw [e346]; exact v1, ?_⟩
    have m1 : (-1 : Int64).toInt32 = -1 := by decide
    rcases Nat.lt_or_ge i (N 0 1) with c | c
    · exact bf (nI_ge c (by omega)) (bt (by decide) (bf (by decide) (by rw [m1]; exact q)))
    · exact bt (nI_le c (by omega)) (bf (by decide) (by rw [m1]; exact q))
  intro d
  induction d with
  | zero =>
    intro i o st hi ho h0 hs q
    unfold wp_X8_meetAll_b15
    rw [c1, g1]
    refine ⟨by rw [e346]; exact v1, bt (nI_le (by omega) (by omega)) ?_⟩
    cases o with
    | none => exact bt rfl q
    | some t => exact bf (by show ¬ bi true = 0; decide) (by rw [show (some t).getD 0 = t from rfl, lN_i]; exact q)
  | succ d ih =>
    intro i o st hi ho h0 hs q
    unfold wp_X8_meetAll_b15
    rw [c1, g1]
    have hl : i < N 0 1 := by omega
    have il := hI.il hl
    have h48 := il.1
    have lP := il.per
    have s40 : st < 2 ^ 40 := st_40 hs (by omega)
    have tb : o.getD 0 ≤ 1000000 := by
      cases o with
      | none => exact Nat.zero_le _
      | some t => exact ho t rfl
    unfold maN at q
    refine ⟨by rw [e346]; exact v1, bf (nI_ge hl (by omega)) (bf ?_ (mo_of (u := 0) al_346 (hM.l (by omega)) (by omega) (by omega) ?_))⟩
    · rw [lg_cmp_eq]; exact lN_m1 tb
    by_cases e : N (4 + i) 0 = 0
    · rw [if_pos e] at q
      refine bt (by rw [e]; decide) ?_
      rintro x rfl
      rw [nI_1]
      exact ih _ _ _ (by omega) ho h0 (Nat.le_trans hs (Nat.pow_le_pow_right (by omega) (by omega))) q
    · rw [if_neg e] at q
      have pp := il.perp (by omega)
      refine bf (by rw [li_0]; exact nI_ge (by omega) (by omega)) (mo_firstZero al_346 (hM.l (by omega)) (by omega) il (by omega) tb s40 (mo_period al_346 (hM.l (by omega)) (by omega) il (mo_mul h0 s40 pp lP ?_)))
      rintro x rfl
      rw [nI_1]
      cases ez : zfO (N (4 + i)) st (perN (N (4 + i))) (o.getD 0) with
      | none =>
        rw [ez] at q
        exact stop _ _ _ (by omega) q
      | some T =>
        rw [ez] at q
        obtain ⟨_, ht, _⟩ := zf_is _ _ ez
        obtain ⟨m1, m2⟩ := ma_st h0 hs pp lP
        exact ih _ (some T) _ (by omega) (fun t e => by cases e; exact ht) m1 m2 q
theorem S_meetAll {h : PH} (I : II h) {Q2 : Int32 → Int32 → PH → Prop} (hQ : ∀ r h', II h' → Q2 r r h')  : wp_X7_meetAll 0  h (fun r7 h6 => wp_X8_meetAll 344  h6 (fun r10 h9 => Q2 r7 r10 h9)) := by
  obtain ⟨N, D, A, nx, K, kb, s, t, x⟩ := id I
  obtain ⟨⟨hI, hR, hM⟩, _⟩ := x
  unfold wp_X7_meetAll
  refine ok_ofAll hR.1 hI ?_
  unfold wp_X8_meetAll
  rintro h1 rfl
  exact mo_ma (m344 hM) hI (hQ _ _ (Eqv.II (Eqv.rfu (by decide) (by decide)) I))

