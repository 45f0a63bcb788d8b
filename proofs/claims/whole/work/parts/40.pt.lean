
theorem cnt_ge {f : Nat → Nat} {s : Bool} : ∀ d i n, n ≤ fl (fun c n => if begN f s c then n + 1 else n) d i n
  | 0, _, _ => Nat.le_refl _
  | d + 1, i, n => by
    unfold fl
    have := cnt_ge (f := f) (s := s) d (i + 1) (if begN f s i then n + 1 else n)
    split at this <;> (try simp_all) <;> omega
theorem rf_gen {f : Nat → Nat} {s : Bool} {k : Nat} : ∀ d i n, n ≤ k → (k < fl (fun c n => if begN f s c then n + 1 else n) d i n → ∃ c, i ≤ c ∧ c < i + d ∧ rfN f s k d i n = nI c) ∧ (fl (fun c n => if begN f s c then n + 1 else n) d i n ≤ k → rfN f s k d i n = -1)
  | 0, i, n, h => ⟨fun z => by unfold fl at z; omega, fun _ => rfl⟩
  | d + 1, i, n, h => by
    unfold fl rfN
    cases e : begN f s i with
    | true =>
      simp only [if_true]
      by_cases e2 : n = k
      · rw [if_pos e2]
        refine ⟨fun _ => ⟨i, by omega, by omega, rfl⟩, fun z => ?_⟩
        have := cnt_ge (f := f) (s := s) d (i + 1) (n + 1)
        omega
      · rw [if_neg e2]
        have := rf_gen (f := f) (s := s) (k := k) d (i + 1) (n + 1) (by omega)
        refine ⟨fun z => ?_, this.2⟩
        obtain ⟨c, c1, c2, c3⟩ := this.1 z
        exact ⟨c, by omega, by omega, c3⟩
    | false =>
      simp only [Bool.false_eq_true, if_false]
      have := rf_gen (f := f) (s := s) (k := k) d (i + 1) n h
      refine ⟨fun z => ?_, this.2⟩
      obtain ⟨c, c1, c2, c3⟩ := this.1 z
      exact ⟨c, by omega, by omega, c3⟩
theorem rf_some {f : Nat → Nat} {s : Bool} {k : Nat} (h : k < rowsN f s) : ∃ c, c < f 0 ∧ rfN f s k (f 0) 0 0 = nI c := by
  obtain ⟨c, _, c2, c3⟩ := (rf_gen (f := f) (s := s) (k := k) (f 0) 0 0 (by omega)).1 h
  exact ⟨c, by omega, c3⟩
theorem cnt_le {f : Nat → Nat} {s : Bool} : ∀ d i n, fl (fun c n => if begN f s c then n + 1 else n) d i n ≤ n + d
  | 0, _, _ => Nat.le_refl _
  | d + 1, i, n => by
    unfold fl
    have := cnt_le (f := f) (s := s) d (i + 1) (if begN f s i then n + 1 else n)
    split at this <;> (try simp_all) <;> omega
theorem rows_le {f : Nat → Nat} {s : Bool} : rowsN f s ≤ f 0 := by
  have := cnt_le (f := f) (s := s) (f 0) 0 0
  unfold rowsN
  omega
section
variable {k : Nat} {f : Nat → Nat} {h : PH} {Q : Int32 → PH → Prop}
theorem sr_none {s : Bool} {x : Int32} (hR : Re k f h) (hI : IR f) (hx : ¬ inB x 0 (rowsN f s)) (q : Q (-1) h) : wp_X3_startOfRow k x (bi s) h Q := by
  rcases nI_arb x with hn | ⟨j, hj, rfl⟩
  · exact ok_startOfRow_neg hn hR hI q
  · refine ok_startOfRow hj hR hI ?_
    rw [(rf_gen (f := f) (s := s) (k := j) (f 0) 0 0 (by omega)).2 (Nat.le_of_not_lt (fun z => hx ⟨j, by omega, z, rfl⟩))]
    exact q
theorem sr_some {s : Bool} {j : Nat} (hR : Re k f h) (hI : IR f) (hx : j < rowsN f s) (q : ∀ c, c < f 0 → rfN f s j (f 0) 0 0 = nI c → Q (nI c) h) : wp_X3_startOfRow k (nI j) (bi s) h Q := by
  have := rows_le (f := f) (s := s)
  have := hI.1
  obtain ⟨c, c1, c2⟩ := rf_some hx
  refine ok_startOfRow (by omega) hR hI ?_
  rw [c2]
  exact q c c1 c2
end
theorem mo_sil {r a : Nat} {f : Nat → Nat} {h : PH} {Q : Int32 → PH → Prop} (hM : Mr (h 346) r f) (hr : r < 3) (hI : IR f) (ha : a < f 0) (q : Q (fsI (quN f) (rmany f a + 1) a) h) : ∃ n : Nat, wp_X8_silence_b119 344 (nI r) (nI a) (nI (rmany f a)) Q n (nI a) h := by
  have h60 := hI.1
  have hm := rmany_le ha
  refine ⟨rmany f a + 2, ?_⟩
  suffices H : ∀ d i, a ≤ i → i + d = a + rmany f a + 1 → Q (fsI (quN f) d i) h → wp_X8_silence_b119 344 (nI r) (nI a) (nI (rmany f a)) Q (d + 1) (nI i) h from H (rmany f a + 1) a (by omega) (by omega) q
  intro d
  induction d with
  | zero =>
    intro i hn hi q
    unfold wp_X8_silence_b119
    rw [nI_add]
    exact bt (nI_lt (by omega) (by omega)) q
  | succ d ih =>
    intro i hn hi q
    unfold wp_X8_silence_b119
    rw [nI_add]
    refine bf (nI_nlt (by omega) (by omega)) (mo_isQuiet al_346 hM hr hI (by omega) ?_)
    unfold fsI at q
    cases e : quN f i with
    | true => rw [e] at q; exact bf (by decide) q
    | false =>
      rw [e] at q
      refine bt rfl ?_
      rintro y rfl
      rw [nI_1]
      exact ih (i + 1) (by omega) (by omega) q
theorem mo_pie {r a : Nat} {b3 : Int32} {f : Nat → Nat} {h : PH} {Q : Int32 → PH → Prop} (hM : Mr (h 346) r f) (hr : r < 3) (hI : IR f) (ha : a < f 0) (q : ((¬ b3 = 0) → ((¬ b3 = 1) → Q (nI (fl (fun c g => max g (f (1 + c))) (rmany f a) a 0)) h) ∧ ((b3 = 1) → Q (nI (rmany f a)) h)) ∧ ((b3 = 0) → Q (nI a) h)) : ∃ n : Nat, wp_X8_piece_b105 344 (nI r) b3 (nI a) (nI (rmany f a)) Q n 0 (nI a) h := by
  have h60 := hI.1
  have hm := rmany_le ha
  refine ⟨rmany f a + 1, ?_⟩
  suffices H : ∀ d i g, a ≤ i → g ≤ 9 → i + d = a + rmany f a → (((¬ b3 = 0) → ((¬ b3 = 1) → Q (nI (fl (fun c g => max g (f (1 + c))) d i g)) h) ∧ ((b3 = 1) → Q (nI (rmany f a)) h)) ∧ ((b3 = 0) → Q (nI a) h)) → wp_X8_piece_b105 344 (nI r) b3 (nI a) (nI (rmany f a)) Q (d + 1) (nI g) (nI i) h from H (rmany f a) a 0 (by omega) (by omega) (by omega) q
  intro d
  induction d with
  | zero =>
    intro i g hn hg hi q
    unfold wp_X8_piece_b105
    rw [nI_add]
    exact bt (nI_le (by omega) (by omega)) q
  | succ d ih =>
    intro i g hn hg hi q
    unfold wp_X8_piece_b105
    rw [nI_add]
    have b1 := hI.2 i (by omega)
    refine bf (nI_ge (by omega) (by omega)) (mo_soundAt al_346 hM hr (by omega) ?_)
    unfold fl at q
    by_cases e : f (1 + i) ≤ g
    · refine bt (nI_le e (by omega)) ?_
      rintro y rfl
      rw [nI_1]
      rw [Nat.max_eq_left e] at q
      exact ih (i + 1) g (by omega) hg (by omega) q
    · refine bf (nI_ge (by omega) (by omega)) (mo_soundAt al_346 hM hr (by omega) ?_)
      rintro y rfl
      rw [nI_1]
      rw [Nat.max_eq_right (by omega)] at q
      exact ih (i + 1) _ (by omega) (by omega) (by omega) q

theorem S_silence {h : PH} (I : II h) {Q2 : Int32 → Int32 → PH → Prop} (hQ : HQ Q2) (r k u : Int32) : wp_L_silence 0 r k u 351 h (fun r7 h6 => wp_X8_silence 344 r k u h6 (fun r10 h9 => Q2 r7 r10 h9)) := by
  obtain ⟨N, D, A, nx, K, kb, s, t, x⟩ := id I
  have x' : PreI h N D A nx K kb s t := x
  obtain ⟨⟨hI, hR, hM⟩, ⟨b1, b2, b3⟩, ⟨c1, c2, c3⟩, d1, d2, d3⟩ := x
  have i3 := hI.1
  have i4 := hI.2.1
  have R := hR.1
  unfold wp_L_silence wp_X7_silence
  by_cases hr : inB r 0 (N 0 0)
  · obtain ⟨r, _, hr, rfl⟩ := hr
    have ir := hI.ir hr
    have h60 := ir.1
    have rl := rows_le (f := N (1 + r)) (s := true)
    refine ok_reelAt R hI hr (sm_t ?_)
    by_cases hk : inB k 0 (rowsN (N (1 + r)) true)
    · obtain ⟨k, _, hk, rfl⟩ := hk
      refine sr_some (s := true) (R.re hr) ir hk (fun c hc ec => bf' (by rw [zm (by omega)]; exact not_false) ?_)
      by_cases hu : inB u 0 3
      · obtain ⟨u, _, hu, rfl⟩ := hu
        refine out_in (lo := 0) (hi := 2) (by omega) (by omega) (by omega) (bt rfl (sr_some (s := true) (R.re hr) ir hk (fun c' hc' ec' => ?_)))
        have ecc : nI c' = nI c := by rw [← ec', ec]
        rw [ecc]
        have hmc := rmany_le hc
        have Mo : ∀ {v : Int32}, (∀ g : PH, g = up2 (up2 h 351 0 v) 344 0 0 → Mw (g 346) N → ((2 ≤ nI u) → Q2 0 (fsI (quN (N (1 + r))) (rmany (N (1 + r)) c + 1) c) g) ∧ ((¬ (2 ≤ nI u)) → ((¬ nI u = 0) → Q2 0 (nI (rmany (N (1 + r)) c)) g) ∧ ((nI u = 0) → Q2 0 (nI c) g))) → wp_X8_silence 344 (nI r) (nI k) (nI u) (up2 h 351 0 v) (fun r10 h9 => Q2 0 r10 h9) := by
          intro v q
          unfold wp_X8_silence
          refine mo_isReel al_346 (m351 hM) hI hr (bf (by decide) (mo_rows (s := true) al_346 ((m351 hM).r (by omega)) (by omega) ir (inc_in hk (by omega) (bf (by decide) (in_in (lo := 0) (hi := 2) (by omega) (by omega) (by omega) (bf (by decide) (refu_0 (bt rfl ?_))))))))
          refine mo_rowFirst (s := true) (by omega) al_346 ((m344 (m351 hM)).r (by omega)) (by omega) ir ?_
          rw [ec]
          refine mo_rowMany al_346 ((m344 (m351 hM)).r (by omega)) (by omega) ir hc ?_
          exact ⟨fun z => mo_sil ((m344 (m351 hM)).r (by omega)) (by omega) ir hc ((q _ rfl (m344 (m351 hM))).1 z), fun z => (q _ rfl (m344 (m351 hM))).2 z⟩
        have : u = 0 ∨ u = 1 ∨ u = 2 := by omega
        rcases this with rfl | rfl | rfl
        · refine ⟨fun _ => ?_, fun z => absurd z (by decide), fun z _ => absurd rfl z⟩
          refine wr (Mo (fun g eg mg => ?_))
          subst eg; exact bf (by decide) (bt' rfl (hQ.q I))
        · refine ⟨fun z => absurd z (by decide), fun _ => ?_, fun _ z => absurd rfl z⟩
          refine ok_rowLength (R.re hr) ir hc (wr (Mo (fun g eg mg => ?_)))
          subst eg; exact bf (by decide) (bf' (by decide) (hQ.q I))
        · refine ⟨fun z => absurd z (by decide), fun z => absurd z (by decide), fun _ _ => ?_⟩
          refine ok_firstQuiet (R.re hr) ir hc (wr (Mo (fun g eg mg => ?_)))
          subst eg; exact bt (by decide) (hQ.q I)
      · refine out_out (lo := 0) (hi := 2) hu (by omega) (by omega) (bf (by decide) ?_)
        refine ⟨fun z => absurd z (by simp), fun _ => ?_, fun _ z => absurd rfl z⟩
        unfold wp_X8_silence
        exact mo_isReel al_346 hM hI hr (bf (by decide) (mo_rows (s := true) al_346 (hM.r (by omega)) (by omega) ir (inc_in hk (by omega) (bf (by decide) (in_out (lo := 0) (hi := 2) hu (by omega) (by omega) (bt rfl (refu_2 (bf (by decide) (hQ.no I (by decide))))))))))
    · refine sr_none (s := true) (R.re hr) ir hk (bt' rfl ?_)
      refine ⟨fun _ => ?_, fun z => absurd z (by simp), fun z _ => absurd rfl z⟩
      unfold wp_X8_silence
      exact mo_isReel al_346 hM hI hr (bf (by decide) (mo_rows (s := true) al_346 (hM.r (by omega)) (by omega) ir (inc_out hk (by omega) (bt rfl (refu_1 (bf (by decide) (hQ.no I (by decide))))))))
  · refine ok_reelAtN R hI hr (sm_n ?_)
    refine ⟨fun _ => ?_, fun z => absurd z (by simp), fun z _ => absurd rfl z⟩
    unfold wp_X8_silence
    exact mo_isReelN al_346 hM hI hr (bt rfl (refu_1 (bf (by decide) (hQ.no I (by decide)))))

theorem S_piece {h : PH} (I : II h) {Q2 : Int32 → Int32 → PH → Prop} (hQ : HQ Q2) (r k u : Int32) : wp_L_piece 0 r k u 351 h (fun r7 h6 => wp_X8_piece 344 r k u h6 (fun r10 h9 => Q2 r7 r10 h9)) := by
  obtain ⟨N, D, A, nx, K, kb, s, t, x⟩ := id I
  have x' : PreI h N D A nx K kb s t := x
  obtain ⟨⟨hI, hR, hM⟩, ⟨b1, b2, b3⟩, ⟨c1, c2, c3⟩, d1, d2, d3⟩ := x
  have i3 := hI.1
  have i4 := hI.2.1
  have R := hR.1
  unfold wp_L_piece wp_X7_piece
  by_cases hr : inB r 0 (N 0 0)
  · obtain ⟨r, _, hr, rfl⟩ := hr
    have ir := hI.ir hr
    have h60 := ir.1
    have rl := rows_le (f := N (1 + r)) (s := false)
    refine ok_reelAt R hI hr (sm_t ?_)
    by_cases hk : inB k 0 (rowsN (N (1 + r)) false)
    · obtain ⟨k, _, hk, rfl⟩ := hk
      refine sr_some (s := false) (R.re hr) ir hk (fun c hc ec => bf' (by rw [zm (by omega)]; exact not_false) ?_)
      by_cases hu : inB u 0 3
      · obtain ⟨u, _, hu, rfl⟩ := hu
        refine out_in (lo := 0) (hi := 2) (by omega) (by omega) (by omega) (bt rfl (sr_some (s := false) (R.re hr) ir hk (fun c' hc' ec' => ?_)))
        have ecc : nI c' = nI c := by rw [← ec', ec]
        rw [ecc]
        have hmc := rmany_le hc
        have Mo : ∀ {v : Int32}, (∀ g : PH, g = up2 (up2 h 351 0 v) 344 0 0 → Mw (g 346) N → ((¬ nI u = 0) → ((¬ nI u = 1) → Q2 0 (nI (fl (fun c g => max g (N (1 + r) (1 + c))) (rmany (N (1 + r)) c) c 0)) g) ∧ ((nI u = 1) → Q2 0 (nI (rmany (N (1 + r)) c)) g)) ∧ ((nI u = 0) → Q2 0 (nI c) g)) → wp_X8_piece 344 (nI r) (nI k) (nI u) (up2 h 351 0 v) (fun r10 h9 => Q2 0 r10 h9) := by
          intro v q
          unfold wp_X8_piece
          refine mo_isReel al_346 (m351 hM) hI hr (bf (by decide) (mo_rows (s := false) al_346 ((m351 hM).r (by omega)) (by omega) ir (inc_in hk (by omega) (bf (by decide) (in_in (lo := 0) (hi := 2) (by omega) (by omega) (by omega) (bf (by decide) (refu_0 (bt rfl ?_))))))))
          refine mo_rowFirst (s := false) (by omega) al_346 ((m344 (m351 hM)).r (by omega)) (by omega) ir ?_
          rw [ec]
          refine mo_rowMany al_346 ((m344 (m351 hM)).r (by omega)) (by omega) ir hc ?_
          exact mo_pie ((m344 (m351 hM)).r (by omega)) (by omega) ir hc (q _ rfl (m344 (m351 hM)))
        have : u = 0 ∨ u = 1 ∨ u = 2 := by omega
        rcases this with rfl | rfl | rfl
        · refine ⟨fun _ => ?_, fun z => absurd z (by decide), fun z _ => absurd rfl z⟩
          refine wr (Mo (fun g eg mg => ?_))
          subst eg; exact bt' rfl (hQ.q I)
        · refine ⟨fun z => absurd z (by decide), fun _ => ?_, fun _ z => absurd rfl z⟩
          refine ok_rowLength (R.re hr) ir hc (wr (Mo (fun g eg mg => ?_)))
          subst eg; exact bf' (by decide) (bt' rfl (hQ.q I))
        · refine ⟨fun z => absurd z (by decide), fun z => absurd z (by decide), fun _ _ => ?_⟩
          refine ok_greatestSound (R.re hr) ir hc (wr (Mo (fun g eg mg => ?_)))
          subst eg; exact bf' (by decide) (bf' (by decide) (hQ.q I))
      · refine out_out (lo := 0) (hi := 2) hu (by omega) (by omega) (bf (by decide) ?_)
        refine ⟨fun z => absurd z (by simp), fun _ => ?_, fun _ z => absurd rfl z⟩
        unfold wp_X8_piece
        exact mo_isReel al_346 hM hI hr (bf (by decide) (mo_rows (s := false) al_346 (hM.r (by omega)) (by omega) ir (inc_in hk (by omega) (bf (by decide) (in_out (lo := 0) (hi := 2) hu (by omega) (by omega) (bt rfl (refu_2 (bf (by decide) (hQ.no I (by decide))))))))))
    · refine sr_none (s := false) (R.re hr) ir hk (bt' rfl ?_)
      refine ⟨fun _ => ?_, fun z => absurd z (by simp), fun z _ => absurd rfl z⟩
      unfold wp_X8_piece
      exact mo_isReel al_346 hM hI hr (bf (by decide) (mo_rows (s := false) al_346 (hM.r (by omega)) (by omega) ir (inc_out hk (by omega) (bt rfl (refu_1 (bf (by decide) (hQ.no I (by decide))))))))
  · refine ok_reelAtN R hI hr (sm_n ?_)
    refine ⟨fun _ => ?_, fun z => absurd z (by simp), fun z _ => absurd rfl z⟩
    unfold wp_X8_piece
    exact mo_isReelN al_346 hM hI hr (bt rfl (refu_1 (bf (by decide) (hQ.no I (by decide)))))

theorem S_loopOf {h : PH} (I : II h) {Q2 : Int32 → Int32 → PH → Prop} (hQ : HQ Q2) (l u : Int32) : wp_L_loopOf 0 l u 351 h (fun r7 h6 => wp_X8_loopOf 344 l u h6 (fun r10 h9 => Q2 r7 r10 h9)) := by
  obtain ⟨N, D, A, nx, K, kb, s, t, x⟩ := id I
  have x' : PreI h N D A nx K kb s t := x
  obtain ⟨⟨hI, hR, hM⟩, ⟨b1, b2, b3⟩, ⟨c1, c2, c3⟩, d1, d2, d3⟩ := x
  have i3 := hI.1
  have i4 := hI.2.1
  have R := hR.1
  unfold wp_L_loopOf wp_X7_loopOf
  by_cases hl : inB l 0 (N 0 1)
  · obtain ⟨l, _, hl, rfl⟩ := hl
    have il := hI.il hl
    have i48 := il.1
    have i2 := il.2.2.1
    have iph := il.ph
    have i4m := il.2.2.2.1
    have lo := R.lo hl
    refine ok_loopAt R hI hl (sm_t ?_)
    by_cases hu : inB u 0 9
    · obtain ⟨u, _, hu, rfl⟩ := hu
      refine out_in (lo := 0) (hi := 8) (by omega) (by omega) (by omega) (bt rfl ?_)
      have hd : 0 < N (4 + l) 0 → N (4 + l) 3 / N (4 + l) 2 < N (4 + l) 0 := fun z => il.head (il.2.2.2.2.2.2.1 z)
      have Mo : ∀ {v : Int32}, (∀ g : PH, g = up2 (up2 h 351 0 v) 344 0 0 → Ml (g 346) l (N (4 + l)) → ((0 < N (4 + l) 0 → ((nI u = 4) → Q2 0 (nI (N (4 + l) 3 / N (4 + l) 2)) g) ∧ ((nI u = 5) → Q2 0 (nI (N (4 + l) (12 + N (4 + l) 3 / N (4 + l) 2))) g) ∧ ((nI u = 6) → Q2 0 (nI (N (4 + l) 4)) g) ∧ ((nI u = 7) → Q2 0 (nI (perN (N (4 + l)))) g) ∧ ((nI u = 8) → Q2 0 (nI (N (4 + l) 5)) g) ∧ (¬ nI u = 4 → ¬ nI u = 5 → ¬ nI u = 6 → ¬ nI u = 7 → ¬ nI u = 8 → Q2 0 (nI (N (4 + l) u)) g)) ∧ (N (4 + l) 0 = 0 → ((nI u = 4) → Q2 0 (-1) g) ∧ ((nI u = 5) → Q2 0 0 g) ∧ ((nI u = 6) → Q2 0 (nI (N (4 + l) 4)) g) ∧ ((nI u = 7) → Q2 0 (-1) g) ∧ ((nI u = 8) → Q2 0 (nI (N (4 + l) 5)) g) ∧ (¬ nI u = 4 → ¬ nI u = 5 → ¬ nI u = 6 → ¬ nI u = 7 → ¬ nI u = 8 → Q2 0 (nI (N (4 + l) u)) g)))) → wp_X8_loopOf 344 (nI l) (nI u) (up2 h 351 0 v) (fun r10 h9 => Q2 0 r10 h9) := by
        intro v q
        have ml : Ml (up2 (up2 h 351 0 v) 344 0 0 346) l (N (4 + l)) := (m344 (m351 hM)).l (by omega)
        have qq := q _ rfl ml
        unfold wp_X8_loopOf
        refine mo_isLoop al_346 (m351 hM) hI hl (bf' (by decide) (in_in (lo := 0) (hi := 8) (by omega) (by omega) (by omega) (bf (by decide) (refu_0 (bt rfl (mo_of (u := 0) al_346 ml (by omega) (by omega) ?_))))))
        rw [z0 (by omega)]
        by_cases e : N (4 + l) 0 = 0
        · refine bt' e (mo_of (u := 3) al_346 ml (by omega) (by omega) (mo_of (u := 2) al_346 ml (by omega) (by omega) ⟨by rw [z0 (by omega)]; omega, ?_⟩))
          rintro x rfl
          obtain ⟨q1, q2, q3, q4, q5, q6⟩ := qq.2 e
          exact ⟨q1, q2, fun z => mo_of (u := 4) al_346 ml (by omega) (by omega) (q3 z), q4, fun z => mo_of (u := 5) al_346 ml (by omega) (by omega) (q5 z), fun z1 z2 z3 z4 z5 => mo_of al_346 ml (by omega) (by omega) (q6 z1 z2 z3 z4 z5)⟩
        · refine bf' e (mo_of (u := 3) al_346 ml (by omega) (by omega) (mo_of (u := 2) al_346 ml (by omega) (by omega) ⟨by rw [z0 (by omega)]; omega, ?_⟩))
          rintro x rfl
          have hd' := hd (by omega)
          rw [pk_div (by omega) (by omega) (by omega), li_12, nI_add]
          obtain ⟨q1, q2, q3, q4, q5, q6⟩ := qq.1 (by omega)
          exact ⟨q1, fun z => mo_of al_346 ml (by omega) (by omega) (q2 z), fun z => mo_of (u := 4) al_346 ml (by omega) (by omega) (q3 z), fun z => mo_period al_346 ml (by omega) il (q4 z), fun z => mo_of (u := 5) al_346 ml (by omega) (by omega) (q5 z), fun z1 z2 z3 z4 z5 => mo_of al_346 ml (by omega) (by omega) (q6 z1 z2 z3 z4 z5)⟩
      have : u = 0 ∨ u = 1 ∨ u = 2 ∨ u = 3 ∨ u = 4 ∨ u = 5 ∨ u = 6 ∨ u = 7 ∨ u = 8 := by omega
      rcases this with rfl | rfl | rfl | rfl | rfl | rfl | rfl | rfl | rfl
      · refine ⟨fun _ => ?_, fun z => absurd z (by decide), fun z => absurd z (by decide), fun z => absurd z (by decide), fun z => absurd z (by decide), fun z => absurd z (by decide), fun z => absurd z (by decide), fun z => absurd z (by decide), fun z _ _ _ _ _ _ _ => absurd rfl z⟩
        rw [show h (0 + 1 + 8 + 1 + 3 * l) 2 = nI (N (4 + l) 0) from lo.2.2.1]
        refine wr (Mo (fun g eg ml => ?_))
        subst eg
        constructor
        · intro _
          refine ⟨fun z => absurd z (by decide), fun z => absurd z (by decide), fun z => absurd z (by decide), fun z => absurd z (by decide), fun z => absurd z (by decide), fun _ _ _ _ _ => ?_⟩
          exact hQ.q I
        · intro _
          refine ⟨fun z => absurd z (by decide), fun z => absurd z (by decide), fun z => absurd z (by decide), fun z => absurd z (by decide), fun z => absurd z (by decide), fun _ _ _ _ _ => ?_⟩
          exact hQ.q I
      · refine ⟨fun z => absurd z (by decide), fun _ => ?_, fun z => absurd z (by decide), fun z => absurd z (by decide), fun z => absurd z (by decide), fun z => absurd z (by decide), fun z => absurd z (by decide), fun z => absurd z (by decide), fun _ z _ _ _ _ _ _ => absurd rfl z⟩
        rw [show h (0 + 1 + 8 + 1 + 3 * l) 4 = nI (N (4 + l) 1) from lo.2.2.2.2.1]
        refine wr (Mo (fun g eg ml => ?_))
        subst eg
        constructor
        · intro _
          refine ⟨fun z => absurd z (by decide), fun z => absurd z (by decide), fun z => absurd z (by decide), fun z => absurd z (by decide), fun z => absurd z (by decide), fun _ _ _ _ _ => ?_⟩
          exact hQ.q I
        · intro _
          refine ⟨fun z => absurd z (by decide), fun z => absurd z (by decide), fun z => absurd z (by decide), fun z => absurd z (by decide), fun z => absurd z (by decide), fun _ _ _ _ _ => ?_⟩
          exact hQ.q I
      · refine ⟨fun z => absurd z (by decide), fun z => absurd z (by decide), fun _ => ?_, fun z => absurd z (by decide), fun z => absurd z (by decide), fun z => absurd z (by decide), fun z => absurd z (by decide), fun z => absurd z (by decide), fun _ _ z _ _ _ _ _ => absurd rfl z⟩
        rw [show h (0 + 1 + 8 + 1 + 3 * l) 5 = nI (N (4 + l) 2) from lo.2.2.2.2.2.1]
        refine wr (Mo (fun g eg ml => ?_))
        subst eg
        constructor
        · intro _
          refine ⟨fun z => absurd z (by decide), fun z => absurd z (by decide), fun z => absurd z (by decide), fun z => absurd z (by decide), fun z => absurd z (by decide), fun _ _ _ _ _ => ?_⟩
          exact hQ.q I
        · intro _
          refine ⟨fun z => absurd z (by decide), fun z => absurd z (by decide), fun z => absurd z (by decide), fun z => absurd z (by decide), fun z => absurd z (by decide), fun _ _ _ _ _ => ?_⟩
          exact hQ.q I
      · refine ⟨fun z => absurd z (by decide), fun z => absurd z (by decide), fun z => absurd z (by decide), fun _ => ?_, fun z => absurd z (by decide), fun z => absurd z (by decide), fun z => absurd z (by decide), fun z => absurd z (by decide), fun _ _ _ z _ _ _ _ => absurd rfl z⟩
        rw [show h (0 + 1 + 8 + 1 + 3 * l) 6 = nI (N (4 + l) 3) from lo.2.2.2.2.2.2.1]
        refine wr (Mo (fun g eg ml => ?_))
        subst eg
        constructor
        · intro _
          refine ⟨fun z => absurd z (by decide), fun z => absurd z (by decide), fun z => absurd z (by decide), fun z => absurd z (by decide), fun z => absurd z (by decide), fun _ _ _ _ _ => ?_⟩
          exact hQ.q I
        · intro _
          refine ⟨fun z => absurd z (by decide), fun z => absurd z (by decide), fun z => absurd z (by decide), fun z => absurd z (by decide), fun z => absurd z (by decide), fun _ _ _ _ _ => ?_⟩
          exact hQ.q I
      · refine ⟨fun z => absurd z (by decide), fun z => absurd z (by decide), fun z => absurd z (by decide), fun z => absurd z (by decide), fun _ => ?_, fun z => absurd z (by decide), fun z => absurd z (by decide), fun z => absurd z (by decide), fun _ _ _ _ z _ _ _ => absurd rfl z⟩
        rw [show h (0 + 1 + 8 + 1 + 3 * l) 6 = nI (N (4 + l) 3) from lo.2.2.2.2.2.2.1]
        refine ok_headIn lo il iph (wr (Mo (fun g eg ml => ?_)))
        subst eg
        constructor
        · intro z
          refine ⟨fun _ => ?_, fun z => absurd z (by decide), fun z => absurd z (by decide), fun z => absurd z (by decide), fun z => absurd z (by decide), fun z _ _ _ _ => absurd rfl z⟩
          rw [if_neg (by omega)]
          exact hQ.q I
        · intro z
          refine ⟨fun _ => ?_, fun z => absurd z (by decide), fun z => absurd z (by decide), fun z => absurd z (by decide), fun z => absurd z (by decide), fun z _ _ _ _ => absurd rfl z⟩
          rw [if_pos z]
          exact hQ.q I
      · refine ⟨fun z => absurd z (by decide), fun z => absurd z (by decide), fun z => absurd z (by decide), fun z => absurd z (by decide), fun z => absurd z (by decide), fun _ => ?_, fun z => absurd z (by decide), fun z => absurd z (by decide), fun _ _ _ _ _ z _ _ => absurd rfl z⟩
        rw [show h (0 + 1 + 8 + 1 + 3 * l) 6 = nI (N (4 + l) 3) from lo.2.2.2.2.2.2.1]
        refine ok_headIn lo il iph ?_
        by_cases e : N (4 + l) 0 = 0
        · rw [if_pos e]
          refine get_m1 (wr (Mo (fun g eg ml => ?_)))
          subst eg
          constructor
          · intro z; omega
          · intro z
            refine ⟨fun z => absurd z (by decide), fun _ => ?_, fun z => absurd z (by decide), fun z => absurd z (by decide), fun z => absurd z (by decide), fun _ z _ _ _ => absurd rfl z⟩
            exact hQ.q I
        · rw [if_neg e]
          refine Lo_get lo il (hd (by omega)) (wr (Mo (fun g eg ml => ?_)))
          subst eg
          constructor
          · intro z
            refine ⟨fun z => absurd z (by decide), fun _ => ?_, fun z => absurd z (by decide), fun z => absurd z (by decide), fun z => absurd z (by decide), fun _ z _ _ _ => absurd rfl z⟩
            exact hQ.q I
          · intro z; exact absurd z e
      · refine ⟨fun z => absurd z (by decide), fun z => absurd z (by decide), fun z => absurd z (by decide), fun z => absurd z (by decide), fun z => absurd z (by decide), fun z => absurd z (by decide), fun _ => ?_, fun z => absurd z (by decide), fun _ _ _ _ _ _ z _ => absurd rfl z⟩
        rw [show h (0 + 1 + 8 + 1 + 3 * l) 7 = nI (N (4 + l) 4) from lo.2.2.2.2.2.2.2.1, z0 (by omega)]
        have T : ∀ v : Int32, v = nI (N (4 + l) 4) → (vp_in 0 (al 351)) ∧ (∀ h5 : PH, h5 = up2 h 351 (0 : Int32).toNatClampNeg v → wp_X8_loopOf 344 (nI l) (nI 6) h5 (fun r10 h9 => Q2 0 r10 h9)) := by
          rintro v rfl
          refine wr (Mo (fun g eg ml => ?_))
          subst eg
          constructor
          · intro z
            refine ⟨fun z => absurd z (by decide), fun z => absurd z (by decide), fun _ => ?_, fun z => absurd z (by decide), fun z => absurd z (by decide), fun _ _ z _ _ => absurd rfl z⟩
            exact hQ.q I
          · intro z
            refine ⟨fun z => absurd z (by decide), fun z => absurd z (by decide), fun _ => ?_, fun z => absurd z (by decide), fun z => absurd z (by decide), fun _ _ z _ _ => absurd rfl z⟩
            exact hQ.q I
        by_cases e : N (4 + l) 4 = 0
        · exact bt e (T 0 (by rw [e]; rfl))
        · exact bf e (T 1 (by rw [show N (4 + l) 4 = 1 by omega]; rfl))
      · refine ⟨fun z => absurd z (by decide), fun z => absurd z (by decide), fun z => absurd z (by decide), fun z => absurd z (by decide), fun z => absurd z (by decide), fun z => absurd z (by decide), fun z => absurd z (by decide), fun _ => ?_, fun _ _ _ _ _ _ _ z => absurd rfl z⟩
        refine ok_period lo il (wr (Mo (fun g eg ml => ?_)))
        subst eg
        constructor
        · intro z
          refine ⟨fun z => absurd z (by decide), fun z => absurd z (by decide), fun z => absurd z (by decide), fun _ => ?_, fun z => absurd z (by decide), fun _ _ _ z _ => absurd rfl z⟩
          rw [if_neg (by omega)]
          exact hQ.q I
        · intro z
          refine ⟨fun z => absurd z (by decide), fun z => absurd z (by decide), fun z => absurd z (by decide), fun _ => ?_, fun z => absurd z (by decide), fun _ _ _ z _ => absurd rfl z⟩
          rw [if_pos z]
          exact hQ.q I
      · refine ⟨fun z => absurd z (by decide), fun z => absurd z (by decide), fun z => absurd z (by decide), fun z => absurd z (by decide), fun z => absurd z (by decide), fun z => absurd z (by decide), fun z => absurd z (by decide), fun z => absurd z (by decide), fun _ _ _ _ _ _ _ _ => ?_⟩
        rw [show h (0 + 1 + 8 + 1 + 3 * l) 3 = nI (N (4 + l) 5) from lo.2.2.2.1]
        refine wr (Mo (fun g eg ml => ?_))
        subst eg
        constructor
        · intro z
          refine ⟨fun z => absurd z (by decide), fun z => absurd z (by decide), fun z => absurd z (by decide), fun z => absurd z (by decide), fun _ => ?_, fun _ _ _ _ z => absurd rfl z⟩
          exact hQ.q I
        · intro z
          refine ⟨fun z => absurd z (by decide), fun z => absurd z (by decide), fun z => absurd z (by decide), fun z => absurd z (by decide), fun _ => ?_, fun _ _ _ _ z => absurd rfl z⟩
          exact hQ.q I
    · refine out_out (lo := 0) (hi := 8) hu (by omega) (by omega) (bf (by decide) ?_)
      refine ⟨fun z => absurd z (by simp), fun _ => ?_, fun _ z => absurd rfl z⟩
      unfold wp_X8_loopOf
      exact mo_isLoop al_346 hM hI hl (bf' (by decide) (in_out (lo := 0) (hi := 8) hu (by omega) (by omega) (bt rfl (refu_2 (bf (by decide) (hQ.no I (by decide)))))))
  · refine ok_loopAtN R hI hl (sm_n ?_)
    refine ⟨fun _ => ?_, fun z => absurd z (by simp), fun z _ => absurd rfl z⟩
    unfold wp_X8_loopOf
    exact mo_isLoopN al_346 hM hI hl (bt' rfl (refu_1 (bf (by decide) (hQ.no I (by decide)))))


def ldF (N : Nat → Nat → Nat) : Nat → Nat × Nat → Nat × Nat := fun t p => if p.1 < sndN N t then (sndN N t, t) else p
theorem ok_ld {b2 : Int32} {n : Nat} {N : Nat → Nat → Nat} {h : PH} {Q : Int32 → PH → Prop} {X : String → PH → Prop} (hI : Inv N) (hR : Rl 1 N h) (hn : n ≤ 2000) (q : ((¬ b2 = 0) → Q (nI (fl (ldF N) n 1 (sndN N 0, 0)).2) h) ∧ ((b2 = 0) → Q (nI (fl (ldF N) n 1 (sndN N 0, 0)).1) h)) : ∃ m : Nat, wp_X7_loudest_b46 0 (nI n) b2 Q X m (nI (sndN N 0)) 0 1 h := by
  refine ⟨n + 1, ?_⟩
  suffices H : ∀ d i p, p.1 ≤ 36 → i + d = n + 1 → (((¬ b2 = 0) → Q (nI (fl (ldF N) d i p).2) h) ∧ ((b2 = 0) → Q (nI (fl (ldF N) d i p).1) h)) → wp_X7_loudest_b46 0 (nI n) b2 Q X (d + 1) (nI p.1) (nI p.2) (nI i) h from H n 1 (sndN N 0, 0) (snd_le hI) (by omega) q
  intro d
  induction d with
  | zero =>
    intro i p hp hi q
    unfold wp_X7_loudest_b46
    exact bt (nI_lt (by omega) (by omega)) q
  | succ d ih =>
    intro i p hp hi q
    unfold wp_X7_loudest_b46
    have b := snd_le (n := i) hI
    refine bf (nI_nlt (by omega) (by omega)) (ok_soundBehind hR hI (by omega) ?_)
    unfold fl ldF at q
    by_cases e : p.1 < sndN N i
    · rw [if_pos e] at q
      refine bf (nI_ge e (by omega)) ?_
      rintro x rfl
      rw [nI_1]
      exact ih (i + 1) (sndN N i, i) b (by omega) q
    · rw [if_neg e] at q
      refine bt (nI_le (by omega) (by omega)) ?_
      rintro x rfl
      rw [nI_1]
      exact ih (i + 1) p hp (by omega) q
theorem mo_ld {b2 : Int32} {n : Nat} {N : Nat → Nat → Nat} {h : PH} {Q : Int32 → PH → Prop} (hI : Inv N) (hM : Mw (h 346) N) (hn : n ≤ 2000) (q : ((¬ b2 = 0) → Q (nI (fl (ldF N) n 1 (sndN N 0, 0)).2) h) ∧ ((b2 = 0) → Q (nI (fl (ldF N) n 1 (sndN N 0, 0)).1) h)) : ∃ m : Nat, wp_X8_loudest_b51 344 (nI n) b2 Q m (nI (sndN N 0)) 0 1 h := by
  refine ⟨n + 1, ?_⟩
  suffices H : ∀ d i p, p.1 ≤ 36 → i + d = n + 1 → (((¬ b2 = 0) → Q (nI (fl (ldF N) d i p).2) h) ∧ ((b2 = 0) → Q (nI (fl (ldF N) d i p).1) h)) → wp_X8_loudest_b51 344 (nI n) b2 Q (d + 1) (nI p.1) (nI p.2) (nI i) h from H n 1 (sndN N 0, 0) (snd_le hI) (by omega) q
  intro d
  induction d with
  | zero =>
    intro i p hp hi q
    unfold wp_X8_loudest_b51
    exact bt (nI_lt (by omega) (by omega)) q
  | succ d ih =>
    intro i p hp hi q
    unfold wp_X8_loudest_b51
    have b := snd_le (n := i) hI
    refine bf (nI_nlt (by omega) (by omega)) ?_
    rw [nI_l (by omega : i < 2 ^ 31)]
    refine mo_soundLater al_346 hM hI (by omega) ?_
    unfold fl ldF at q
    by_cases e : p.1 < sndN N i
    · rw [if_pos e] at q
      refine bf (nI_ge e (by omega)) (bf (nI_ge e (by omega)) ?_)
      rintro x rfl
      rw [nI_1]
      exact ih (i + 1) (sndN N i, i) b (by omega) q
    · rw [if_neg e] at q
      refine bt (nI_le (by omega) (by omega)) (bt (nI_le (by omega) (by omega)) ?_)
      rintro x rfl
      rw [nI_1]
      exact ih (i + 1) p hp (by omega) q

theorem S_loudest {h : PH} (I : II h) {Q2 : Int32 → Int32 → PH → Prop} (hQ : HQ Q2) (n u : Int32) : wp_L_loudest 0 n u 351 h (fun r7 h6 => wp_X8_loudest 344 n u h6 (fun r10 h9 => Q2 r7 r10 h9)) := by
  obtain ⟨N, D, A, nx, K, kb, s, t, x⟩ := id I
  have x' : PreI h N D A nx K kb s t := x
  obtain ⟨⟨hI, hR, hM⟩, ⟨b1, b2, b3⟩, ⟨c1, c2, c3⟩, d1, d2, d3⟩ := x
  have i3 := hI.1
  have i4 := hI.2.1
  have R := hR.1
  unfold wp_L_loudest wp_X7_loudest
  by_cases hn : inB n 1 2001
  · obtain ⟨n, hn1, hn, rfl⟩ := hn
    refine out_in (lo := 1) (hi := 2000) hn1 (by omega) (by omega) (bt' rfl ?_)
    by_cases hu : inB u 0 2
    · obtain ⟨u, _, hu, rfl⟩ := hu
      refine out_in (lo := 0) (hi := 1) (by omega) (by omega) (by omega) (bt rfl (ok_soundBehind (n := 0) R hI (by omega) (ok_ld hI R (by omega) ?_)))
      have Mo : ∀ {v : Int32}, (((¬ nI u = 0) → Q2 0 (nI (fl (ldF N) n 1 (sndN N 0, 0)).2) (up2 (up2 h 351 0 v) 344 0 0)) ∧ ((nI u = 0) → Q2 0 (nI (fl (ldF N) n 1 (sndN N 0, 0)).1) (up2 (up2 h 351 0 v) 344 0 0))) → wp_X8_loudest 344 (nI n) (nI u) (up2 h 351 0 v) (fun r10 h9 => Q2 0 r10 h9) := by
        intro v q
        unfold wp_X8_loudest
        exact in_in (lo := 1) (hi := 2000) hn1 (by omega) (by omega) (bf (by decide) (in_in (lo := 0) (hi := 1) (by omega) (by omega) (by omega) (bf (by decide) (refu_0 (bt rfl (mo_soundLater (n := 0) al_346 (m344 (m351 hM)) hI (by omega) (mo_ld hI (m344 (m351 hM)) (by omega) q)))))))
      have : u = 0 ∨ u = 1 := by omega
      rcases this with rfl | rfl
      · exact bt' rfl (wr (Mo (bt' rfl (hQ.q I))))
      · exact bf' (by decide) (wr (Mo (bf' (by decide) (hQ.q I))))
    · refine out_out (lo := 0) (hi := 1) hu (by omega) (by omega) (bf (by decide) ?_)
      refine ⟨fun _ => ?_, fun z => absurd rfl z⟩
      unfold wp_X8_loudest
      exact in_in (lo := 1) (hi := 2000) hn1 (by omega) (by omega) (bf (by decide) (in_out (lo := 0) (hi := 1) hu (by omega) (by omega) (bt rfl (refu_1 (bf (by decide) (hQ.no I (by decide)))))))
  · refine out_out (lo := 1) (hi := 2000) hn (by omega) (by omega) (bf' (by decide) ?_)
    refine ⟨fun _ => ?_, fun z => absurd rfl z⟩
    unfold wp_X8_loudest
    exact in_out (lo := 1) (hi := 2000) hn (by omega) (by omega) (bt rfl (refu_1 (bf (by decide) (hQ.no I (by decide)))))


theorem ok_tb {k k' : Nat} {f g : Nat → Nat} {h : PH} {Q : Int32 → PH → Prop} {X : String → PH → Prop} (hR : Lo k f h) (hI : IL f) (hR' : Lo k' g h) (hI' : IL g) (e : f 0 = g 0) (q : Q (fsI (fun j => allN (tuP f g j) (f 0) 0) (f 0) 0) h) : ∃ n : Nat, wp_X7_turnedBy_b55 k k' Q X n 0 h := by
  have h48 := hI.1
  refine ⟨f 0 + 1, ?_⟩
  suffices H : ∀ d i, i + d = f 0 → Q (fsI (fun j => allN (tuP f g j) (f 0) 0) d i) h → wp_X7_turnedBy_b55 k k' Q X (d + 1) (nI i) h from H (f 0) 0 (by omega) q
  intro d
  induction d with
  | zero =>
    intro i hi q
    unfold wp_X7_turnedBy_b55
    rw [hR'.2.2.1, ← e]
    exact bt (nI_le (by omega) (by omega)) q
  | succ d ih =>
    intro i hi q
    unfold wp_X7_turnedBy_b55
    rw [hR'.2.2.1, ← e]
    refine bf (nI_ge (by omega) (by omega)) (ok_isTurned hR hI hR' hI' e (by omega) ?_)
    unfold fsI at q
    cases e2 : allN (tuP f g i) (f 0) 0 with
    | true => rw [e2] at q; exact bf (by decide) q
    | false =>
      rw [e2] at q
      refine bt rfl ?_
      rintro x rfl
      rw [nI_1]
      exact ih (i + 1) (by omega) q
theorem mo_tb {l l' : Nat} {f g : Nat → Nat} {h : PH} {Q : Int32 → PH → Prop} (hM : Ml (h 346) l f) (hl : l < 4) (hI : IL f) (hM' : Ml (h 346) l' g) (hl' : l' < 4) (hI' : IL g) (q : Q (if f 0 = g 0 then fsI (fun j => allN (tuP f g j) (f 0) 0) (f 0) 0 else -1) h) : ∃ n : Nat, wp_X8_turnedBy_b49 344 (nI l) (nI l') (nI (f 0)) Q n 0 h := by
  have h48 := hI.1
  have h48' := hI'.1
  by_cases e : f 0 = g 0
  · rw [if_pos e] at q
    refine ⟨f 0 + 1, ?_⟩
    suffices H : ∀ d i, i + d = f 0 → Q (fsI (fun j => allN (tuP f g j) (f 0) 0) d i) h → wp_X8_turnedBy_b49 344 (nI l) (nI l') (nI (f 0)) Q (d + 1) (nI i) h from H (f 0) 0 (by omega) q
    intro d
    induction d with
    | zero =>
      intro i hi q
      unfold wp_X8_turnedBy_b49
      exact bt (nI_le (by omega) (by omega)) q
    | succ d ih =>
      intro i hi q
      unfold wp_X8_turnedBy_b49
      refine bf (nI_ge (by omega) (by omega)) (mo_of (u := 0) al_346 hM' hl' (by omega) (bt' (by rw [e]) (mo_isTurned al_346 hM hl hI hM' hl' hI' e (by omega) ?_)))
      unfold fsI at q
      cases e2 : allN (tuP f g i) (f 0) 0 with
      | true => rw [e2] at q; exact bf (by decide) q
      | false =>
        rw [e2] at q
        refine bt rfl ?_
        rintro x rfl
        rw [nI_1]
        exact ih (i + 1) (by omega) q
  · rw [if_neg e] at q
    refine ⟨1, ?_⟩
    unfold wp_X8_turnedBy_b49
    by_cases e0 : f 0 = 0
    · exact bt (by rw [e0]; decide) q
    · refine bf (by rw [li_0]; exact nI_ge (by omega) (by omega)) (mo_of (u := 0) al_346 hM' hl' (by omega) (bf' ?_ q))
      rw [nI_eq (by omega) (by omega)]
      omega

theorem S_turnedBy {h : PH} (I : II h) {Q2 : Int32 → Int32 → PH → Prop} (hQ : HQ Q2) (l m : Int32) : wp_L_turnedBy 0 l m 351 h (fun r7 h6 => wp_X8_turnedBy 344 l m h6 (fun r10 h9 => Q2 r7 r10 h9)) := by
  obtain ⟨N, D, A, nx, K, kb, s, t, x⟩ := id I
  have x' : PreI h N D A nx K kb s t := x
  obtain ⟨⟨hI, hR, hM⟩, ⟨b1, b2, b3⟩, ⟨c1, c2, c3⟩, d1, d2, d3⟩ := x
  have i3 := hI.1
  have i4 := hI.2.1
  have R := hR.1
  unfold wp_L_turnedBy wp_X7_turnedBy
  by_cases hl : inB l 0 (N 0 1)
  · obtain ⟨l, _, hl, rfl⟩ := hl
    have il := hI.il hl
    have i48 := il.1
    refine ok_loopAt R hI hl ?_
    by_cases hm : inB m 0 (N 0 1)
    · obtain ⟨m, _, hm, rfl⟩ := hm
      have im := hI.il hm
      have m48 := im.1
      refine ok_loopAt R hI hm (sm_t (sm_t ?_))
      rw [show h (0 + 1 + 8 + 1 + 3 * l) 2 = nI (N (4 + l) 0) from (R.lo hl).2.2.1, show h (0 + 1 + 8 + 1 + 3 * m) 2 = nI (N (4 + m) 0) from (R.lo hm).2.2.1, nI_eq (by omega) (by omega)]
      have Mo : ∀ {v : Int32}, Q2 0 (if N (4 + l) 0 = N (4 + m) 0 then fsI (fun j => allN (tuP (N (4 + l)) (N (4 + m)) j) (N (4 + l) 0) 0) (N (4 + l) 0) 0 else -1) (up2 (up2 h 351 0 v) 344 0 0) → wp_X8_turnedBy 344 (nI l) (nI m) (up2 h 351 0 v) (fun r10 h9 => Q2 0 r10 h9) := by
        intro v q
        unfold wp_X8_turnedBy
        exact mo_isLoop al_346 (m351 hM) hI hl (bf (by decide) (mo_isLoop al_346 (m351 hM) hI hm (bf (by decide) (refu_0 (bt rfl (mo_of (u := 0) al_346 ((m344 (m351 hM)).l (by omega)) (by omega) (by omega) (mo_tb ((m344 (m351 hM)).l (by omega)) (by omega) il ((m344 (m351 hM)).l (by omega)) (by omega) im q)))))))
      by_cases e : N (4 + l) 0 = N (4 + m) 0
      · refine bt e (ok_tb (R.lo hl) il (R.lo hm) im e (wr (Mo ?_)))
        rw [if_pos e]
        exact hQ.q I
      · refine bf e (wr (Mo ?_))
        rw [if_neg e]
        exact hQ.q I
    · refine ok_loopAtN R hI hm (sm_t (sm_n ?_))
      refine ⟨fun _ => ?_, fun z => absurd rfl z⟩
      unfold wp_X8_turnedBy
      exact mo_isLoop al_346 hM hI hl (bf (by decide) (mo_isLoopN al_346 hM hI hm (bt rfl (refu_1 (bf (by decide) (hQ.no I (by decide)))))))
  · refine ok_loopAtN R hI hl ?_
    have fin : wp_X8_turnedBy 344 l m h (fun r10 h9 => Q2 1 r10 h9) := by
      unfold wp_X8_turnedBy
      exact mo_isLoopN al_346 hM hI hl (bt rfl (refu_1 (bf (by decide) (hQ.no I (by decide)))))
    by_cases hm : inB m 0 (N 0 1)
    · obtain ⟨m, _, hm, rfl⟩ := hm
      refine ok_loopAt R hI hm (sm_n ?_)
      refine ⟨fun _ => ?_, fun z => absurd rfl z⟩
      exact fin
    · refine ok_loopAtN R hI hm (sm_n ?_)
      refine ⟨fun _ => ?_, fun z => absurd rfl z⟩
      exact fin

