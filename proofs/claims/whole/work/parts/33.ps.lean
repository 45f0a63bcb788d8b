theorem fa_or (a b : Nat) : nI a ||| nI b = nI (a ||| b) := by
  apply Int32.toBitVec_inj.1
  show BitVec.ofNat 32 a ||| BitVec.ofNat 32 b = BitVec.ofNat 32 (a ||| b)
  apply BitVec.eq_of_getLsbD_eq
  intro i hi
  simp [hi]

section
variable {a l : Nat} {f : Nat → Nat} {h : PH} {Q : Int32 → PH → Prop}
theorem mo_of {u : Nat} (ha : al a = 427) (hM : Ml (h a) l f) (hl : l < 4) (hu : u < 60) (q : Q (nI (f u)) h) : wp_X8_of a (nI l) (nI u) h Q := by
  unfold wp_X8_of
  rw [ha, li_187, li_60, pk_mul, nI_add, nI_add]
  refine ⟨vp_in_nI (by omega) (by omega), ?_⟩
  rw [nI_clamp (by omega), hM u hu]
  exact q
theorem mo_round (ha : al a = 427) (hM : Ml (h a) l f) (hl : l < 4) (q : Q (nI (f 0 * f 2)) h) : wp_X8_round a (nI l) h Q := by
  unfold wp_X8_round
  refine mo_of (u := 0) ha hM hl (by omega) (mo_of (u := 2) ha hM hl (by omega) ?_)
  rw [pk_mul]
  exact q
theorem mo_divisor {x y : Nat} (hx : x < 2 ^ 31) (hy : y < 2 ^ 31) (q : Q (nI (Nat.gcd x y)) h) : wp_X8_divisor (nI x) (nI y) h Q := by
  refine ⟨y + 1, ?_⟩
  suffices H : ∀ n x y, x < 2 ^ 31 → y < 2 ^ 31 → y < n → Q (nI (Nat.gcd x y)) h → wp_X8_divisor_b4 Q n (nI x) (nI y) h from H (y + 1) x y hx hy (by omega) q
  intro n
  induction n with
  | zero => intro x y hx hy hn; exact absurd hn (Nat.not_lt_zero y)
  | succ n ih =>
    intro x y hx hy hn q
    unfold wp_X8_divisor_b4
    rw [z0 hy]
    by_cases e : y = 0
    · subst e
      rw [Nat.gcd_zero_right] at q
      exact bt rfl q
    · refine bf e ⟨e, ?_⟩
      rintro z rfl
      have hr := Nat.mod_lt x (by omega : 0 < y)
      rw [jirem_n hx (by omega) hy]
      refine ih _ _ hy (by omega) (by omega) ?_
      rw [Nat.gcd_comm y, ← Nat.gcd_rec, Nat.gcd_comm]
      exact q
theorem mo_period (ha : al a = 427) (hM : Ml (h a) l f) (hl : l < 4) (hI : IL f) (q : Q (nI (perN f)) h) : wp_X8_period a (nI l) h Q := by
  unfold wp_X8_period
  have b1 := hI.rnd
  have b2 := hI.2.1
  have g := hI.gcd
  refine mo_round ha hM hl (mo_round ha hM hl (mo_of (u := 1) ha hM hl (by omega) (mo_divisor (by omega) (by omega) ⟨by rw [z0 (by omega)]; omega, ?_⟩)))
  rw [pk_div (by omega) g.1 (by omega)]
  exact q
theorem mo_phaseIn {n : Nat} (ha : al a = 427) (hM : Ml (h a) l f) (hl : l < 4) (hI : IL f) (h0 : 0 < f 0) (hn : n < 2 ^ 41) (q : Q (nI (phN f n)) h) : wp_X8_phaseIn a (nI l) (lN n) h Q := by
  unfold wp_X8_phaseIn
  have b1 := hI.rnd
  have b2 := hI.np (Nat.le_of_lt hn)
  have b3 := hI.ph
  have b4 := hI.rnp h0
  have b5 := hI.2.1
  refine mo_of (u := 3) ha hM hl (by omega) (mo_of (u := 1) ha hM hl (by omega) (mo_round ha hM hl ?_))
  rw [nI_l (by omega), nI_l (by omega), nI_l (by omega)]
  refine ⟨by rw [lL0, pk_lEQ (by omega) (by omega)]; omega, ?_⟩
  rw [lN_mul, lN_add, jlrem_n (by omega) b4 (by omega), lN_i]
  unfold phN at q
  rw [if_neg (by omega)] at q
  exact q
theorem mo_tapeAt {p : Nat} (ha : al a = 427) (hM : Ml (h a) l f) (hl : l < 4) (hI : IL f) (hp : p < f 0 * f 2) (q : Q (nI (f (12 + p / f 2))) h) : wp_X8_tapeAt a (nI l) (nI p) h Q := by
  unfold wp_X8_tapeAt
  have b1 := hI.rnd
  have b2 := hI.2.2.1
  have b3 := hI.head hp
  have b4 := hI.1
  refine mo_of (u := 2) ha hM hl (by omega) ⟨by rw [z0 (by omega)]; omega, ?_⟩
  rw [pk_div (by omega) (by omega) (by omega), li_12, nI_add]
  exact mo_of ha hM hl (by omega) q
theorem mo_isTurned {k' j : Nat} {g : Nat → Nat} (ha : al a = 427) (hM : Ml (h a) l f) (hl : l < 4) (hI : IL f) (hM' : Ml (h a) k' g) (hl' : k' < 4) (hI' : IL g) (e : f 0 = g 0) (hj : j < f 0) (q : Q (bi (allN (tuP f g j) (f 0) 0)) h) : wp_X8_isTurned a (nI l) (nI k') (nI j) h Q := by
  have h0 := hI.1
  refine mo_of (u := 0) ha hM hl (by omega) ⟨f 0 + 1, ?_⟩
  suffices H : ∀ d i, i + d = f 0 → Q (bi (allN (tuP f g j) d i)) h → wp_X8_isTurned_b11 a (nI l) (nI k') (nI j) (nI (f 0)) Q (d + 1) (nI i) h from H (f 0) 0 (by omega) q
  intro d
  induction d with
  | zero =>
    intro i hi q
    unfold wp_X8_isTurned_b11
    exact bt (nI_le (by omega) (by omega)) q
  | succ d ih =>
    intro i hi q
    unfold wp_X8_isTurned_b11
    have b0 := Nat.mod_lt (i + j) (by omega : 0 < f 0)
    have b1 := hI.2.2.2.2.2.2.2.2.2 i (by omega)
    have b2 := hI'.2.2.2.2.2.2.2.2.2 ((i + j) % f 0) (by omega)
    unfold allN tuP at q
    refine bf (nI_ge (by omega) (by omega)) ?_
    rw [li_12, nI_add, nI_add, jirem_n (by omega) (by omega) (by omega), nI_add]
    refine mo_of ha hM hl (by omega) ⟨by rw [z0 (by omega)]; omega, mo_of ha hM' hl' (by omega) ?_⟩
    rw [nI_eq (by omega) (by omega)]
    by_cases e3 : f (12 + i) = g (12 + (i + j) % f 0)
    · refine bt e3 ?_
      rintro x rfl
      rw [nI_1]
      refine ih _ (by omega) ?_
      unfold tuP
      simpa [e3] using q
    · exact bf e3 (by simpa [e3, bi] using q)
end
/-- the one turn more of the reference finds nothing -/
theorem zf_per {f : Nat → Nat} (hI : IL f) (h0 : 0 < f 0) (step t : Nat) : phN f (t + perN f * step) = phN f t := by
  unfold phN
  rw [if_neg (by omega), if_neg (by omega)]
  have e : perN f * f 1 = f 0 * f 2 * (f 1 / Nat.gcd (f 0 * f 2) (f 1)) := by
    unfold perN
    obtain ⟨u, hu⟩ := Nat.gcd_dvd_left (f 0 * f 2) (f 1)
    obtain ⟨v, hv⟩ := Nat.gcd_dvd_right (f 0 * f 2) (f 1)
    have hg := hI.gcd.1
    generalize Nat.gcd (f 0 * f 2) (f 1) = g at *
    rw [hu, hv, Nat.mul_div_cancel_left _ hg, Nat.mul_div_cancel_left _ hg]
    rw [Nat.mul_comm g u, Nat.mul_assoc, Nat.mul_comm g v]
  have e2 : f 3 + (t + perN f * step) * f 1 = (f 3 + t * f 1) + f 0 * f 2 * (f 1 / Nat.gcd (f 0 * f 2) (f 1) * step) := by
    rw [Nat.add_mul, show perN f * step * f 1 = perN f * f 1 * step by rw [Nat.mul_assoc, Nat.mul_comm step, ← Nat.mul_assoc], e, Nat.add_assoc, Nat.mul_assoc (f 0 * f 2)]
  rw [e2, Nat.add_mul_mod_self_left]
theorem zf_more {f : Nat → Nat} {step : Nat} : ∀ d t, phN f (t + d * step) ≠ 0 ∨ (∃ j, j < d ∧ phN f (t + j * step) = 0) → zfO f step (d + 1) t = zfO f step d t
  | 0, t, h => by
    unfold zfO
    have h1 : phN f t ≠ 0 := by
      rcases h with h | ⟨j, hj, _⟩
      · simpa using h
      · omega
    by_cases e : 1000000 < t
    · rw [if_pos e]
    · rw [if_neg e, if_neg h1]; unfold zfO; rfl
  | d + 1, t, h => by
    rw [zfO]
    conv => rhs; rw [zfO]
    by_cases e : 1000000 < t
    · rw [if_pos e, if_pos e]
    · rw [if_neg e, if_neg e]
      by_cases e2 : phN f t = 0
      · rw [if_pos e2, if_pos e2]
      · rw [if_neg e2, if_neg e2]
        refine zf_more d (t + step) ?_
        rcases h with h | ⟨j, hj, h⟩
        · left; rw [show t + step + d * step = t + (d + 1) * step by rw [Nat.add_mul, Nat.one_mul]; omega]; exact h
        · rcases Nat.eq_zero_or_pos j with rfl | hp
          · exact absurd (by simpa using h) e2
          · right
            refine ⟨j - 1, by omega, ?_⟩
            obtain ⟨m, rfl⟩ : ∃ m, j = m + 1 := ⟨j - 1, by omega⟩
            rw [show t + step + (m + 1 - 1) * step = t + (m + 1) * step by rw [Nat.add_mul, Nat.one_mul, Nat.add_sub_cancel]; omega]
            exact h
theorem zf_same {f : Nat → Nat} (hI : IL f) (h0 : 0 < f 0) (step t : Nat) : zfO f step (perN f + 1) t = zfO f step (perN f) t := by
  refine zf_more _ _ ?_
  rw [zf_per hI h0]
  by_cases e : phN f t = 0
  · right; exact ⟨0, hI.perp h0, by simpa using e⟩
  · exact Or.inl e
theorem mo_firstZero {a l t0 step : Nat} {f : Nat → Nat} {h : PH} {Q : Int64 → PH → Prop} (ha : al a = 427) (hM : Ml (h a) l f) (hl : l < 4) (hI : IL f) (h0 : 0 < f 0) (ht : t0 ≤ 1000000) (hs : step < 2 ^ 40) (q : Q (oL (zfO f step (perN f) t0)) h) : wp_X8_firstZero a (nI l) (lN t0) (lN step) 1000000 h Q := by
  have b1 := hI.per
  refine ⟨perN f + 2, ?_⟩
  rw [← zf_same hI h0] at q
  suffices H : ∀ d t i, t ≤ 1000000 + step → i + d = perN f + 1 → Q (oL (zfO f step d t)) h → wp_X8_firstZero_b6 a (nI l) (lN step) 1000000 Q (d + 1) (lN t) (nI i) h from H (perN f + 1) t0 0 (by omega) (by omega) q
  have cmp : ∀ t, t ≤ 1000000 + step → (0 < lg_cmp (lN t) 1000000) = (1000000 < t) := by
    intro t ht
    rw [lg_cmp_gt]
    exact propext (pk_lLT (a := 1000000) (b := t) (by omega) (by omega))
  intro d
  induction d with
  | zero =>
    intro t i ht hi q
    unfold wp_X8_firstZero_b6
    exact mo_period ha hM hl hI (bt (nI_lt (by omega) (by omega)) q)
  | succ d ih =>
    intro t i ht hi q
    unfold wp_X8_firstZero_b6
    rw [cmp t ht]
    unfold zfO at q
    refine mo_period ha hM hl hI (bf (nI_nlt (by omega) (by omega)) ?_)
    by_cases e2 : 1000000 < t
    · rw [if_pos e2] at q; exact bt e2 q
    · rw [if_neg e2] at q
      refine bf e2 (mo_phaseIn ha hM hl hI h0 (by omega) ?_)
      have := hI.phN_le t
      rw [z0 (by omega)]
      by_cases e3 : phN f t = 0
      · rw [if_pos e3] at q; exact bt' e3 q
      · rw [if_neg e3] at q
        refine bf' e3 ?_
        rintro x rfl y rfl
        rw [lN_add, nI_1]
        exact ih _ _ (by omega) (by omega) q
/-! a whole studio -/
def sndN (N : Nat → Nat → Nat) (n : Nat) : Nat := fl (fun l s => s + hbN (N (4 + l)) n) (N 0 1) 0 0
def twN (N : Nat → Nat → Nat) : Nat := fl (fun l s => if N (4 + l) 0 = 0 then s else s + 1) (N 0 1) 0 0
def muN (N : Nat → Nat → Nat) : Nat := fl (fun l s => s ||| (N (4 + l) 4 * 2 ^ l)) (N 0 1) 0 0
def celN (N : Nat → Nat → Nat) : Nat := fl (fun l s => s + N (4 + l) 0) (N 0 1) 0 0
section
variable {b : Nat} {N : Nat → Nat → Nat} {h : PH}
theorem Rl.n0 (hR : Rl b N h) : h b 2 = nI (N 0 0) := hR.2.2.1
theorem Rl.n1 (hR : Rl b N h) : h b 3 = nI (N 0 1) := hR.2.2.2.1
theorem Rl.n2 (hR : Rl b N h) : h b 4 = nI (N 0 2) := hR.2.2.2.2.1
theorem Rl.re (hR : Rl b N h) {r : Nat} (hr : r < N 0 0) : Re (b + 1 + 1 + 2 * r) (N (1 + r)) h := hR.2.2.2.2.2.1 r hr
theorem Rl.lo (hR : Rl b N h) {l : Nat} (hl : l < N 0 1) : Lo (b + 8 + 1 + 3 * l) (N (4 + l)) h := hR.2.2.2.2.2.2 l hl
theorem Inv.ir (hI : Inv N) {r : Nat} (hr : r < N 0 0) : IR (N (1 + r)) := hI.2.2.1 r hr
theorem Inv.il (hI : Inv N) {l : Nat} (hl : l < N 0 1) : IL (N (4 + l)) := hI.2.2.2 l hl
theorem ok_loopAt {Q : Option Nat → PH → Prop} {l : Nat} (hR : Rl b N h) (hI : Inv N) (hl : l < N 0 1) (q : Q (some (b + 8 + 1 + 3 * l)) h) : wp_X5_loopAt b (nI l) h Q := by
  unfold wp_X5_loopAt
  have := hI.2.1
  rw [hR.n1, hR.2.1]
  refine cnt_in hl (by omega) (bt' rfl (bt (nI_lt (by omega) (by omega)) ⟨vp_in_nI (by omega) (by omega), ?_⟩))
  rw [nI_clamp (by omega)]
  exact q
theorem ok_loopAtN {Q : Option Nat → PH → Prop} {x : Int32} (hR : Rl b N h) (hI : Inv N) (hx : ¬ inB x 0 (N 0 1)) (q : Q none h) : wp_X5_loopAt b x h Q := by
  unfold wp_X5_loopAt
  have := hI.2.1
  rw [hR.n1]
  exact cnt_out hx (by omega) (bf' (by decide) q)
theorem ok_reelAt {Q : Option Nat → PH → Prop} {r : Nat} (hR : Rl b N h) (hI : Inv N) (hr : r < N 0 0) (q : Q (some (b + 1 + 1 + 2 * r)) h) : wp_X5_reelAt b (nI r) h Q := by
  unfold wp_X5_reelAt
  have := hI.1
  rw [hR.n0, hR.1]
  refine cnt_in hr (by omega) (bt' rfl (bt (nI_lt (by omega) (by omega)) ⟨vp_in_nI (by omega) (by omega), ?_⟩))
  rw [nI_clamp (by omega)]
  exact q
theorem ok_reelAtN {Q : Option Nat → PH → Prop} {x : Int32} (hR : Rl b N h) (hI : Inv N) (hx : ¬ inB x 0 (N 0 0)) (q : Q none h) : wp_X5_reelAt b x h Q := by
  unfold wp_X5_reelAt
  have := hI.1
  rw [hR.n0]
  exact cnt_out hx (by omega) (bf' (by decide) q)
theorem sm_t {x : Nat} {A : Prop} {B : Nat → Prop} (q : B x) : (some x = none → A) ∧ (∀ j : Nat, some x = some j → B j) := ⟨fun z => (nomatch z), fun j e => by cases e; exact q⟩
theorem sm_n {A : Prop} {B : Nat → Prop} (q : A) : ((none : Option Nat) = none → A) ∧ (∀ j : Nat, (none : Option Nat) = some j → B j) := ⟨fun _ => q, fun j e => (nomatch e)⟩
theorem ok_soundBehind {Q : Int32 → PH → Prop} {n : Nat} (hR : Rl b N h) (hI : Inv N) (hn : n ≤ 1000000) (q : Q (nI (sndN N n)) h) : wp_X5_soundBehind b (nI n) h Q := by
  have h4 := hI.2.1
  refine ⟨N 0 1 + 1, ?_⟩
  suffices H : ∀ d i s, i + d = N 0 1 → Q (nI (fl (fun l s => s + hbN (N (4 + l)) n) d i s)) h → wp_X5_soundBehind_b4 b (nI n) Q (d + 1) (nI s) (nI i) h from H (N 0 1) 0 0 (by omega) q
  intro d
  induction d with
  | zero =>
    intro i s hi q
    unfold wp_X5_soundBehind_b4
    rw [hR.n1]
    exact bt (nI_le (by omega) (by omega)) q
  | succ d ih =>
    intro i s hi q
    unfold wp_X5_soundBehind_b4
    rw [hR.n1]
    refine bf (nI_ge (by omega) (by omega)) (ok_loopAt hR hI (by omega) (sm_t (ok_heardBehind (hR.lo (by omega)) (hI.il (by omega)) hn ?_)))
    rintro x rfl y rfl
    rw [nI_add, nI_1]
    exact ih _ _ (by omega) q
theorem ok_loopsWithTape {Q : Int32 → PH → Prop} (hR : Rl b N h) (hI : Inv N) (q : Q (nI (twN N)) h) : wp_X5_loopsWithTape b h Q := by
  have h4 := hI.2.1
  refine ⟨N 0 1 + 1, ?_⟩
  suffices H : ∀ d i s, i + d = N 0 1 → Q (nI (fl (fun l s => if N (4 + l) 0 = 0 then s else s + 1) d i s)) h → wp_X5_loopsWithTape_b4 b Q (d + 1) (nI s) (nI i) h from H (N 0 1) 0 0 (by omega) q
  intro d
  induction d with
  | zero =>
    intro i s hi q
    unfold wp_X5_loopsWithTape_b4
    rw [hR.n1]
    exact bt (nI_le (by omega) (by omega)) q
  | succ d ih =>
    intro i s hi q
    unfold wp_X5_loopsWithTape_b4
    rw [hR.n1]
    refine bf (nI_ge (by omega) (by omega)) (ok_loopAt hR hI (by omega) (sm_t (ok_isEmpty (hR.lo (by omega)) (hI.il (by omega)) ?_)))
    unfold fl at q
    by_cases e : N (4 + i) 0 = 0
    · rw [if_pos e] at q
      refine ⟨fun _ => ?_, fun z => absurd z (by simp [e, bi])⟩
      · rintro x rfl
        rw [nI_1]
        exact ih _ _ (by omega) q
    · rw [if_neg e] at q
      refine ⟨fun z => absurd (by simp [e, bi]) z, fun _ => ?_⟩
      rintro x rfl y rfl
      rw [nI_1, nI_1]
      exact ih _ _ (by omega) q
theorem shl_n {m i : Nat} (hm : m ≤ 1) (hi : i < 4) : nI m <<< (nI i &&& 31) = nI (m * 2 ^ i) := by
  have h1 : m = 0 ∨ m = 1 := by omega
  have h2 : i = 0 ∨ i = 1 ∨ i = 2 ∨ i = 3 := by omega
  rcases h1 with rfl | rfl <;> rcases h2 with rfl | rfl | rfl | rfl <;> decide
theorem ok_mutedLoops {Q : Int32 → PH → Prop} (hR : Rl b N h) (hI : Inv N) (q : Q (nI (muN N)) h) : wp_X5_mutedLoops b h Q := by
  have h4 := hI.2.1
  refine ⟨N 0 1 + 1, ?_⟩
  suffices H : ∀ d i s, i + d = N 0 1 → Q (nI (fl (fun l s => s ||| (N (4 + l) 4 * 2 ^ l)) d i s)) h → wp_X5_mutedLoops_b4 b Q (d + 1) (nI s) (nI i) h from H (N 0 1) 0 0 (by omega) q
  intro d
  induction d with
  | zero =>
    intro i s hi q
    unfold wp_X5_mutedLoops_b4
    rw [hR.n1]
    exact bt (nI_le (by omega) (by omega)) q
  | succ d ih =>
    intro i s hi q
    unfold wp_X5_mutedLoops_b4
    rw [hR.n1]
    refine bf (nI_ge (by omega) (by omega)) (ok_loopAt hR hI (by omega) (sm_t ?_))
    have b4 := (hI.il (by omega : i < N 0 1)).2.2.2.1
    rw [(hR.lo (by omega : i < N 0 1)).2.2.2.2.2.2.2.1, z0 (by omega)]
    unfold fl at q
    by_cases e : N (4 + i) 4 = 0
    · refine bt e ?_
      rintro x rfl
      rw [nI_1]
      refine ih _ _ (by omega) ?_
      rw [e, Nat.zero_mul, Nat.or_zero] at q
      exact q
    · refine bf e ?_
      rintro x rfl y rfl
      rw [nI_1, li_1, shl_n (by omega) (by omega), fa_or]
      refine ih _ _ (by omega) ?_
      rw [show N (4 + i) 4 = 1 by omega] at q
      exact q
theorem ok_loopCells {Q : Int32 → PH → Prop} (hR : Rl b N h) (hI : Inv N) (q : Q (nI (celN N)) h) : wp_X5_loopCells b h Q := by
  have h4 := hI.2.1
  refine ⟨N 0 1 + 1, ?_⟩
  suffices H : ∀ d i s, i + d = N 0 1 → Q (nI (fl (fun l s => s + N (4 + l) 0) d i s)) h → wp_X5_loopCells_b4 b Q (d + 1) (nI s) (nI i) h from H (N 0 1) 0 0 (by omega) q
  intro d
  induction d with
  | zero =>
    intro i s hi q
    unfold wp_X5_loopCells_b4
    rw [hR.n1]
    exact bt (nI_le (by omega) (by omega)) q
  | succ d ih =>
    intro i s hi q
    unfold wp_X5_loopCells_b4
    rw [hR.n1]
    refine bf (nI_ge (by omega) (by omega)) (ok_loopAt hR hI (by omega) (sm_t ?_))
    rw [(hR.lo (by omega : i < N 0 1)).2.2.1]
    rintro x rfl y rfl
    rw [nI_1, nI_add]
    exact ih _ _ (by omega) q
end
section
variable {a : Nat} {N : Nat → Nat → Nat} {h : PH}
theorem Mw.g {g : Nat → Int32} (hM : Mw g N) {j : Nat} (hj : j < 4) : g j = nI (N 0 j) := hM.1 j hj
theorem Mw.r {g : Nat → Int32} (hM : Mw g N) {r : Nat} (hr : r < 3) : Mr g r (N (1 + r)) := hM.2.1 r hr
theorem Mw.l {g : Nat → Int32} (hM : Mw g N) {l : Nat} (hl : l < 4) : Ml g l (N (4 + l)) := hM.2.2 l hl
theorem mo_isReel {Q : Int32 → PH → Prop} {r : Nat} (ha : al a = 427) (hM : Mw (h a) N) (hI : Inv N) (hr : r < N 0 0) (q : Q 1 h) : wp_X8_isReel a (nI r) h Q := by
  unfold wp_X8_isReel
  have := hI.1
  rw [ha, li_0, nI_clamp (by omega), hM.g (by omega)]
  exact ⟨vp_in_nI (by omega) (by omega), inc_in hr (by omega) ⟨Or.inr rfl, q⟩⟩
theorem mo_isReelN {Q : Int32 → PH → Prop} {x : Int32} (ha : al a = 427) (hM : Mw (h a) N) (hI : Inv N) (hr : ¬ inB x 0 (N 0 0)) (q : Q 0 h) : wp_X8_isReel a x h Q := by
  unfold wp_X8_isReel
  have := hI.1
  rw [ha, li_0, nI_clamp (by omega), hM.g (by omega)]
  exact ⟨vp_in_nI (by omega) (by omega), inc_out hr (by omega) ⟨Or.inl rfl, q⟩⟩
theorem mo_isLoop {Q : Int32 → PH → Prop} {r : Nat} (ha : al a = 427) (hM : Mw (h a) N) (hI : Inv N) (hr : r < N 0 1) (q : Q 1 h) : wp_X8_isLoop a (nI r) h Q := by
  unfold wp_X8_isLoop
  have := hI.2.1
  rw [ha, li_1, nI_clamp (by omega), hM.g (by omega)]
  exact ⟨vp_in_nI (by omega) (by omega), inc_in hr (by omega) ⟨Or.inr rfl, q⟩⟩
theorem mo_isLoopN {Q : Int32 → PH → Prop} {x : Int32} (ha : al a = 427) (hM : Mw (h a) N) (hI : Inv N) (hr : ¬ inB x 0 (N 0 1)) (q : Q 0 h) : wp_X8_isLoop a x h Q := by
  unfold wp_X8_isLoop
  have := hI.2.1
  rw [ha, li_1, nI_clamp (by omega), hM.g (by omega)]
  exact ⟨vp_in_nI (by omega) (by omega), inc_out hr (by omega) ⟨Or.inl rfl, q⟩⟩
theorem mo_isCell {Q : Int32 → PH → Prop} {r c : Nat} (ha : al a = 427) (hM : Mw (h a) N) (hI : Inv N) (hr : r < N 0 0) (hc : c < N (1 + r) 0) (q : Q 1 h) : wp_X8_isCell a (nI r) (nI c) h Q := by
  unfold wp_X8_isCell
  have h3 := hI.1
  have := (hI.ir hr).1
  exact mo_isReel ha hM hI hr (bf (by decide) (mo_cells ha (hM.r (by omega)) (by omega) (inc_in hc (by omega) (bf (by decide) q))))
theorem mo_isCellN1 {Q : Int32 → PH → Prop} {x y : Int32} (ha : al a = 427) (hM : Mw (h a) N) (hI : Inv N) (hr : ¬ inB x 0 (N 0 0)) (q : Q 0 h) : wp_X8_isCell a x y h Q := by
  unfold wp_X8_isCell
  exact mo_isReelN ha hM hI hr (bt rfl q)
theorem mo_isCellN2 {Q : Int32 → PH → Prop} {r : Nat} {y : Int32} (ha : al a = 427) (hM : Mw (h a) N) (hI : Inv N) (hr : r < N 0 0) (hc : ¬ inB y 0 (N (1 + r) 0)) (q : Q 0 h) : wp_X8_isCell a (nI r) y h Q := by
  unfold wp_X8_isCell
  have h3 := hI.1
  have := (hI.ir hr).1
  exact mo_isReel ha hM hI hr (bf (by decide) (mo_cells ha (hM.r (by omega)) (by omega) (inc_out hc (by omega) (bt rfl q))))
theorem mo_isPlace {Q : Int32 → PH → Prop} {r c : Nat} (ha : al a = 427) (hM : Mw (h a) N) (hI : Inv N) (hr : r < N 0 0) (hc : c ≤ N (1 + r) 0) (q : Q 1 h) : wp_X8_isPlace a (nI r) (nI c) h Q := by
  unfold wp_X8_isPlace
  have h3 := hI.1
  have := (hI.ir hr).1
  refine mo_isReel ha hM hI hr (bf (by decide) (mo_cells ha (hM.r (by omega)) (by omega) ?_))
  rw [lL0, nI_l (by omega : N (1 + r) 0 < 2 ^ 31)]
  exact in_in (by omega) hc (by omega) (bf (by decide) q)
theorem mo_isPlaceN1 {Q : Int32 → PH → Prop} {x y : Int32} (ha : al a = 427) (hM : Mw (h a) N) (hI : Inv N) (hr : ¬ inB x 0 (N 0 0)) (q : Q 0 h) : wp_X8_isPlace a x y h Q := by
  unfold wp_X8_isPlace
  exact mo_isReelN ha hM hI hr (bt rfl q)
theorem mo_isPlaceN2 {Q : Int32 → PH → Prop} {r : Nat} {y : Int32} (ha : al a = 427) (hM : Mw (h a) N) (hI : Inv N) (hr : r < N 0 0) (hc : ¬ inB y 0 (N (1 + r) 0 + 1)) (q : Q 0 h) : wp_X8_isPlace a (nI r) y h Q := by
  unfold wp_X8_isPlace
  have h3 := hI.1
  have := (hI.ir hr).1
  refine mo_isReel ha hM hI hr (bf (by decide) (mo_cells ha (hM.r (by omega)) (by omega) ?_))
  rw [lL0, nI_l (by omega : N (1 + r) 0 < 2 ^ 31)]
  exact in_out hc (by omega) (by omega) (bt rfl q)
theorem mo_soundLater {Q : Int32 → PH → Prop} {n : Nat} (ha : al a = 427) (hM : Mw (h a) N) (hI : Inv N) (hn : n ≤ 1000000) (q : Q (nI (sndN N n)) h) : wp_X8_soundLater a (lN n) h Q := by
  have h4 := hI.2.1
  refine ⟨N 0 1 + 1, ?_⟩
  suffices H : ∀ d i s, i + d = N 0 1 → Q (nI (fl (fun l s => s + hbN (N (4 + l)) n) d i s)) h → wp_X8_soundLater_b5 a (lN n) Q (d + 1) (nI s) (nI i) h from H (N 0 1) 0 0 (by omega) q
  intro d
  induction d with
  | zero =>
    intro i s hi q
    unfold wp_X8_soundLater_b5
    rw [ha, li_1, nI_clamp (by omega), hM.g (by omega)]
    exact ⟨vp_in_nI (by omega) (by omega), bt (nI_le (by omega) (by omega)) q⟩
  | succ d ih =>
    intro i s hi q
    unfold wp_X8_soundLater_b5
    have hl : Ml (h a) i (N (4 + i)) := hM.l (by omega)
    have il := hI.il (by omega : i < N 0 1)
    have b4 := il.2.2.2.1
    have b0 := il.1
    rw [ha, li_1, nI_clamp (by omega), hM.g (by omega)]
    refine ⟨vp_in_nI (by omega) (by omega), bf (nI_ge (by omega) (by omega)) (mo_of (u := 0) ha hl (by omega) (by omega) ?_)⟩
    unfold fl hbN at q
    have sk : (N (4 + i) 0 = 0 ∨ ¬ N (4 + i) 4 = 0) → ∀ x6 : Int32, x6 = nI s + 0 → ∀ x7 : Int32, x7 = nI i + nI 1 → wp_X8_soundLater_b5 a (lN n) Q (d + 1) x6 x7 h := by
      rintro hc x rfl y rfl
      rw [nI_add, li_0, nI_add]
      refine ih _ _ (by omega) ?_
      rw [if_neg (by omega)] at q
      exact q
    rw [li_0]
    by_cases e : N (4 + i) 0 = 0
    · exact bt (nI_le (by omega) (by omega)) (sk (Or.inl e))
    · refine bf (nI_ge (by omega) (by omega)) (mo_of (u := 4) ha hl (by omega) (by omega) ?_)
      rw [nI_eq (by omega) (by omega)]
      by_cases e4 : N (4 + i) 4 = 0
      · refine bt' e4 (mo_phaseIn ha hl (by omega) il (by omega) (by omega) (mo_tapeAt ha hl (by omega) il (il.phN_lt (by omega) n) ?_))
        rintro x rfl y rfl
        rw [nI_add, nI_add]
        refine ih _ _ (by omega) ?_
        rw [if_pos ⟨e4, by omega⟩] at q
        exact q
      · exact bf' e4 (sk (Or.inr e4))
theorem mo_allCells {Q : Int32 → PH → Prop} (ha : al a = 427) (hM : Mw (h a) N) (hI : Inv N) (q : Q (nI (celN N)) h) : wp_X8_allCells a h Q := by
  have h4 := hI.2.1
  refine ⟨N 0 1 + 1, ?_⟩
  suffices H : ∀ d i s, i + d = N 0 1 → Q (nI (fl (fun l s => s + N (4 + l) 0) d i s)) h → wp_X8_allCells_b4 a Q (d + 1) (nI s) (nI i) h from H (N 0 1) 0 0 (by omega) q
  intro d
  induction d with
  | zero =>
    intro i s hi q
    unfold wp_X8_allCells_b4
    rw [ha, li_1, nI_clamp (by omega), hM.g (by omega)]
    exact ⟨vp_in_nI (by omega) (by omega), bt (nI_le (by omega) (by omega)) q⟩
  | succ d ih =>
    intro i s hi q
    unfold wp_X8_allCells_b4
    rw [ha, li_1, nI_clamp (by omega), hM.g (by omega)]
    refine ⟨vp_in_nI (by omega) (by omega), bf (nI_ge (by omega) (by omega)) (mo_of (u := 0) ha (hM.l (by omega)) (by omega) (by omega) ?_)⟩
    rintro x rfl y rfl
    rw [nI_add, nI_add]
    exact ih _ _ (by omega) q
end

