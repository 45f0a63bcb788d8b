
def ufn (f : Nat → Nat) (j x : Nat) : Nat → Nat := fun i => if i = j then x else f i
theorem ufn_s {f : Nat → Nat} {j x : Nat} : ufn f j x j = x := if_pos rfl
theorem ufn_n {f : Nat → Nat} {j x i : Nat} (h : i ≠ j) : ufn f j x i = f i := if_neg h
def phN (f : Nat → Nat) (n : Nat) : Nat := if f 0 = 0 then 0 else (f 3 + n * f 1) % (f 0 * f 2)
def hbN (f : Nat → Nat) (n : Nat) : Nat := if f 4 = 0 ∧ 0 < f 0 then f (12 + phN f n / f 2) else 0
def perN (f : Nat → Nat) : Nat := f 0 * f 2 / Nat.gcd (f 0 * f 2) (f 1)
def zfO (f : Nat → Nat) (step : Nat) : Nat → Nat → Option Nat
  | 0, _ => none
  | d + 1, t => if 1000000 < t then none else if phN f t = 0 then some t else zfO f step d (t + step)
def oI : Option Nat → Int32
  | none => -1
  | some t => nI t
def oL : Option Nat → Int64
  | none => -1
  | some t => lN t
def allN (p : Nat → Bool) : Nat → Nat → Bool
  | 0, _ => true
  | d + 1, i => p i && allN p d (i + 1)
/-- facts of a loop -/
theorem IL.rnd {f : Nat → Nat} (h : IL f) : f 0 * f 2 ≤ 432 := by
  have := Nat.mul_le_mul h.1 h.2.2.1.2
  omega
theorem IL.rnp {f : Nat → Nat} (h : IL f) (h0 : 0 < f 0) : 0 < f 0 * f 2 := Nat.mul_pos h0 (by have := h.2.2.1.1; omega)
theorem IL.ph {f : Nat → Nat} (h : IL f) : f 3 ≤ 432 := by
  have h1 := h.rnd
  rcases Nat.eq_zero_or_pos (f 0) with e | e
  · have := h.2.2.2.2.2.1 e; omega
  · have := h.2.2.2.2.2.2.1 e; omega
theorem IL.np {f : Nat → Nat} (h : IL f) {n m : Nat} (hn : n ≤ m) : n * f 1 ≤ m * 9 := Nat.mul_le_mul hn h.2.1.2
theorem IL.phN_lt {f : Nat → Nat} (h : IL f) (h0 : 0 < f 0) (n : Nat) : phN f n < f 0 * f 2 := by
  unfold phN
  rw [if_neg (by omega)]
  exact Nat.mod_lt _ (h.rnp h0)
theorem IL.phN_le {f : Nat → Nat} (h : IL f) (n : Nat) : phN f n ≤ 432 := by
  rcases Nat.eq_zero_or_pos (f 0) with e | e
  · unfold phN; rw [if_pos e]; omega
  · have := h.phN_lt e n; have := h.rnd; omega
theorem IL.head {f : Nat → Nat} (h : IL f) {p : Nat} (hp : p < f 0 * f 2) : p / f 2 < f 0 := Nat.div_lt_of_lt_mul (by rw [Nat.mul_comm]; exact hp)
theorem IL.phN0 {f : Nat → Nat} (h : IL f) (h0 : 0 < f 0) : phN f 0 = f 3 := by
  unfold phN
  rw [if_neg (by omega), Nat.zero_mul, Nat.add_zero, Nat.mod_eq_of_lt (h.2.2.2.2.2.2.1 h0)]
theorem IL.gcd {f : Nat → Nat} (h : IL f) : 0 < Nat.gcd (f 0 * f 2) (f 1) ∧ Nat.gcd (f 0 * f 2) (f 1) ≤ 9 := by
  have h1 : 0 < f 1 := by have := h.2.1.1; omega
  refine ⟨Nat.gcd_pos_of_pos_right _ h1, ?_⟩
  have := Nat.gcd_le_right (f 0 * f 2) h1
  have := h.2.1.2
  omega
theorem IL.per {f : Nat → Nat} (h : IL f) : perN f ≤ 432 := by
  have := Nat.div_le_self (f 0 * f 2) (Nat.gcd (f 0 * f 2) (f 1))
  have := h.rnd
  unfold perN
  omega
theorem IL.perp {f : Nat → Nat} (h : IL f) (h0 : 0 < f 0) : 0 < perN f := by
  have hp := h.rnp h0
  have := Nat.gcd_le_left (f 1) hp
  exact Nat.div_pos this h.gcd.1
theorem jirem_n {a d : Nat} (ha : a < 2 ^ 31) (h0 : 0 < d) (hd : d < 2 ^ 31) : jirem (nI a) (nI d) = nI (a % d) := pk_rem ha h0 hd
theorem jlrem_n {a d : Nat} (ha : a < 2 ^ 63) (h0 : 0 < d) (hd : d < 2 ^ 63) : jlrem (lN a) (lN d) = lN (a % d) := pk_lRem ha h0 hd
/-! Euclid -/
theorem ok_gcd {a b m : Nat} {h : PH} {Q : Int64 → PH → Prop} (ha : a < 2 ^ 62) (hb : b < 2 ^ m) (hm : m ≤ 40) (q : Q (lN (Nat.gcd a b)) h) : wp_X1_greatestDivisor (lN a) (lN b) h Q := by
  refine ⟨2 * m + 1, ?_⟩
  suffices H : ∀ m a b i, a < 2 ^ 62 → b < 2 ^ m → m ≤ 40 → i + 2 * m ≤ 80 → Q (lN (Nat.gcd a b)) h → wp_X1_greatestDivisor_b9 Q (2 * m + 1) (lN a) (lN b) (nI i) h from H m a b 0 ha hb hm (by omega) q
  have base : ∀ n a i, i ≤ 80 → Q (lN a) h → wp_X1_greatestDivisor_b9 Q (n + 1) (lN a) (lN 0) (nI i) h := by
    intro n a i hi q
    unfold wp_X1_greatestDivisor_b9
    have e : (200 : Int32) = nI 200 := rfl
    rw [e]
    exact bf (nI_ge (by omega) (by omega)) (bt (by rw [lg_cmp_eq]; rfl) q)
  have step : ∀ n a b i, a < 2 ^ 62 → 0 < b → b < 2 ^ 62 → i ≤ 80 → wp_X1_greatestDivisor_b9 Q n (lN b) (lN (a % b)) (nI (i + 1)) h → wp_X1_greatestDivisor_b9 Q (n + 1) (lN a) (lN b) (nI i) h := by
    intro n a b i ha h0 hb hi q
    unfold wp_X1_greatestDivisor_b9
    have e : (200 : Int32) = nI 200 := rfl
    have nz : ¬ lN b = 0 := by rw [lL0, pk_lEQ (by omega) (by omega)]; omega
    rw [e]
    refine bf (nI_ge (by omega) (by omega)) (bf (by rw [lg_cmp_eq]; exact nz) ⟨nz, ?_⟩)
    rintro x rfl y rfl
    rw [nI_1, jlrem_n (by omega) h0 (by omega)]
    exact q
  intro m
  induction m with
  | zero =>
    intro a b i ha hb hm hi q
    have : b = 0 := by simpa using hb
    subst this
    rw [Nat.gcd_zero_right] at q
    exact base _ _ _ (by omega) q
  | succ m ih =>
    intro a b i ha hb hm hi q
    have hp : 2 ^ (m + 1) ≤ 2 ^ 41 := Nat.pow_le_pow_right (by omega) (by omega)
    have hs : 2 ^ (m + 1) = 2 * 2 ^ m := by rw [Nat.pow_succ, Nat.mul_comm]
    rw [show 2 * (m + 1) + 1 = (2 * m + 1) + 1 + 1 by omega]
    rcases Nat.eq_zero_or_pos b with rfl | h0
    · rw [Nat.gcd_zero_right] at q
      exact base _ _ _ (by omega) q
    · refine step _ _ _ _ ha h0 (by omega) (by omega) ?_
      have hr : a % b < b := Nat.mod_lt _ h0
      have e1 : Nat.gcd a b = Nat.gcd b (a % b) := by rw [Nat.gcd_comm a b, Nat.gcd_rec b a, Nat.gcd_comm]
      rw [e1] at q
      rcases Nat.eq_zero_or_pos (a % b) with e0 | r0
      · rw [e0] at q ⊢
        rw [Nat.gcd_zero_right] at q
        exact base _ _ _ (by omega) q
      · refine step _ _ _ _ (by omega) r0 (by omega) (by omega) ?_
        have hr2 : b % (a % b) < a % b := Nat.mod_lt _ r0
        have h2 : b % (a % b) < 2 ^ m := by
          rcases Nat.lt_or_ge (a % b) (2 ^ m) with l | l
          · omega
          · have := Nat.mod_eq_sub_mod (a := b) (b := a % b) (by omega)
            have h3 : (b - a % b) % (a % b) ≤ b - a % b := Nat.mod_le _ _
            omega
        refine ih _ _ _ (by omega) h2 (by omega) (by omega) ?_
        rw [Nat.gcd_comm b, Nat.gcd_rec (a % b) b, Nat.gcd_comm] at q
        exact q
section
variable {k : Nat} {f : Nat → Nat} {h : PH} {Q : Int32 → PH → Prop}
theorem Lo_get {c : Nat} (hR : Lo k f h) (hI : IL f) (hc : c < f 0) (q : Q (nI (f (12 + c))) h) : wp_X7_get (k + 1) (nI c) h Q :=
  get_in hR.1 (by decide) (by have := hI.1; omega) (by rw [hR.2.2.2.2.2.2.2.2.1 c hc]; exact q)
theorem ok_isEmpty (hR : Lo k f h) (hI : IL f) (q : Q (bi (decide (f 0 = 0))) h) : wp_X0_isEmpty k h Q := by
  unfold wp_X0_isEmpty
  obtain ⟨x1, x2, x3, x4, x5, x6, x7, x8, x9, x10⟩ := hR
  have := hI.1
  rw [x3, z0 (by omega)]
  by_cases e : f 0 = 0
  · exact bt' e (by simpa [bi, e] using q)
  · exact bf' e (by simpa [bi, e] using q)
theorem ok_phaseBehind {n : Nat} (hR : Lo k f h) (hI : IL f) (hn : n ≤ 1000000) (q : Q (nI (phN f n)) h) : wp_X0_phaseBehind k (nI n) h Q := by
  unfold wp_X0_phaseBehind
  obtain ⟨x1, x2, x3, x4, x5, x6, x7, x8, x9, x10⟩ := hR
  have b1 := hI.rnd
  have b2 := hI.np hn
  have b3 := hI.ph
  rw [x3, x5, x6, x7]
  rintro x rfl
  rw [pk_mul, pk_mul, nI_add]
  unfold phN at q
  rcases Nat.eq_zero_or_pos (f 0) with e | e
  · rw [e, Nat.zero_mul, ← li_0]
    exact bf (by decide) (show Q (nI 0) h by simpa [e] using q)
  · have b4 := hI.rnp e
    refine bt (by rw [li_0]; exact nI_lt b4 (by omega)) ⟨by rw [z0 (by omega)]; omega, ?_⟩
    rw [jirem_n (by omega) b4 (by omega)]
    rw [if_neg (by omega)] at q
    exact q
theorem ok_headIn {p : Nat} (hR : Lo k f h) (hI : IL f) (hp : p ≤ 432) (q : Q (if f 0 = 0 then -1 else nI (p / f 2)) h) : wp_X0_headIn k (nI p) h Q := by
  unfold wp_X0_headIn
  obtain ⟨x1, x2, x3, x4, x5, x6, x7, x8, x9, x10⟩ := hR
  have h0 := hI.1
  have h2 := hI.2.2.1
  rw [x3, x6, z0 (by omega), z0 (by omega)]
  by_cases e : f 0 = 0
  · rw [if_pos e] at q; exact bt e q
  · rw [if_neg e] at q
    refine bf e (bt (by rw [li_0]; exact nI_lt (by omega) (by omega)) ⟨by omega, ?_⟩)
    rw [pk_div (by omega) (by omega) (by omega)]
    exact q
theorem ok_heardBehind {n : Nat} (hR : Lo k f h) (hI : IL f) (hn : n ≤ 1000000) (q : Q (nI (hbN f n)) h) : wp_X0_heardBehind k (nI n) h Q := by
  unfold wp_X0_heardBehind
  have x8 := hR.2.2.2.2.2.2.2.1
  have h4 := hI.2.2.2.1
  unfold hbN at q
  rw [x8, z0 (by omega)]
  by_cases e : f 4 = 0
  · refine bt e (ok_phaseBehind hR hI hn (ok_headIn hR hI (hI.phN_le n) ?_))
    by_cases e0 : f 0 = 0
    · rw [if_pos e0]
      exact get_m1 (show Q (nI 0) h by simpa [e0] using q)
    · rw [if_neg e0]
      refine Lo_get hR hI (hI.head (hI.phN_lt (by omega) n)) ?_
      rw [if_pos ⟨e, by omega⟩] at q
      exact q
  · exact bf e (show Q (nI 0) h by simpa [e] using q)
theorem ok_period (hR : Lo k f h) (hI : IL f) (q : Q (if f 0 = 0 then -1 else nI (perN f)) h) : wp_X0_period k h Q := by
  unfold wp_X0_period
  have x3 := hR.2.2.1
  have x5 := hR.2.2.2.2.1
  have x6 := hR.2.2.2.2.2.1
  have b1 := hI.rnd
  have b2 := hI.2.1
  have g := hI.gcd
  rw [x3, x5, x6]
  rintro x rfl
  rw [pk_mul, nI_l (by omega), nI_l (by omega)]
  refine ok_gcd (m := 4) (by omega) (by omega) (by omega) ?_
  rintro x rfl
  rw [lN_i]
  refine ok_isEmpty hR hI ?_
  by_cases e : f 0 = 0
  · rw [if_pos e] at q
    exact bf' (by simp [e, bi]) q
  · rw [if_neg e] at q
    refine bt' (by simp [e, bi]) (bt (by rw [li_0]; exact nI_lt g.1 (by omega)) ⟨by rw [z0 (by omega)]; omega, ?_⟩)
    rw [pk_div (by omega) g.1 (by omega)]
    exact q
theorem ok_zeroFrom {t0 step : Nat} (hR : Lo k f h) (hI : IL f) (ht : t0 ≤ 1000000) (hs : step < 2 ^ 40) (q : Q (if f 0 = 0 then -1 else oI (zfO f step (perN f) t0)) h) : wp_X0_zeroFrom k (lN t0) (lN step) h Q := by
  unfold wp_X0_zeroFrom
  have b1 := hI.per
  refine ok_period hR hI ?_
  by_cases e : f 0 = 0
  · rw [if_pos e] at q ⊢
    refine ⟨1, ?_⟩
    unfold wp_X0_zeroFrom_b12
    exact bt (by decide) q
  · rw [if_neg e] at q ⊢
    refine ⟨perN f + 1, ?_⟩
    suffices H : ∀ d t i, t ≤ 1000000 + step → i + d = perN f → Q (oI (zfO f step d t)) h → wp_X0_zeroFrom_b12 k (lN step) (nI (perN f)) Q (d + 1) (lN t) (nI i) h from H (perN f) t0 0 (by omega) (by omega) q
    have cmp : ∀ t, t ≤ 1000000 + step → (0 < lg_cmp (lN t) 1000000) = (1000000 < t) := by
      intro t ht
      rw [lg_cmp_gt]
      exact propext (pk_lLT (a := 1000000) (b := t) (by omega) (by omega))
    intro d
    induction d with
    | zero =>
      intro t i ht hi q
      unfold wp_X0_zeroFrom_b12
      exact bt (nI_le (by omega) (by omega)) q
    | succ d ih =>
      intro t i ht hi q
      unfold wp_X0_zeroFrom_b12
      rw [cmp t ht]
      unfold zfO at q
      refine bf (nI_ge (by omega) (by omega)) ?_
      by_cases e2 : 1000000 < t
      · rw [if_pos e2] at q; exact bt e2 q
      · rw [if_neg e2] at q
        refine bf e2 ?_
        rw [lN_i]
        refine ok_phaseBehind hR hI (by omega) ?_
        have := hI.phN_le t
        rw [z0 (by omega)]
        by_cases e3 : phN f t = 0
        · rw [if_pos e3] at q; exact bt' e3 q
        · rw [if_neg e3] at q
          refine bf' e3 ?_
          rintro x rfl y rfl
          rw [lN_add, nI_1]
          exact ih _ _ (by omega) (by omega) q
/-- the cell behind c, k further round -/
def tuP (f g : Nat → Nat) (j c : Nat) : Bool := decide (f (12 + c) = g (12 + (c + j) % f 0))
theorem ok_isTurned {k' j : Nat} {g : Nat → Nat} (hR : Lo k f h) (hI : IL f) (hR' : Lo k' g h) (hI' : IL g) (e : f 0 = g 0) (hj : j < f 0) (q : Q (bi (allN (tuP f g j) (f 0) 0)) h) : wp_X0_isTurned k k' (nI j) h Q := by
  have x3 := hR.2.2.1
  have h0 := hI.1
  refine ⟨f 0 + 1, ?_⟩
  suffices H : ∀ d i, i + d = f 0 → Q (bi (allN (tuP f g j) d i)) h → wp_X0_isTurned_b2 k k' (nI j) Q (d + 1) (nI i) h from H (f 0) 0 (by omega) q
  intro d
  induction d with
  | zero =>
    intro i hi q
    unfold wp_X0_isTurned_b2
    rw [x3]
    exact bt (nI_le (by omega) (by omega)) q
  | succ d ih =>
    intro i hi q
    unfold wp_X0_isTurned_b2
    rw [x3]
    have b1 := hI.2.2.2.2.2.2.2.2.2 i (by omega)
    have b2 := hI'.2.2.2.2.2.2.2.2.2 ((i + j) % f 0) (by rw [← e]; exact Nat.mod_lt _ (by omega))
    unfold allN tuP at q
    refine bf (nI_ge (by omega) (by omega)) ?_
    rw [nI_add]
    have fin : ∀ c, c = (i + j) % f 0 → wp_X7_get (k + 1) (nI i) h (fun r5 h4 => wp_X7_get (k' + 1) (nI c) h4 (fun r7 h6 => ((r5 = r7) → ∀ x9 : Int32, x9 = nI i + 1 → wp_X0_isTurned_b2 k k' (nI j) Q (d + 1) x9 h6) ∧ ((¬ (r5 = r7)) → Q 0 h6))) := by
      rintro c rfl
      refine Lo_get hR hI (by omega) (Lo_get hR' hI' (by rw [← e]; exact Nat.mod_lt _ (by omega)) ?_)
      rw [nI_eq (by omega) (by omega)]
      by_cases e3 : f (12 + i) = g (12 + (i + j) % f 0)
      · refine bt e3 ?_
        rintro x rfl
        rw [nI_1]
        refine ih _ (by omega) ?_
        unfold tuP
        simpa [e3] using q
      · exact bf e3 (by simpa [e3, bi] using q)
    by_cases e2 : f 0 ≤ i + j
    · refine bt (nI_le (by omega) (by omega)) ?_
      rintro x rfl
      rw [pk_sub e2]
      refine fin _ ?_
      rw [Nat.mod_eq_sub_mod e2, Nat.mod_eq_of_lt (by omega)]
    · refine bf (nI_ge (by omega) (by omega)) ?_
      rintro x rfl
      refine fin _ ?_
      rw [Nat.mod_eq_of_lt (by omega)]
end
/-! what is done to a loop -/
def jnN (f g : Nat → Nat) (a b : Nat) : Nat → Nat := fun j => if j = 3 then 0 else if j = 0 then f 0 + b - a else if j = 5 then f 5 + 1 else if j = 6 + f 5 then b - a else if 12 + f 0 ≤ j ∧ j < 12 + f 0 + b - a then g (1 + (j + a - 12 - f 0)) else f j
def toN (f : Nat → Nat) : Nat → Nat := ufn (ufn (ufn f 5 (f 5 - 1)) 0 (f 0 - f (6 + (f 5 - 1)))) 3 0
def spN (f : Nat → Nat) (p q : Nat) : Nat → Nat := ufn (ufn (ufn f 1 p) 2 q) 3 (f 3 / f 2 * q)
def newL : Nat → Nat := ufn (ufn (fun _ => 0) 1 1) 2 1
section
variable {k : Nat} {f : Nat → Nat} {h : PH}
theorem ok_beginL {Q : PH → Prop} (hk : al (k + 1) = 48) (hk2 : al (k + 2) = 6) (q : ∀ h', Fr k 3 h h' → Lo k newL h' → Q h') : wp_X0_begin k h Q := by
  unfold wp_X0_begin
  rintro h1 e1 h2 e2 h3 e3 h4 e4 h5 e5 h6 e6
  refine q h6 ?_ ?_
  · subst e1 e2 e3 e4 e5 e6
    exact (((((Fr.rf.u k 2 _ (by omega)).u k 3 _ (by omega)).u k 4 _ (by omega)).u k 5 _ (by omega)).u k 6 _ (by omega)).u k 7 _ (by omega)
  · subst e1 e2 e3 e4 e5 e6
    refine ⟨hk, hk2, ?_, ?_, ?_, ?_, ?_, ?_, ?_, ?_⟩
    · rw [up2_ne (by decide), up2_ne (by decide), up2_ne (by decide), up2_ne (by decide), up2_ne (by decide), up2_at]; rfl
    · rw [up2_ne (by decide), up2_ne (by decide), up2_ne (by decide), up2_ne (by decide), up2_at]; rfl
    · rw [up2_ne (by decide), up2_ne (by decide), up2_ne (by decide), up2_at]; rfl
    · rw [up2_ne (by decide), up2_ne (by decide), up2_at]; rfl
    · rw [up2_ne (by decide), up2_at]; rfl
    · rw [up2_at]; rfl
    · intro c hc; exact absurd hc (Nat.not_lt_zero c)
    · intro c hc; exact absurd hc (Nat.not_lt_zero c)
theorem ok_copyLoop {Q : PH → Prop} {k' : Nat} (hk : al (k + 1) = 48) (hk2 : al (k + 2) = 6) (hR : Lo k' f h) (hI : IL f) (hd : k' + 2 < k ∨ k + 2 < k') (q : ∀ h', Fr k 3 h h' → Lo k f h' → Q h') : wp_X0_copyFrom k k' h Q := by
  unfold wp_X0_copyFrom
  obtain ⟨x1, x2, x3, x4, x5, x6, x7, x8, x9, x10⟩ := hR
  rw [x3]
  refine ok_copyRow x1 hk (by decide) hI.1 ?_
  intro h1 F1 c1
  have e1 : h1 k' = h k' := F1 k' (by omega)
  rw [e1, x4]
  refine ok_copyRow x2 hk2 (by decide) hI.2.2.2.2.1 ?_
  intro h2 F2 c2
  have e2 : h2 k' = h k' := (F2 k' (by omega)).trans e1
  rintro h3 e3 h4 e4 h5 e5 h6 e6 h7 e7
  have n : ∀ (g : PH) j x, up2 g k j x k' = g k' := fun g j x => up2_o k' (by omega)
  have y3 : h3 k' = h k' := by rw [e3, n, e2]
  have y4 : h4 k' = h k' := by rw [e4, n, y3]
  have y5 : h5 k' = h k' := by rw [e5, n, y4]
  have y6 : h6 k' = h k' := by rw [e6, n, y5]
  have y7 : h7 k' = h k' := by rw [e7, n, y6]
  rw [e2, x3] at e3
  rw [y3, x4] at e4
  rw [y4, x5] at e5
  rw [y5, x6] at e6
  rw [y6, x7] at e7
  rw [y7, x8]
  have h4b := hI.2.2.2.1
  refine ⟨?_, ?_⟩
  · rw [z0 (by omega), z1 (by omega)]; omega
  rintro h9 e9
  subst e3 e4 e5 e6 e7 e9
  refine q _ (((((((F1.sub (by omega) (by omega)).tr (F2.sub (by omega) (by omega))).u k 2 _ (by omega)).u k 3 _ (by omega)).u k 4 _ (by omega)).u k 5 _ (by omega)).u k 6 _ (by omega) |>.u k 7 _ (by omega)) ⟨hk, hk2, ?_, ?_, ?_, ?_, ?_, ?_, ?_, ?_⟩
  · rw [up2_ne (by decide), up2_ne (by decide), up2_ne (by decide), up2_ne (by decide), up2_ne (by decide), up2_at]
  · rw [up2_ne (by decide), up2_ne (by decide), up2_ne (by decide), up2_ne (by decide), up2_at]
  · rw [up2_ne (by decide), up2_ne (by decide), up2_ne (by decide), up2_at]
  · rw [up2_ne (by decide), up2_ne (by decide), up2_at]
  · rw [up2_ne (by decide), up2_at]
  · rw [up2_at]
  · intro c hc
    rw [up2_o _ (by omega), up2_o _ (by omega), up2_o _ (by omega), up2_o _ (by omega), up2_o _ (by omega), up2_o _ (by omega), F2 (k + 1) (by omega), c1 c hc, x9 c hc]
  · intro c hc
    rw [up2_o _ (by omega), up2_o _ (by omega), up2_o _ (by omega), up2_o _ (by omega), up2_o _ (by omega), up2_o _ (by omega), c2 c hc, F1 (k' + 2) (by omega), x10 c hc]
theorem ok_takeOff {Q : Int32 → PH → Prop} (hR : Lo k f h) (hI : IL f) (h5 : 0 < f 5) (hp : f (6 + (f 5 - 1)) ≤ f 0) (q : ∀ h', Fr k 3 h h' → Lo k (toN f) h' → Q (nI (toN f 0)) h') : wp_X0_takeOff k h Q := by
  unfold wp_X0_takeOff
  obtain ⟨x1, x2, x3, x4, x5, x6, x7, x8, x9, x10⟩ := hR
  have b5 := hI.2.2.2.2.1
  obtain ⟨m, hm⟩ : ∃ m, f 5 = m + 1 := ⟨f 5 - 1, by omega⟩
  have em : f 5 - 1 = m := by omega
  rw [em] at hp
  rintro h1 e1
  have e1' : h1 = up2 h k 3 (nI m) := by rw [e1, x4, hm, nI_pred]
  have r3 : h1 k 3 = nI m := by rw [e1']; exact up2_at
  have r2 : h1 k 2 = nI (f 0) := by rw [e1', up2_ne (by decide)]; exact x3
  rw [r3, r2]
  refine get_in x2 (by decide) (by omega) ?_
  rw [e1', up2_o (k + 2) (by omega), x10 m (by omega), pk_sub hp]
  rintro h4 rfl h5 rfl
  have tz : toN f 0 = f 0 - f (6 + m) := by unfold toN; rw [ufn_n (by decide), ufn_s, em]
  rw [up2_ne (by decide), up2_at, ← tz]
  refine q _ (((Fr.rf.u k 3 _ (by omega)).u k 2 _ (by omega)).u k 6 _ (by omega)) ⟨x1, x2, ?_, ?_, ?_, ?_, ?_, ?_, ?_, ?_⟩
  · rw [up2_ne (by decide), up2_at]
  · rw [up2_ne (by decide), up2_ne (by decide), up2_at]; unfold toN; rw [ufn_n (by decide), ufn_n (by decide), ufn_s, em]
  · rw [up2_ne (by decide), up2_ne (by decide), up2_ne (by decide), x5]; rfl
  · rw [up2_ne (by decide), up2_ne (by decide), up2_ne (by decide), x6]; rfl
  · rw [up2_at]; rfl
  · rw [up2_ne (by decide), up2_ne (by decide), up2_ne (by decide), x8]; rfl
  · intro c hc
    rw [up2_o _ (by omega), up2_o _ (by omega), up2_o _ (by omega), x9 c (by rw [tz] at hc; omega)]
    unfold toN; rw [ufn_n (by omega), ufn_n (by omega), ufn_n (by omega)]
  · intro c hc
    have t5 : toN f 5 = m := by unfold toN; rw [ufn_n (by decide), ufn_n (by decide), ufn_s, em]
    rw [up2_o _ (by omega), up2_o _ (by omega), up2_o _ (by omega), x10 c (by omega)]
    unfold toN; rw [ufn_n (by omega), ufn_n (by omega), ufn_n (by omega)]
theorem ok_changeSpeed {Q : Int32 → PH → Prop} {p s : Nat} (hR : Lo k f h) (hI : IL f) (hs : s ≤ 9) (q : ∀ h', Fr k 3 h h' → Lo k (spN f p s) h' → Q (nI (f 3 / f 2 * s)) h') : wp_X0_changeSpeed k (nI p) (nI s) h Q := by
  unfold wp_X0_changeSpeed
  have fin : ∀ v, v = f 3 / f 2 * s → (∀ h9 : PH, h9 = up2 h k 6 (nI v) → ∀ h10 : PH, h10 = up2 h9 k 4 (nI p) → ∀ h11 : PH, h11 = up2 h10 k 5 (nI s) → Q (h11 k 6) h11) := by
    rintro v rfl h9 rfl h10 rfl h11 rfl
    obtain ⟨x1, x2, x3, x4, x5, x6, x7, x8, x9, x10⟩ := hR
    rw [up2_ne (by decide), up2_ne (by decide), up2_at]
    refine q _ (((Fr.rf.u k 6 _ (by omega)).u k 4 _ (by omega)).u k 5 _ (by omega)) ⟨x1, x2, ?_, ?_, ?_, ?_, ?_, ?_, ?_, ?_⟩
    · rw [up2_ne (by decide), up2_ne (by decide), up2_ne (by decide), x3]; rfl
    · rw [up2_ne (by decide), up2_ne (by decide), up2_ne (by decide), x4]; rfl
    · rw [up2_ne (by decide), up2_at]; rfl
    · rw [up2_at]; rfl
    · rw [up2_ne (by decide), up2_ne (by decide), up2_at]; rfl
    · rw [up2_ne (by decide), up2_ne (by decide), up2_ne (by decide), x8]; rfl
    · intro c hc
      rw [up2_o _ (by omega), up2_o _ (by omega), up2_o _ (by omega), x9 c hc]
      unfold spN; rw [ufn_n (by omega), ufn_n (by omega), ufn_n (by omega)]
    · intro c hc
      rw [up2_o _ (by omega), up2_o _ (by omega), up2_o _ (by omega), x10 c hc]
      unfold spN; rw [ufn_n (by omega), ufn_n (by omega), ufn_n (by omega)]
  refine ok_isEmpty hR hI ?_
  by_cases e : f 0 = 0
  · have e3 := hI.2.2.2.2.2.1 e
    refine bf (by simp [e, bi]) ?_
    rw [li_0]
    refine fin 0 ?_
    rw [e3, Nat.zero_div, Nat.zero_mul]
  · refine bt (by simp [e, bi]) ?_
    rw [hR.2.2.2.2.2.2.1]
    refine ok_headIn hR hI hI.ph ?_
    rw [if_neg e, pk_mul]
    exact fin _ rfl
theorem ok_join {Q : PH → Prop} {kr a b : Nat} {g : Nat → Nat} (hR : Lo k f h) (hI : IL f) (hG : Re kr g h) (hGI : IR g) (hd : kr + 1 < k ∨ k + 2 < kr) (hab : a < b) (hb : b ≤ g 0) (h48 : f 0 + b - a ≤ 48) (h5 : f 5 < 6) (q : ∀ h', Fr k 3 h h' → Lo k (jnN f g a b) h' → Q h') : wp_X0_join k kr (nI a) (nI b) h Q := by
  have g60 := hGI.1
  refine ⟨b - a + 1, ?_⟩
  suffices H : ∀ d i h', a ≤ i → i + d = b → Fr k 3 h h' → h' k = h k → h' (k + 2) = h (k + 2) → (∀ c, c < f 0 → h' (k + 1) c = nI (f (12 + c))) → (∀ c, c < i - a → h' (k + 1) (f 0 + c) = nI (g (1 + (a + c)))) → wp_X0_join_b3 k kr (nI a) (nI b) Q (d + 1) (nI i) h' by
    refine H (b - a) a h (by omega) (by omega) Fr.rf rfl rfl hR.2.2.2.2.2.2.2.2.1 ?_
    intro c hc; omega
  intro d
  induction d with
  | zero =>
    intro i h' hi hid hF hk hk2 c1 c2
    obtain ⟨x1, x2, x3, x4, x5, x6, x7, x8, x9, x10⟩ := hR
    unfold wp_X0_join_b3
    refine bt (nI_le (by omega) (by omega)) ?_
    rw [hk, x4, pk_sub (by omega)]
    refine put_in x2 (by decide) (by omega) ?_
    rintro h3 rfl h4 rfl h5 rfl
    have y2 : up2 h' (k + 2) (f 5) (nI (b - a)) k = h k := by rw [up2_o k (by omega), hk]
    rw [y2, x3, nI_add, up2_ne (by decide), y2, x4, nI_1]
    refine q _ ((((hF.u (k + 2) _ _ (by omega)).u k 2 _ (by omega)).u k 3 _ (by omega)).u k 6 _ (by omega)) ⟨x1, x2, ?_, ?_, ?_, ?_, ?_, ?_, ?_, ?_⟩
    · rw [up2_ne (by decide), up2_ne (by decide), up2_at]
      unfold jnN
      rw [if_neg (by decide), if_pos rfl]
      congr 1
      omega
    · rw [up2_ne (by decide), up2_at]; unfold jnN; rw [if_neg (by decide), if_neg (by decide), if_pos rfl]
    · rw [up2_ne (by decide), up2_ne (by decide), up2_ne (by decide), y2, x5]; unfold jnN; rw [if_neg (by decide), if_neg (by decide), if_neg (by decide), if_neg (by omega), if_neg (by omega)]
    · rw [up2_ne (by decide), up2_ne (by decide), up2_ne (by decide), y2, x6]; unfold jnN; rw [if_neg (by decide), if_neg (by decide), if_neg (by decide), if_neg (by omega), if_neg (by omega)]
    · rw [up2_at]; rfl
    · rw [up2_ne (by decide), up2_ne (by decide), up2_ne (by decide), y2, x8]; unfold jnN; rw [if_neg (by decide), if_neg (by decide), if_neg (by decide), if_neg (by omega), if_neg (by omega)]
    · intro c hc
      have j0 : jnN f g a b 0 = f 0 + b - a := rfl
      rw [j0] at hc
      rw [up2_o _ (by omega), up2_o _ (by omega), up2_o _ (by omega), up2_o _ (by omega)]
      unfold jnN
      rw [if_neg (by omega), if_neg (by omega), if_neg (by omega), if_neg (by omega)]
      rcases Nat.lt_or_ge c (f 0) with l | l
      · rw [if_neg (by omega)]; exact c1 c l
      · rw [if_pos (by omega)]
        have := c2 (c - f 0) (by omega)
        rw [show f 0 + (c - f 0) = c by omega] at this
        rw [this]
        congr 2
        omega
    · intro c hc
      have j5 : jnN f g a b 5 = f 5 + 1 := rfl
      rw [j5] at hc
      rw [up2_o _ (by omega), up2_o _ (by omega), up2_o _ (by omega)]
      unfold jnN
      rw [if_neg (by omega), if_neg (by omega), if_neg (by omega)]
      by_cases e : c = f 5
      · subst e; rw [up2_at, if_pos rfl]
      · rw [up2_ne e, if_neg (by omega), if_neg (by omega), hk2]
        exact x10 c (by omega)
  | succ d ih =>
    intro i h' hi hid hF hk hk2 c1 c2
    unfold wp_X0_join_b3
    have hG' : Re kr g h' := hG.fr hF (by omega)
    refine bf (nI_ge (by omega) (by omega)) (Re_get hG' hGI (by omega) ?_)
    rw [hk, hR.2.2.1, nI_add, pk_sub (by omega)]
    refine put_in hR.1 (by decide) (by omega) ?_
    rintro x rfl
    rw [nI_1]
    refine ih _ _ (by omega) (by omega) (hF.u (k + 1) _ _ (by omega)) ?_ ?_ ?_ ?_
    · rw [up2_o k (by omega), hk]
    · rw [up2_o _ (by omega), hk2]
    · intro c hc; rw [up2_ne (by omega)]; exact c1 c hc
    · intro c hc
      by_cases e : f 0 + c = f 0 + i - a
      · rw [e, up2_at]
        congr 2
        omega
      · rw [up2_ne e]; exact c2 c (by omega)
end

