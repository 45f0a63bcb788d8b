
def mtN (f g : Nat → Nat) : Int32 := if f 0 = 0 ∨ g 0 = 0 then -1 else match zfO f 1 (perN f) 0 with
  | none => -1
  | some t => oI (zfO g (perN f) (perN g) t)
theorem tI {x y : Int32} (h : x.toInt = y.toInt) : x = y := Int32.toInt_inj.mp h
theorem sub_I {a b : Nat} (ha : a < 2 ^ 30) (hb : b < 2 ^ 30) : (nI a - nI b).toInt = (a : Int) - b := pk_sub_toInt ha hb
theorem sub_neg {a b : Nat} (hb : b < 2 ^ 30) (h : a < b) : nI a - nI b = -(nI (b - a)) := by
  apply tI
  rw [sub_I (by omega) hb, Jvm.Kit.i32_neg (by rw [nI_toInt (by omega)]; omega), nI_toInt (by omega)]
  omega
theorem div_neg {a d : Nat} (ha : a < 2 ^ 30) (hd : d < 2 ^ 30) : -(nI a) / nI d = -(nI (a / d)) := by
  have h1 : a / d ≤ a := Nat.div_le_self _ _
  have e : (-(nI a)).toInt = -(a : Int) := by rw [Jvm.Kit.i32_neg (by rw [nI_toInt (by omega)]; omega), nI_toInt (by omega)]
  apply tI
  have key : ∀ x, x ≤ a → (-(nI x)).toInt = -(x : Int) := fun x hx => by rw [Jvm.Kit.i32_neg (by rw [nI_toInt (by omega)]; omega), nI_toInt (by omega)]
  rw [Jvm.Kit.i32_div (fun z => by have z1 := z.1; rw [e] at z1; omega), e, key _ h1, nI_toInt (by omega)]
  rw [Int.neg_tdiv, Int.ofNat_tdiv]
theorem rem_neg {a d : Nat} (ha : a < 2 ^ 30) (hd : d < 2 ^ 30) (h0 : 0 < d) : jirem (-(nI a)) (nI d) = -(nI (a % d)) := by
  have h1 : a % d < d := Nat.mod_lt _ h0
  have e : (-(nI a)).toInt = -(a : Int) := by rw [Jvm.Kit.i32_neg (by rw [nI_toInt (by omega)]; omega), nI_toInt (by omega)]
  apply tI
  unfold jirem
  rw [rem_toInt, e, Jvm.Kit.i32_neg (by rw [nI_toInt (by omega)]; omega), nI_toInt (by omega), nI_toInt (by omega)]
  rw [Int.neg_tmod, Int.ofNat_tmod]
theorem neg_0 {a : Nat} (ha : a < 2 ^ 30) : (-(nI a) = 0) = (a = 0) := by
  refine propext ⟨fun h => ?_, fun h => by rw [h]; decide⟩
  have := congrArg Int32.toInt h
  rw [Jvm.Kit.i32_neg (by rw [nI_toInt (by omega)]; omega), nI_toInt (by omega)] at this
  have e : (0 : Int32).toInt = 0 := by decide
  omega
theorem neg_add {a b : Nat} (ha : a ≤ b) (hb : b < 2 ^ 30) : -(nI a) + nI b = nI (b - a) := by
  apply tI
  have e : (-(nI a)).toInt = -(a : Int) := by rw [Jvm.Kit.i32_neg (by rw [nI_toInt (by omega)]; omega), nI_toInt (by omega)]
  rw [Jvm.Kit.i32_add (by rw [e, nI_toInt (by omega)]; omega) (by rw [e, nI_toInt (by omega)]; omega), e, nI_toInt (by omega), nI_toInt (by omega)]
  omega
theorem neg_xor {a r : Nat} (h0 : 0 < a) (ha : a < 2 ^ 30) (hr : r < 2 ^ 30) : ¬ (0 : Int32) ≤ (-(nI a)) ^^^ nI r := by
  have e : (-(nI a)).toInt = -(a : Int) := by rw [Jvm.Kit.i32_neg (by rw [nI_toInt (by omega)]; omega), nI_toInt (by omega)]
  intro h
  have h' := Int32.le_iff_toInt_le.mp h
  have z : (0 : Int32).toInt = 0 := by decide
  rw [z] at h'
  have m1 : (-(nI a)).toBitVec.msb = true := by
    have : (-(nI a)).toInt = (-(nI a)).toBitVec.toInt := rfl
    rw [this, BitVec.toInt_eq_toNat_cond] at e
    have hb := (-(nI a)).toBitVec.isLt
    rw [BitVec.msb_eq_decide]
    by_cases c : 2 * (-(nI a)).toBitVec.toNat < 2 ^ 32
    · rw [if_pos c] at e; omega
    · exact decide_eq_true (show 2 ^ 31 ≤ (-(nI a)).toBitVec.toNat by omega)
  have m2 : (nI r).toBitVec.msb = false := by
    rw [BitVec.msb_eq_decide, pk_tn (by omega)]
    exact decide_eq_false (show ¬ 2 ^ 31 ≤ r by omega)
  have m3 : ((-(nI a)) ^^^ nI r).toBitVec.msb = true := by
    rw [Int32.toBitVec_xor, BitVec.msb_xor, m1, m2]; rfl
  have : ((-(nI a)) ^^^ nI r).toInt = ((-(nI a)) ^^^ nI r).toBitVec.toInt := rfl
  rw [this, BitVec.toInt_eq_toNat_cond] at h'
  rw [BitVec.msb_eq_decide] at m3
  have hb := ((-(nI a)) ^^^ nI r).toBitVec.isLt
  have m4 : 2 ^ 31 ≤ ((-(nI a)) ^^^ nI r).toBitVec.toNat := of_decide_eq_true m3
  by_cases c : 2 * ((-(nI a)) ^^^ nI r).toBitVec.toNat < 2 ^ 32
  · omega
  · rw [if_neg c] at h'; omega
theorem ok_floorMod_p {a r : Nat} {h : PH} {Q : Int32 → PH → Prop} (ha : a < 2 ^ 30) (hr : r < 2 ^ 30) (h0 : 0 < r) (q : Q (nI (a % r)) h) : wp_J9_floorMod_7cf53 (nI a) (nI r) h Q := by
  unfold wp_J9_floorMod_7cf53
  refine ⟨by rw [z0 (by omega)]; omega, ?_⟩
  rintro x rfl
  rw [jirem_n (by omega) h0 (by omega)]
  refine bt ?_ q
  rw [fb_xorI]
  exact nI_pos' (Nat.xor_lt_two_pow (by omega) (by omega))
theorem ok_floorMod_n {a r : Nat} {h : PH} {Q : Int32 → PH → Prop} (ha : a < 2 ^ 30) (hr : r < 2 ^ 30) (h0 : 0 < r) (hp : 0 < a) (q : Q (nI (if a % r = 0 then 0 else r - a % r)) h) : wp_J9_floorMod_7cf53 (-(nI a)) (nI r) h Q := by
  unfold wp_J9_floorMod_7cf53
  have hm := Nat.mod_lt a h0
  refine ⟨by rw [z0 (by omega)]; omega, ?_⟩
  rintro x rfl
  rw [rem_neg ha hr h0]
  refine bf (neg_xor hp ha hr) ?_
  rw [neg_0 (by omega)]
  by_cases e : a % r = 0
  · rw [if_pos e] at q
    refine bt e ?_
    rw [e]
    exact q
  · rw [if_neg e] at q
    refine bf e ?_
    rw [neg_add (by omega) hr]
    exact q
theorem ok_inverse {s m : Nat} {h : PH} {Q : Int32 → PH → Prop} (hs : s < 1000) (hm : m < 1000) (q : ∀ v, ((1 ≤ v ∧ v < m ∧ s * v % m = 1) ∨ (v = 0 ∧ ∀ x, 1 ≤ x → x < m → s * x % m ≠ 1)) → Q (nI v) h) : wp_X1_inverse (nI s) (nI m) h Q := by
  refine ⟨m + 1, ?_⟩
  suffices H : ∀ d i, 1 ≤ i → (i + d = m ∨ (m = 0 ∧ i = 1 ∧ d = 0)) → (∀ x, 1 ≤ x → x < i → s * x % m ≠ 1) → wp_X1_inverse_b2 (nI s) (nI m) Q (d + 1) (nI i) h by
    rcases Nat.eq_zero_or_pos m with e | e
    · subst e
      exact H 0 1 (by omega) (Or.inr ⟨rfl, rfl, rfl⟩) (fun x h1 h2 => by omega)
    · have := H (m - 1) 1 (by omega) (Or.inl (by omega)) (fun x h1 h2 => by omega)
      rw [show m + 1 = (m - 1 + 1) + 1 by omega]
      have mono : ∀ n i, wp_X1_inverse_b2 (nI s) (nI m) Q n i h → wp_X1_inverse_b2 (nI s) (nI m) Q (n + 1) i h := by
        intro n
        induction n with
        | zero => intro i hh; exact hh.elim
        | succ n ih =>
          intro i hh
          unfold wp_X1_inverse_b2 at hh ⊢
          exact ⟨hh.1, fun z => ⟨(hh.2 z).1, fun z2 x4 ex => ih _ (((hh.2 z).2).1 z2 x4 ex), ((hh.2 z).2).2⟩⟩
      exact mono _ _ this
  intro d
  induction d with
  | zero =>
    intro i h1 hi hn
    unfold wp_X1_inverse_b2
    exact bt (nI_le (by omega) (by omega)) (q 0 (Or.inr ⟨rfl, fun x hx1 hx2 => hn x hx1 (by omega)⟩))
  | succ d ih =>
    intro i h1 hi hn
    unfold wp_X1_inverse_b2
    have hi' : i + (d + 1) = m := by omega
    have sm : s * i ≤ 1000 * 1000 := Nat.mul_le_mul (by omega) (by omega)
    refine bf (nI_ge (by omega) (by omega)) ⟨by rw [z0 (by omega)]; omega, ?_⟩
    have hlt := Nat.mod_lt (s * i) (by omega : 0 < m)
    rw [pk_mul, jirem_n (by omega) (by omega) (by omega), z1 (by omega)]
    by_cases e : s * i % m = 1
    · exact bt' e (q i (Or.inl ⟨h1, by omega, e⟩))
    · refine bf' e ?_
      rintro x rfl
      rw [nI_1]
      refine ih (i + 1) (by omega) (Or.inl (by omega)) (fun x hx1 hx2 => ?_)
      by_cases ex : x = i
      · rw [ex]; exact e
      · exact hn x hx1 (by omega)
/-- Euclid ends also where a loop has no period -/
theorem gcd_any {a b : Int32} {h : PH} {Q : Int64 → PH → Prop} (ha : a = -1 ∨ ∃ n, n ≤ 432 ∧ a = nI n) (hb : b = -1 ∨ ∃ n, n ≤ 432 ∧ b = nI n) (hab : a = -1 ∨ b = -1) (q : ∀ r, Q r h) : wp_X1_greatestDivisor (a.toInt64) (b.toInt64) h Q := by
  have T : ∀ p, p < 433 → 0 < p → (jlrem (-1) (lN p) = 0 ∨ jlrem (-1) (lN p) = -1) ∧ jlrem (lN p) (-1) = 0 := by
    have D : (List.range 433).all (fun p => p == 0 || ((jlrem (-1) (lN p) == 0 || jlrem (-1) (lN p) == -1) && jlrem (lN p) (-1) == 0)) = true := by decide +kernel
    intro p hp h0
    have := List.all_eq_true.mp D p (List.mem_range.mpr hp)
    simp only [Bool.or_eq_true, Bool.and_eq_true, beq_iff_eq] at this
    rcases this with e | ⟨e1, e2⟩
    · omega
    · exact ⟨e1, e2⟩
  have T0 : jlrem (-1) (-1) = 0 := by decide
  have T1 : jlrem 0 (-1) = 0 := by decide
  have m1 : (-1 : Int32).toInt64 = -1 := by decide
  have stop : ∀ n x i, i ≤ 80 → wp_X1_greatestDivisor_b9 Q (n + 1) x 0 (nI i) h := by
    intro n x i hi
    unfold wp_X1_greatestDivisor_b9
    have e : (200 : Int32) = nI 200 := rfl
    rw [e]
    exact bf (nI_ge (by omega) (by omega)) (bt (by rw [lg_cmp_eq]) (q _))
  have step : ∀ n x y i, i ≤ 80 → ¬ y = 0 → wp_X1_greatestDivisor_b9 Q n y (jlrem x y) (nI (i + 1)) h → wp_X1_greatestDivisor_b9 Q (n + 1) x y (nI i) h := by
    intro n x y i hi nz q
    unfold wp_X1_greatestDivisor_b9
    have e : (200 : Int32) = nI 200 := rfl
    rw [e]
    refine bf (nI_ge (by omega) (by omega)) (bf (by rw [lg_cmp_eq]; exact nz) ⟨nz, ?_⟩)
    rintro x rfl y rfl
    rw [nI_1]
    exact q
  refine ⟨4, ?_⟩
  rcases hb with rfl | ⟨n, hn, rfl⟩
  · rw [m1]
    refine step 3 _ _ 0 (by omega) (by decide) ?_
    rcases ha with rfl | ⟨m, hm, rfl⟩
    · rw [m1, T0]; exact stop _ _ _ (by omega)
    · rw [nI_l (by omega)]
      rcases Nat.eq_zero_or_pos m with rfl | hp
      · rw [← lL0, T1]; exact stop _ _ _ (by omega)
      · rw [(T m (by omega) hp).2]; exact stop _ _ _ (by omega)
  · have ha' : a = -1 := by
      rcases hab with e | e
      · exact e
      · have := zm (a := n) (by omega)
        rw [e] at this
        exact this.mp rfl |>.elim
    subst ha'
    rw [m1, nI_l (by omega)]
    rcases Nat.eq_zero_or_pos n with rfl | hp
    · exact stop 3 _ 0 (by omega)
    · refine step 3 _ _ 0 (by omega) (by rw [lL0, pk_lEQ (by omega) (by omega)]; omega) ?_
      rcases (T n (by omega) hp).1 with e | e
      · rw [e]; exact stop _ _ _ (by omega)
      · rw [e]
        refine step 2 _ _ 1 (by omega) (by decide) ?_
        rw [(T n (by omega) hp).2]; exact stop _ _ _ (by omega)
section
variable {k k' : Nat} {f g : Nat → Nat} {h : PH} {Q : Int32 → PH → Prop}
theorem oI_m {o : Option Nat} (hb : ∀ t, o = some t → t ≤ 1000000) : (oI o = -1) = (o = none) := by
  cases o with
  | none => exact propext ⟨fun _ => rfl, fun _ => rfl⟩
  | some t =>
    have := hb t rfl
    show (nI t = -1) = _
    rw [zm (by omega)]
    exact propext ⟨fun z => z.elim, fun z => nomatch z⟩
theorem ok_byGoing (hR : Lo k f h) (hI : IL f) (hR' : Lo k' g h) (hI' : IL g) (q : Q (mtN f g) h) : wp_X1_byGoing k k' h Q := by
  unfold wp_X1_byGoing
  have lP := hI.per
  refine ok_zeroFrom (t0 := 0) (step := 1) hR hI (by omega) (by omega) ?_
  unfold mtN at q
  by_cases e : f 0 = 0
  · rw [if_pos e]
    rw [if_pos (Or.inl e)] at q
    exact bt' rfl q
  · rw [if_neg e]
    cases ez : zfO f 1 (perN f) 0 with
    | none =>
      rw [ez] at q
      refine bt' rfl ?_
      by_cases e2 : f 0 = 0 ∨ g 0 = 0
      · rw [if_pos e2] at q; exact q
      · rw [if_neg e2] at q; exact q
    | some t =>
      rw [ez] at q
      obtain ⟨_, ht, _⟩ := zf_is _ _ ez
      refine bf' (by show ¬ nI t = -1; rw [zm (by omega)]; exact not_false) (ok_period hR hI ?_)
      rw [if_neg e]
      show wp_X0_zeroFrom k' ((nI t).toInt64) ((nI (perN f)).toInt64) h _
      rw [nI_l (by omega), nI_l (by omega)]
      refine ok_zeroFrom hR' hI' ht (by omega) ?_
      by_cases e2 : g 0 = 0
      · rw [if_pos e2]; rw [if_pos (Or.inr e2)] at q; exact q
      · rw [if_neg e2]; rw [if_neg (by omega)] at q; exact q
theorem ok_byDivisor (hR : Lo k f h) (hI : IL f) (hR' : Lo k' g h) (hI' : IL g) (q : Q (mtN f g) h) : wp_X1_byDivisor k k' h Q := by
  unfold wp_X1_byDivisor
  have lP := hI.per
  have lR := hI'.per
  refine ok_zeroFrom (t0 := 0) (step := 1) hR hI (by omega) (by omega) (ok_zeroFrom (t0 := 0) (step := 1) hR' hI' (by omega) (by omega) (ok_period hR hI (ok_period hR' hI' ?_)))
  by_cases e : f 0 = 0 ∨ g 0 = 0
  · unfold mtN at q
    rw [if_pos e] at q
    refine gcd_any ?_ ?_ ?_ (fun r => ?_)
    · by_cases e1 : f 0 = 0
      · rw [if_pos e1]; exact Or.inl rfl
      · rw [if_neg e1]; exact Or.inr ⟨_, lP, rfl⟩
    · by_cases e1 : g 0 = 0
      · rw [if_pos e1]; exact Or.inl rfl
      · rw [if_neg e1]; exact Or.inr ⟨_, lR, rfl⟩
    · rcases e with e | e
      · exact Or.inl (if_pos e)
      · exact Or.inr (if_pos e)
    · rintro x rfl
      by_cases e1 : f 0 = 0
      · rw [if_pos e1]; exact bt rfl q
      · rw [if_neg e1]
        have e2 : g 0 = 0 := by omega
        rw [if_pos e2, oI_m (fun t ht => (zf_is _ _ ht).2.1)]
        by_cases e3 : zfO f 1 (perN f) 0 = none
        · exact bt e3 q
        · exact bf e3 (bt rfl q)
  · have f0 : 0 < f 0 := by omega
    have g0 : 0 < g 0 := by omega
    rw [if_neg (by omega), if_neg (by omega), if_neg (by omega), if_neg (by omega)]
    unfold mtN at q
    rw [if_neg e] at q
    have pP := hI.perp f0
    have pR := hI'.perp g0
    have hd : 0 < Nat.gcd (perN f) (perN g) := Nat.gcd_pos_of_pos_left _ pP
    have dle : Nat.gcd (perN f) (perN g) ≤ perN f := Nat.gcd_le_left _ pP
    rw [nI_l (by omega), nI_l (by omega)]
    refine ok_gcd (m := 9) (by omega) (by omega) (by omega) ?_
    rintro x rfl
    rw [lN_i, oI_m (fun t ht => (zf_is _ _ ht).2.1), oI_m (fun t ht => (zf_is _ _ ht).2.1)]
    cases ez : zfO f 1 (perN f) 0 with
    | none => rw [ez] at q; exact bt rfl q
    | some t1 =>
      rw [ez] at q
      refine bf (by simp) ?_
      cases ez2 : zfO g 1 (perN g) 0 with
      | none =>
        refine bt rfl ?_
        have : zfO g (perN f) (perN g) t1 = none := zf_no _ _ (fun j _ => zf_none hI' g0 ez2 _)
        have q' : Q (oI (zfO g (perN f) (perN g) t1)) h := q
        rw [this] at q'
        exact q'
      | some t2 =>
        obtain ⟨hz1, ht1, j1, hj1, ej1⟩ := zf_is _ _ ez
        obtain ⟨hz2, ht2, j2, hj2, ej2⟩ := zf_is _ _ ez2
        have l1 : t1 < perN f := by omega
        have l2 : t2 < perN g := by omega
        refine bf (by simp) ?_
        rw [show oI (some t2) = nI t2 from rfl, show oI (some t1) = nI t1 from rfl]
        have q' : Q (oI (zfO g (perN f) (perN g) t1)) h := q
        obtain ⟨P, R, hP, hR2, hc⟩ := cop_div hd
        have crt' := @crt f g hI hI' f0 g0 t1 t2
        have crtn := @crt_no f g hI' g0 t1 t2 hz2
        have dleR : Nat.gcd (perN f) (perN g) ≤ perN g := Nat.gcd_le_right _ pR
        generalize hgd : Nat.gcd (perN f) (perN g) = d at *
        have eR : perN g / d = R := by
          have : perN g / d = d * R / d := by rw [← hR2]
          rw [this, Nat.mul_div_cancel_left _ hd]
        have eP : perN f / d = P := by
          have : perN f / d = d * P / d := by rw [← hP]
          rw [this, Nat.mul_div_cancel_left _ hd]
        have R0 : 0 < R := by
          rcases Nat.eq_zero_or_pos R with z | z
          · rw [z, Nat.mul_zero] at hR2; omega
          · exact z
        have Rle : R ≤ perN g := by rw [← eR]; exact Nat.div_le_self _ _
        have Ple : P ≤ perN f := by rw [← eP]; exact Nat.div_le_self _ _
        refine bf (by rw [li_0]; exact nI_ge hd (by omega)) ⟨by rw [z0 (by omega)]; omega, ?_⟩
        have nz : ¬ nI d = 0 := by rw [z0 (by omega)]; omega
        have fin : ∀ y : Int32, (∀ Q' : Int32 → PH → Prop, (∀ L, L < R → (∃ a b, t1 + d * L + perN g * a = t2 + perN g * b) → Q' (nI L) h) → wp_J9_floorMod_7cf53 (y / nI d) (nI R) h Q') → (wp_X0_period k' h (fun r18 h17 => (¬ nI d = 0) ∧ (∀ x20 : Int32, x20 = r18 / nI d → ((0 < x20) → (¬ nI d = 0) ∧ (wp_J9_floorMod_7cf53 (y / nI d) x20 h17 (fun r24 h23 => wp_X0_period k h23 (fun r26 h25 => (¬ nI d = 0) ∧ ((¬ x20 = 0) ∧ (∀ x29 : Int32, x29 = jirem (r26 / nI d) x20 → wp_X0_period k h25 (fun r31 h30 => wp_X1_inverse x29 x20 h30 (fun r33 h32 => (¬ x20 = 0) ∧ (Q (nI t1 + (r31 * (jirem (r24 * r33) x20))) h32))))))))) ∧ ((¬ (0 < x20)) → Q (-1) h17)))) := by
          intro y hy
          refine ok_period hR' hI' ?_
          rw [if_neg (by omega)]
          refine ⟨nz, ?_⟩
          rintro x20 rfl
          rw [pk_div (by omega) hd (by omega), eR]
          refine bt (by rw [li_0]; exact nI_lt R0 (by omega)) ⟨nz, hy _ ?_⟩
          intro L hL hLe
          refine ok_period hR hI ?_
          rw [if_neg (by omega)]
          refine ⟨nz, by rw [z0 (by omega)]; omega, ?_⟩
          rintro x29 rfl
          rw [pk_div (by omega) hd (by omega), eP, jirem_n (by omega) R0 (by omega)]
          refine ok_period hR hI ?_
          rw [if_neg (by omega)]
          have sl := Nat.mod_lt P R0
          refine ok_inverse (by omega) (by omega) (fun v hv => ⟨by rw [z0 (by omega)]; omega, ?_⟩)
          have vl : v < R := by rcases hv with hv | hv <;> omega
          have Lv : L * v ≤ 432 * 432 := Nat.mul_le_mul (by omega) (by omega)
          have ml := Nat.mod_lt (L * v) R0
          rw [pk_mul, jirem_n (by omega) R0 (by omega), pk_mul, nI_add]
          have := crt' (L := L) (v := v) l1 hz2 hLe (by rw [eR]; exact hL) (by
            rw [eR, eP]
            rcases hv with hv | hv
            · exact Or.inr hv.2.2
            · rcases Nat.lt_or_ge 1 R with c | c
              · obtain ⟨x, hx1, hx2, hx3⟩ := inv_ex (s := P % R) (m := R) (by rw [Nat.gcd_comm, ← Nat.gcd_rec, Nat.gcd_comm]; exact hc) c
                exact absurd hx3 (hv.2 x hx1 hx2)
              · exact Or.inl ⟨by omega, hv.1⟩)
          rw [eR] at this
          rw [this] at q'
          exact q'
        by_cases c : t1 ≤ t2
        · rw [pk_sub c]
          have hmod := Nat.mod_lt (t2 - t1) hd
          rw [jirem_n (by omega) hd (by omega), z0 (by omega)]
          by_cases cd : (t2 - t1) % d = 0
          · refine bt cd (fin _ (fun Q' hQ' => ?_))
            rw [pk_div (by omega) hd (by omega)]
            have dl : (t2 - t1) / d ≤ t2 - t1 := Nat.div_le_self _ _
            refine ok_floorMod_p (by omega) (by omega) R0 (hQ' _ (Nat.mod_lt _ R0) ⟨(t2 - t1) / d / R, 0, ?_⟩)
            have k1 := Nat.div_add_mod (t2 - t1) d
            have k2 := Nat.div_add_mod ((t2 - t1) / d) R
            rw [cd] at k1
            have k3 : d * ((t2 - t1) / d) = d * ((t2 - t1) / d % R) + perN g * ((t2 - t1) / d / R) := by
              rw [hR2, Nat.mul_assoc, ← Nat.mul_add, Nat.add_comm, k2]
            omega
          · refine bf cd ?_
            rw [crtn (fun z => cd ?_)] at q'
            · exact q'
            · have : t2 = t1 + (t2 - t1) := by omega
              rw [this] at z
              obtain ⟨w, hw⟩ := Nat.dvd_of_mod_eq_zero (show (t2 - t1) % d = 0 from by
                have k1 := Nat.div_add_mod t1 d
                have k2 := Nat.div_add_mod (t1 + (t2 - t1)) d
                rw [← z] at k2
                refine Nat.mod_eq_zero_of_dvd ?_
                refine (Nat.dvd_add_right (⟨t1 / d, rfl⟩ : d ∣ d * (t1 / d))).mp ?_
                refine ⟨(t1 + (t2 - t1)) / d, ?_⟩
                omega)
              rw [hw, Nat.mul_mod_right]
        · rw [sub_neg (by omega) (by omega)]
          have hmod := Nat.mod_lt (t1 - t2) hd
          rw [rem_neg (by omega) (by omega) hd, neg_0 (by omega)]
          by_cases cd : (t1 - t2) % d = 0
          · refine bt cd (fin _ (fun Q' hQ' => ?_))
            rw [div_neg (by omega) (by omega)]
            have dl : (t1 - t2) / d ≤ t1 - t2 := Nat.div_le_self _ _
            have k1 := Nat.div_add_mod (t1 - t2) d
            rw [cd] at k1
            have dp : 0 < (t1 - t2) / d := by
              rcases Nat.eq_zero_or_pos ((t1 - t2) / d) with z | z
              · rw [z] at k1; omega
              · exact z
            have ml := Nat.mod_lt ((t1 - t2) / d) R0
            refine ok_floorMod_n (by omega) (by omega) R0 dp (hQ' _ (by split <;> omega) ?_)
            have k2 := Nat.div_add_mod ((t1 - t2) / d) R
            generalize (t1 - t2) / d = a at *
            by_cases c0 : a % R = 0
            · rw [if_pos c0]
              refine ⟨0, a / R, ?_⟩
              rw [c0] at k2
              have k3 : d * a = perN g * (a / R) := by rw [hR2, Nat.mul_assoc]; exact (congrArg (fun z => d * z) k2).symm
              omega
            · rw [if_neg c0]
              refine ⟨0, a / R + 1, ?_⟩
              have k3 : d * a + d * (R - a % R) = perN g * (a / R + 1) := by
                rw [hR2, Nat.mul_assoc, ← Nat.mul_add]
                congr 1
                rw [Nat.mul_add, Nat.mul_one]
                omega
              omega
          · refine bf cd ?_
            rw [crtn (fun z => cd ?_)] at q'
            · exact q'
            · have : t1 = t2 + (t1 - t2) := by omega
              rw [this] at z
              refine Nat.mod_eq_zero_of_dvd ?_
              have k1 := Nat.div_add_mod t2 d
              have k2 := Nat.div_add_mod (t2 + (t1 - t2)) d
              rw [z] at k2
              refine (Nat.dvd_add_right (⟨t2 / d, rfl⟩ : d ∣ d * (t2 / d))).mp ?_
              refine ⟨(t2 + (t1 - t2)) / d, ?_⟩
              omega
end

