theorem fb_holes : ∀ (m n : Nat) (f : Nat → Nat), (∀ i, i < n → f i < m) → (∀ i j, i < j → j < n → f i ≠ f j) → n ≤ m := by
  intro m
  induction m with
  | zero =>
    intro n f h1 _
    rcases Nat.eq_zero_or_pos n with h | h
    · omega
    · exact absurd (h1 0 h) (Nat.not_lt_zero _)
  | succ m ih =>
    intro n f h1 h2
    by_cases hx : ∃ i, i < n ∧ f i = m
    · obtain ⟨a, ha, hfa⟩ := hx
      have hg := ih (n - 1) (fun i => if i < a then f i else f (i + 1)) (by
        intro i hi
        by_cases q : i < a
        · simp only [if_pos q]
          have b1 := h1 i (by omega)
          have b2 := h2 i a q ha
          omega
        · simp only [if_neg q]
          have b1 := h1 (i + 1) (by omega)
          have b2 := h2 a (i + 1) (by omega) (by omega)
          omega) (by
        intro i j hij hj
        by_cases q : i < a
        · by_cases r : j < a
          · simp only [if_pos q, if_pos r]
            exact h2 i j hij (by omega)
          · simp only [if_pos q, if_neg r]
            exact h2 i (j + 1) (by omega) (by omega)
        · have r : ¬ j < a := by omega
          simp only [if_neg q, if_neg r]
          exact h2 (i + 1) (j + 1) (by omega) (by omega))
      omega
    · have hg := ih n f (fun i hi => by
        have b1 := h1 i hi
        have b2 : f i ≠ m := fun e => hx ⟨i, hi, e⟩
        omega) h2
      omega
/-- two of them in one place -/
theorem fb_twice {m n : Nat} {f : Nat → Nat} (h : ∀ i, i < n → f i < m) (hm : m < n) : ∃ i j, i < j ∧ j < n ∧ f i = f j := by
  refine Classical.byContradiction fun hx => ?_
  have := fb_holes m n f h (fun i j hij hj e => hx ⟨i, j, hij, hj, e⟩)
  omega
/-- as many as places, none twice: each place is taken -/
theorem fb_onto {n : Nat} {f : Nat → Nat} (h : ∀ i, i < n → f i < n) (h2 : ∀ i j, i < j → j < n → f i ≠ f j) {y : Nat} (hy : y < n) : ∃ i, i < n ∧ f i = y := by
  refine Classical.byContradiction fun hx => ?_
  have hne : ∀ i, i < n → f i ≠ y := fun i hi e => hx ⟨i, hi, e⟩
  have := fb_holes (n - 1) n (fun i => if f i < y then f i else f i - 1) (by
    intro i hi
    have b1 := h i hi
    have b2 := hne i hi
    by_cases q : f i < y
    · simp only [if_pos q]; omega
    · simp only [if_neg q]; omega) (by
    intro i j hij hj
    have b1 := hne i (by omega)
    have b2 := hne j hj
    have b3 := h2 i j hij hj
    by_cases q : f i < y
    · by_cases r : f j < y
      · simp only [if_pos q, if_pos r]; exact b3
      · simp only [if_pos q, if_neg r]; omega
    · by_cases r : f j < y
      · simp only [if_neg q, if_pos r]; omega
      · simp only [if_neg q, if_neg r]; omega)
  omega
theorem fb_xorI (a b : Nat) : nI a ^^^ nI b = nI (a ^^^ b) := by
  apply Int32.toBitVec_inj.1
  show BitVec.ofNat 32 a ^^^ BitVec.ofNat 32 b = BitVec.ofNat 32 (a ^^^ b)
  apply BitVec.eq_of_getLsbD_eq
  intro i hi
  simp [hi]

/-! numbers -/
theorem cop {a b c : Nat} (h : Nat.gcd a b = 1) (h2 : a ∣ b * c) : a ∣ c := by
  have e : Nat.gcd (a * c) (b * c) = c := by rw [Nat.gcd_mul_right, h, Nat.one_mul]
  rw [← e]
  exact Nat.dvd_gcd ⟨c, rfl⟩ h2
theorem cop_div {a b : Nat} (h : 0 < Nat.gcd a b) : ∃ u v, a = Nat.gcd a b * u ∧ b = Nat.gcd a b * v ∧ Nat.gcd u v = 1 := by
  obtain ⟨u, hu⟩ := Nat.gcd_dvd_left a b
  obtain ⟨v, hv⟩ := Nat.gcd_dvd_right a b
  refine ⟨u, v, hu, hv, ?_⟩
  have e : Nat.gcd (Nat.gcd a b * u) (Nat.gcd a b * v) = Nat.gcd a b * Nat.gcd u v := Nat.gcd_mul_left _ _ _
  rw [← hu, ← hv] at e
  exact Nat.eq_of_mul_eq_mul_left h (by rw [← e, Nat.mul_one])
/-- when a loop is at zero: a whole number of its periods apart -/
theorem zero_one {f : Nat → Nat} (hI : IL f) (h0 : 0 < f 0) {x y : Nat} (hx : phN f x = 0) (hy : phN f y = 0) (hxy : x ≤ y) : x % perN f = y % perN f := by
  have hg := hI.gcd.1
  have hp := hI.perp h0
  unfold phN at hx hy
  rw [if_neg (by omega)] at hx hy
  obtain ⟨u, hu⟩ := Nat.dvd_of_mod_eq_zero hx
  obtain ⟨v, hv⟩ := Nat.dvd_of_mod_eq_zero hy
  obtain ⟨R, p, hR, hP, hc⟩ := cop_div hg
  have eR : perN f = R := by
    unfold perN
    have : f 0 * f 2 / Nat.gcd (f 0 * f 2) (f 1) = (Nat.gcd (f 0 * f 2) (f 1) * R) / Nat.gcd (f 0 * f 2) (f 1) := by rw [← hR]
    rw [this, Nat.mul_div_cancel_left _ hg]
  generalize Nat.gcd (f 0 * f 2) (f 1) = g at *
  obtain ⟨z, rfl⟩ : ∃ z, y = x + z := ⟨y - x, by omega⟩
  have e1 : f 0 * f 2 * v = f 0 * f 2 * u + z * f 1 := by rw [← hv, ← hu, Nat.add_mul, Nat.add_assoc]
  have e2 : g * (R * v) = g * (R * u + z * p) := by
    rw [Nat.mul_add, ← Nat.mul_assoc, ← Nat.mul_assoc, ← hR, e1]
    rw [show g * (z * p) = z * (g * p) by rw [← Nat.mul_assoc, Nat.mul_comm g z, Nat.mul_assoc], ← hP]
  have e3 := Nat.eq_of_mul_eq_mul_left hg e2
  have d : R ∣ p * z := by
    refine (Nat.dvd_add_right (⟨u, rfl⟩ : R ∣ R * u)).mp ?_
    rw [Nat.mul_comm p z, ← e3]
    exact ⟨v, rfl⟩
  obtain ⟨m, rfl⟩ := cop hc d
  rw [eR, Nat.add_mul_mod_self_left]
theorem zero_iff {f : Nat → Nat} (hI : IL f) (h0 : 0 < f 0) {x y : Nat} (hx : phN f x = 0) : phN f y = 0 ↔ x % perN f = y % perN f := by
  have mp : ∀ t, phN f t = phN f (t % perN f) := fun t => by
    have := zf_per hI h0 (t / perN f) (t % perN f)
    rw [Nat.mod_add_div] at this
    exact this
  constructor
  · intro hy
    rcases Nat.le_total x y with h | h
    · exact zero_one hI h0 hx hy h
    · exact (zero_one hI h0 hy hx h).symm
  · intro e
    rw [mp y, ← e, ← mp x]
    exact hx
theorem zf_at {f : Nat → Nat} {st : Nat} : ∀ d t i, i < d → t + i * st ≤ 1000000 → phN f (t + i * st) = 0 → (∀ j, j < i → phN f (t + j * st) ≠ 0) → zfO f st d t = some (t + i * st)
  | 0, _, _, h, _, _, _ => absurd h (Nat.not_lt_zero _)
  | d + 1, t, i, h1, h2, h3, h4 => by
    unfold zfO
    have : t ≤ t + i * st := Nat.le_add_right _ _
    rw [if_neg (by omega)]
    rcases Nat.eq_zero_or_pos i with rfl | hp
    · rw [Nat.zero_mul, Nat.add_zero] at h3
      rw [if_pos h3, Nat.zero_mul, Nat.add_zero]
    · have h40 := h4 0 hp
      rw [Nat.zero_mul, Nat.add_zero] at h40
      rw [if_neg h40]
      obtain ⟨m, rfl⟩ : ∃ m, i = m + 1 := ⟨i - 1, by omega⟩
      have sh : ∀ j, t + (j + 1) * st = t + st + j * st := fun j => by rw [Nat.add_mul, Nat.one_mul]; omega
      rw [sh] at h2 h3 ⊢
      exact zf_at d (t + st) m (by omega) h2 h3 (fun j hj => by rw [← sh]; exact h4 (j + 1) (by omega))
theorem zf_no {f : Nat → Nat} {st : Nat} : ∀ d t, (∀ j, j < d → phN f (t + j * st) ≠ 0) → zfO f st d t = none
  | 0, _, _ => rfl
  | d + 1, t, h => by
    unfold zfO
    have h0 := h 0 (by omega)
    rw [Nat.zero_mul, Nat.add_zero] at h0
    by_cases e : 1000000 < t
    · rw [if_pos e]
    · rw [if_neg e, if_neg h0]
      refine zf_no d (t + st) (fun j hj => ?_)
      have := h (j + 1) (by omega)
      rw [Nat.add_mul, Nat.one_mul] at this
      rw [show t + st + j * st = t + (j * st + st) by omega]
      exact this
theorem zf_is {f : Nat → Nat} {st T : Nat} : ∀ d t, zfO f st d t = some T → phN f T = 0 ∧ T ≤ 1000000 ∧ ∃ j, j < d ∧ T = t + j * st
  | 0, _, h => by unfold zfO at h; exact nomatch h
  | d + 1, t, h => by
    unfold zfO at h
    by_cases e : 1000000 < t
    · rw [if_pos e] at h; exact nomatch h
    · rw [if_neg e] at h
      by_cases e2 : phN f t = 0
      · rw [if_pos e2] at h
        cases h
        exact ⟨e2, by omega, 0, by omega, by omega⟩
      · rw [if_neg e2] at h
        obtain ⟨h1, h2, j, h3, h4⟩ := zf_is d (t + st) h
        exact ⟨h1, h2, j + 1, by omega, by rw [h4, Nat.add_mul, Nat.one_mul]; omega⟩
theorem zf_none {f : Nat → Nat} (hI : IL f) (h0 : 0 < f 0) (h : zfO f 1 (perN f) 0 = none) (t : Nat) : phN f t ≠ 0 := by
  have hp := hI.perp h0
  have hle := hI.per
  intro e
  have mp : phN f t = phN f (t % perN f) := by
    have := zf_per hI h0 (t / perN f) (t % perN f)
    rw [Nat.mod_add_div] at this
    exact this
  rw [mp] at e
  have hlt := Nat.mod_lt t hp
  obtain ⟨i, h1, h2, h3⟩ : ∃ i, i < perN f ∧ phN f i = 0 ∧ ∀ j, j < i → phN f j ≠ 0 := by
    obtain ⟨k, hk1, hk2⟩ := pk_least (fun i => phN f i = 0) ⟨_, e⟩
    refine ⟨k, ?_, hk1, hk2⟩
    rcases Nat.lt_or_ge k (perN f) with a | a
    · exact a
    · exact absurd e (hk2 _ (by omega))
  have := zf_at (f := f) (st := 1) (perN f) 0 i h1 (by omega) (by rw [Nat.zero_add, Nat.mul_one]; exact h2) (fun j hj => by rw [Nat.zero_add, Nat.mul_one]; exact h3 j hj)
  rw [this] at h
  exact nomatch h
/-- a number that turns s into 1 -/
theorem inv_ex {s m : Nat} (h : Nat.gcd m s = 1) (hm : 1 < m) : ∃ x, 1 ≤ x ∧ x < m ∧ s * x % m = 1 := by
  obtain ⟨i, hi, e⟩ := fb_onto (n := m) (f := fun i => s * i % m) (fun i _ => Nat.mod_lt _ (by omega)) (fun i j hij hj e => by
    have e' : s * i % m = s * j % m := e
    obtain ⟨z, rfl⟩ : ∃ z, j = i + z := ⟨j - i, by omega⟩
    have d : m ∣ s * z := by
      have h1 := Nat.div_add_mod (s * i) m
      have h2 := Nat.div_add_mod (s * (i + z)) m
      rw [← e', Nat.mul_add] at h2
      refine (Nat.dvd_add_right (⟨s * i / m, rfl⟩ : m ∣ m * (s * i / m))).mp ?_
      refine ⟨(s * i + s * z) / m, ?_⟩
      omega
    have := Nat.le_of_dvd (by omega) (cop h d)
    omega) (y := 1) hm
  refine ⟨i, ?_, hi, e⟩
  rcases Nat.eq_zero_or_pos i with rfl | hp
  · have e' : s * 0 % m = 1 := e
    rw [Nat.mul_zero, Nat.zero_mod] at e'
    omega
  · exact hp
/-- the meeting that is found by the divisor -/
theorem crt {f g : Nat → Nat} (hf : IL f) (hg : IL g) (f0 : 0 < f 0) (g0 : 0 < g 0) {t1 t2 L v : Nat} (h1 : t1 < perN f) (hz2 : phN g t2 = 0)
    (hL : ∃ a b, t1 + Nat.gcd (perN f) (perN g) * L + perN g * a = t2 + perN g * b) (hLl : L < perN g / Nat.gcd (perN f) (perN g))
    (hv : (perN g / Nat.gcd (perN f) (perN g) = 1 ∧ v = 0) ∨ (perN f / Nat.gcd (perN f) (perN g) % (perN g / Nat.gcd (perN f) (perN g))) * v % (perN g / Nat.gcd (perN f) (perN g)) = 1) :
    zfO g (perN f) (perN g) t1 = some (t1 + perN f * (L * v % (perN g / Nat.gcd (perN f) (perN g)))) := by
  have pP := hf.perp f0
  have pR := hg.perp g0
  have lP := hf.per
  have lR := hg.per
  have hd : 0 < Nat.gcd (perN f) (perN g) := Nat.gcd_pos_of_pos_left _ pP
  obtain ⟨P, R, hP, hR, hc⟩ := cop_div hd
  have zi := fun y => zero_iff hg g0 (y := y) hz2
  generalize hgd : Nat.gcd (perN f) (perN g) = d at *
  have eR : perN g / d = R := by
    have : perN g / d = d * R / d := by rw [← hR]
    rw [this, Nat.mul_div_cancel_left _ hd]
  have eP : perN f / d = P := by
    have : perN f / d = d * P / d := by rw [← hP]
    rw [this, Nat.mul_div_cancel_left _ hd]
  rw [eR] at hLl hv ⊢
  rw [eP] at hv
  have R0 : 0 < R := by omega
  have key : L * v % R * P % R = L := by
    rcases hv with ⟨hv1, hv2⟩ | hv
    · subst hv1; rw [Nat.mod_one]; omega
    · rw [Nat.mod_mul_mod, Nat.mul_assoc, Nat.mul_comm v P, ← Nat.mul_mod_mod, ← Nat.mod_mul_mod P, hv, Nat.mul_one, Nat.mod_eq_of_lt hLl]
  have li : L * v % R < R := Nat.mod_lt _ R0
  generalize L * v % R = i at *
  have hRle : R ≤ perN g := by rw [hR]; exact Nat.le_mul_of_pos_left R hd
  have iP : i * perN f ≤ 431 * 432 := Nat.mul_le_mul (by omega) lP
  have at_i : (t1 + i * perN f) % perN g = t2 % perN g := by
    obtain ⟨a, b, hab⟩ := hL
    have h2 := Nat.div_add_mod (i * P) R
    rw [key] at h2
    have e1 : i * perN f = perN g * (i * P / R) + d * L := by
      rw [hP, hR, show i * (d * P) = d * (i * P) by rw [← Nat.mul_assoc, Nat.mul_comm i d, Nat.mul_assoc], ← h2, Nat.mul_add, Nat.mul_assoc]
      rw [h2]
    have e2 : t1 + i * perN f + perN g * a = t2 + perN g * (b + i * P / R) := by
      rw [e1, Nat.mul_add]
      omega
    rw [← Nat.add_mul_mod_self_left _ (perN g) a, e2, Nat.add_mul_mod_self_left]
  rw [Nat.mul_comm (perN f) i]
  refine zf_at _ _ i (by omega) (by omega) ((zi _).mpr at_i.symm) (fun j hj e => ?_)
  have at_j := (zi _).mp e
  rw [← at_i] at at_j
  obtain ⟨z, rfl⟩ : ∃ z, i = j + z := ⟨i - j, by omega⟩
  have dv : perN g ∣ perN f * z := by
    have k3 : t1 + (j + z) * perN f = t1 + j * perN f + perN f * z := by rw [Nat.add_mul, Nat.mul_comm z]; omega
    refine (Nat.dvd_add_right (⟨(t1 + j * perN f) / perN g, rfl⟩ : perN g ∣ perN g * ((t1 + j * perN f) / perN g))).mp ?_
    refine ⟨(t1 + (j + z) * perN f) / perN g, ?_⟩
    have k4 := Nat.div_add_mod (t1 + (j + z) * perN f) (perN g)
    have k5 := Nat.div_add_mod (t1 + j * perN f) (perN g)
    rw [at_j] at k4
    omega
  have dv2 : R ∣ P * z := by
    obtain ⟨q, hq⟩ := dv
    refine ⟨q, Nat.eq_of_mul_eq_mul_left hd ?_⟩
    rw [← Nat.mul_assoc, ← Nat.mul_assoc, ← hP, ← hR]
    exact hq
  have := Nat.le_of_dvd (by omega) (cop (by rw [Nat.gcd_comm]; exact hc) dv2)
  omega
theorem crt_no {f g : Nat → Nat} (hg : IL g) (g0 : 0 < g 0) {t1 t2 : Nat} (hz2 : phN g t2 = 0) (hn : t1 % Nat.gcd (perN f) (perN g) ≠ t2 % Nat.gcd (perN f) (perN g)) : zfO g (perN f) (perN g) t1 = none := by
  refine zf_no _ _ (fun j _ e => hn ?_)
  have := (zero_iff hg g0 hz2).mp e
  obtain ⟨u, hu⟩ := Nat.gcd_dvd_left (perN f) (perN g)
  obtain ⟨v, hv⟩ := Nat.gcd_dvd_right (perN f) (perN g)
  generalize Nat.gcd (perN f) (perN g) = d at *
  have m1 : ∀ x, x % perN g % d = x % d := fun x => by rw [hv]; exact Nat.mod_mul_right_mod x d v
  have h1 := m1 t2
  rw [this, m1] at h1
  rw [← h1, hu]
  rw [show j * (d * u) = d * (j * u) by rw [← Nat.mul_assoc, Nat.mul_comm j d, Nat.mul_assoc], Nat.add_mul_mod_self_left]

