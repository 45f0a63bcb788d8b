
def slot (A nx i : Nat) : Nat := 45 + 21 * ((nx + 12 - A + i) % 12)
def RN (N : Nat → Nat → Nat) (h : PH) : Prop := Rl 1 N h ∧ h 1 5 = nI (N 0 3)
def CP (D : Nat → Nat → Nat → Nat) (A nx : Nat) (h : PH) : Prop := h 43 1 = nI nx ∧ h 43 2 = nI A ∧ ∀ i, i < A → Rl (slot A nx i) (D i) h ∧ h (slot A nx i) 5 = nI (D i 0 3)
def CK (K : Nat → Nat → Nat → Nat) (kb : Nat → Nat) (h : PH) : Prop := ∀ j, j < 2 → h (297 + 22 * j) 1 = nI (kb j) ∧ (kb j = 1 → Rl (298 + 22 * j) (K j) h ∧ h (298 + 22 * j) 5 = nI (K j 0 3))
def CX (s : Nat) (t : Nat → Nat) (h : PH) : Prop := h 341 2 = nI s ∧ ∀ k, k < s → h 342 k = nI (t k)
def MP (D : Nat → Nat → Nat → Nat) (A : Nat) (h : PH) : Prop := h 344 6 = nI A ∧ ∀ i, i < A → Mw (fun k => h 348 (427 * i + k)) (D i)
def MK (K : Nat → Nat → Nat → Nat) (kb : Nat → Nat) (h : PH) : Prop := ∀ j, j < 2 → h 350 j = nI (kb j) ∧ (kb j = 1 → Mw (fun k => h 349 (427 * j + k)) (K j))
def MX (s : Nat) (t : Nat → Nat) (h : PH) : Prop := h 344 2 = nI s ∧ ∀ k, k < s → h 345 k = nI (t k)
def GP (D : Nat → Nat → Nat → Nat) (A nx : Nat) : Prop := nx < 12 ∧ A ≤ 12 ∧ ∀ i, i < A → Inv (D i)
def GK (K : Nat → Nat → Nat → Nat) (kb : Nat → Nat) : Prop := ∀ j, j < 2 → kb j ≤ 1 ∧ (kb j = 1 → Inv (K j))
def GX (s : Nat) (t : Nat → Nat) : Prop := s ≤ 120 ∧ ∀ k, k < s → t k ≤ 255
def II (h : PH) : Prop := ∃ N D A nx K kb s t, (Inv N ∧ RN N h ∧ Mw (h 346) N) ∧ (GP D A nx ∧ CP D A nx h ∧ MP D A h) ∧ (GK K kb ∧ CK K kb h ∧ MK K kb h) ∧ (GX s t ∧ CX s t h ∧ MX s t h)
theorem Mw.eqv {g g' : Nat → Int32} {N : Nat → Nat → Nat} (h : Mw g N) (e : ∀ k, k < 427 → g' k = g k) : Mw g' N :=
  ⟨fun j hj => (e j (by omega)).trans (h.1 j hj), fun r hr => ⟨(e _ (by omega)).trans (h.2.1 r hr).1, fun c hc => (e _ (by omega)).trans ((h.2.1 r hr).2 c hc)⟩, fun l hl u hu => (e _ (by omega)).trans (h.2.2 l hl u hu)⟩
theorem al_346 : al 346 = 427 := by decide +kernel
theorem al_347 : al 347 = 427 := by decide +kernel
theorem al_351 : al 351 = 1 := by decide +kernel
theorem al_44 : al 44 = 12 := by decide +kernel
theorem al_348 : al 348 = 5124 := by decide +kernel
theorem al_349 : al 349 = 854 := by decide +kernel
theorem al_350 : al 350 = 2 := by decide +kernel
theorem al_342 : al 342 = 120 := by decide +kernel
theorem al_343 : al 343 = 4 := by decide +kernel
theorem al_345 : al 345 = 120 := by decide +kernel
theorem SB_1 : SB 1 := SB_all (Or.inl rfl)
theorem SB_22 : SB 22 := SB_all (Or.inr (Or.inl rfl))
theorem slot_lt {A nx i : Nat} : 45 ≤ slot A nx i ∧ slot A nx i + 21 ≤ 297 := by unfold slot; omega
theorem SB_slot {A nx i : Nat} : SB (slot A nx i) := SB_all (Or.inr (Or.inr (Or.inr (Or.inr ⟨(nx + 12 - A + i) % 12, by omega, rfl⟩))))
/-- cells kept between two heaps: the class's past, its slots, its text; the reference's -/
theorem Rl.ag {b : Nat} {N : Nat → Nat → Nat} {h h' : PH} (x : Rl b N h) (hI : Inv N) (y : ∀ i, b ≤ i → i < b + 21 → h' i = h i) : Rl b N h' := by
  have i0 := hI.1
  have i1 := hI.2.1
  have e := y b (by omega) (by omega)
  refine ⟨x.1, x.2.1, by rw [e]; exact x.n0, by rw [e]; exact x.n1, by rw [e]; exact x.n2, fun r hr => ?_, fun l hl => ?_⟩
  · obtain ⟨a1, a2, a3⟩ := x.re hr
    exact ⟨a1, by rw [y _ (by omega) (by omega)]; exact a2, fun c hc => by rw [y _ (by omega) (by omega)]; exact a3 c hc⟩
  · obtain ⟨x1, x2, x3, x4, x5, x6, x7, x8, x9, x10⟩ := x.lo hl
    have e := y (b + 8 + 1 + 3 * l) (by omega) (by omega)
    have e1 := y (b + 8 + 1 + 3 * l + 1) (by omega) (by omega)
    have e2 := y (b + 8 + 1 + 3 * l + 2) (by omega) (by omega)
    exact ⟨x1, x2, by rw [e]; exact x3, by rw [e]; exact x4, by rw [e]; exact x5, by rw [e]; exact x6, by rw [e]; exact x7, by rw [e]; exact x8, fun c hc => by rw [e1]; exact x9 c hc, fun c hc => by rw [e2]; exact x10 c hc⟩
theorem RN.ag {N : Nat → Nat → Nat} {h h' : PH} (x : RN N h) (hI : Inv N) (y : ∀ i, 1 ≤ i → i < 22 → h' i = h i) : RN N h' := ⟨x.1.ag hI (fun i h1 h2 => y i h1 h2), by rw [y 1 (by omega) (by omega)]; exact x.2⟩
theorem CP.ag {D : Nat → Nat → Nat → Nat} {A nx : Nat} {h h' : PH} (x : CP D A nx h) (g : GP D A nx) (y : ∀ i, 43 ≤ i → i < 297 → h' i = h i) : CP D A nx h' := by
  refine ⟨by rw [y 43 (by omega) (by omega)]; exact x.1, by rw [y 43 (by omega) (by omega)]; exact x.2.1, fun i hi => ?_⟩
  have sl := slot_lt (A := A) (nx := nx) (i := i)
  exact ⟨(x.2.2 i hi).1.ag (g.2.2 i hi) (fun k h1 h2 => y k (by omega) (by omega)), by rw [y _ (by omega) (by omega)]; exact (x.2.2 i hi).2⟩
theorem CK.ag {K : Nat → Nat → Nat → Nat} {kb : Nat → Nat} {h h' : PH} (x : CK K kb h) (g : GK K kb) (y : ∀ i, 297 ≤ i → i < 341 → h' i = h i) : CK K kb h' := fun j hj =>
  ⟨by rw [y _ (by omega) (by omega)]; exact (x j hj).1, fun e => ⟨((x j hj).2 e).1.ag ((g j hj).2 e) (fun k h1 h2 => y k (by omega) (by omega)), by rw [y _ (by omega) (by omega)]; exact ((x j hj).2 e).2⟩⟩
theorem CX.ag {s : Nat} {t : Nat → Nat} {h h' : PH} (x : CX s t h) (y1 : h' 341 2 = h 341 2) (y2 : h' 342 = h 342) : CX s t h' := ⟨by rw [y1]; exact x.1, fun k hk => by rw [y2]; exact x.2 k hk⟩
theorem MP.ag {D : Nat → Nat → Nat → Nat} {A : Nat} {h h' : PH} (x : MP D A h) (y1 : h' 344 6 = h 344 6) (y2 : h' 348 = h 348) : MP D A h' := ⟨by rw [y1]; exact x.1, fun k hk => by rw [y2]; exact x.2 k hk⟩
theorem MK.ag {K : Nat → Nat → Nat → Nat} {kb : Nat → Nat} {h h' : PH} (x : MK K kb h) (y1 : h' 350 = h 350) (y2 : h' 349 = h 349) : MK K kb h' := fun j hj => ⟨by rw [y1]; exact (x j hj).1, fun e => by rw [y2]; exact (x j hj).2 e⟩
theorem MX.ag {s : Nat} {t : Nat → Nat} {h h' : PH} (x : MX s t h) (y1 : h' 344 2 = h 344 2) (y2 : h' 345 = h 345) : MX s t h' := ⟨by rw [y1]; exact x.1, fun k hk => by rw [y2]; exact x.2 k hk⟩
/-- what a call that reads may change: the class's trial, where its text reads, its numbers; the reference's trial, and of its own fields all but size and acts; out -/
def Eqv (h h' : PH) : Prop := (∀ i, (1 ≤ i ∧ i < 22) ∨ (43 ≤ i ∧ i < 341) ∨ i = 342 ∨ i = 345 ∨ i = 346 ∨ i = 348 ∨ i = 349 ∨ i = 350 → h' i = h i) ∧ h' 341 2 = h 341 2 ∧ h' 344 2 = h 344 2 ∧ h' 344 6 = h 344 6
theorem Eqv.rf {h : PH} : Eqv h h := ⟨fun _ _ => rfl, rfl, rfl, rfl⟩
theorem Eqv.tr {h h1 h2 : PH} (x : Eqv h h1) (y : Eqv h1 h2) : Eqv h h2 := ⟨fun i hi => (y.1 i hi).trans (x.1 i hi), y.2.1.trans x.2.1, y.2.2.1.trans x.2.2.1, y.2.2.2.trans x.2.2.2⟩
theorem Eqv.II {h h' : PH} (y : Eqv h h') (x : II h) : II h' := by
  obtain ⟨N, D, A, nx, K, kb, s, t, ⟨a1, a2, a3⟩, ⟨b1, b2, b3⟩, ⟨c1, c2, c3⟩, d1, d2, d3⟩ := x
  refine ⟨N, D, A, nx, K, kb, s, t, ⟨a1, a2.ag a1 (fun i h1 h2 => y.1 i (by omega)), ?_⟩, ⟨b1, b2.ag b1 (fun i h1 h2 => y.1 i (by omega)), b3.ag y.2.2.2 (y.1 _ (by omega))⟩, ⟨c1, c2.ag c1 (fun i h1 h2 => y.1 i (by omega)), c3.ag (y.1 _ (by omega)) (y.1 _ (by omega))⟩, d1, d2.ag y.2.1 (y.1 _ (by omega)), d3.ag y.2.2.1 (y.1 _ (by omega))⟩
  rw [y.1 346 (by omega)]
  exact a3
theorem Eqv.out {h : PH} {v : Int32} : Eqv h (up2 h 351 0 v) := ⟨fun i hi => up2_o i (by omega), by rw [up2_o _ (by omega)], by rw [up2_o _ (by omega)], by rw [up2_o _ (by omega)]⟩
theorem Eqv.rfu {h : PH} {j : Nat} {v : Int32} (h2 : j ≠ 2) (h6 : j ≠ 6) : Eqv h (up2 h 344 j v) := ⟨fun i hi => up2_o i (by omega), by rw [up2_o _ (by omega)], up2_ne (Ne.symm h2), up2_ne (Ne.symm h6)⟩
theorem Eqv.fr {h h' : PH} {a n : Nat} (x : Fr a n h h') (d : (22 ≤ a ∧ a + n ≤ 43) ∨ (a = 343 ∧ n = 1) ∨ (a = 347 ∧ n = 1) ∨ (a = 351 ∧ n = 1)) : Eqv h h' :=
  ⟨fun i hi => x i (by omega), by rw [x 341 (by omega)], by rw [x 344 (by omega)], by rw [x 344 (by omega)]⟩
/-- the answer of a wrapper goes into out -/
theorem wr {h : PH} {v : Int32} {K : PH → Prop} (q : K (up2 h 351 0 v)) : (vp_in 0 (al 351)) ∧ (∀ h5 : PH, h5 = up2 h 351 (0 : Int32).toNatClampNeg v → K h5) := by
  refine ⟨by rw [al_351, li_0]; exact vp_in_nI (by omega) (by omega), ?_⟩
  rintro h5 rfl
  exact q
theorem refu_0 {h : PH} {Q : Int32 → PH → Prop} (q : Q 0 (up2 h 344 0 0)) : wp_X8_refused 344 0 h Q := by
  unfold wp_X8_refused
  rintro h1 rfl
  exact bt (by decide) q
theorem refu_1 {h : PH} {Q : Int32 → PH → Prop} (q : Q 1 (up2 h 344 0 1)) : wp_X8_refused 344 1 h Q := by
  unfold wp_X8_refused
  rintro h1 rfl
  exact bf (by decide) q
theorem refu_2 {h : PH} {Q : Int32 → PH → Prop} (q : Q 1 (up2 h 344 0 2)) : wp_X8_refused 344 2 h Q := by
  unfold wp_X8_refused
  rintro h1 rfl
  exact bf (by decide) q
/-! remembering -/
def rmD (D : Nat → Nat → Nat → Nat) (A : Nat) (N : Nat → Nat → Nat) : Nat → Nat → Nat → Nat := fun i => if A = 12 then (if i = 11 then N else D (i + 1)) else if i = A then N else D i
theorem GP.rm {D : Nat → Nat → Nat → Nat} {A nx : Nat} {N : Nat → Nat → Nat} (g : GP D A nx) (hI : Inv N) : GP (rmD D A N) (min (A + 1) 12) (if nx + 1 < 12 then nx + 1 else 0) := by
  obtain ⟨g1, g2, g3⟩ := g
  refine ⟨by split <;> omega, by omega, fun i hi => ?_⟩
  unfold rmD
  split
  · split
    · exact hI
    · exact g3 _ (by omega)
  · split
    · exact hI
    · exact g3 _ (by omega)
theorem ok_stateAt {h : PH} {Q : Option Nat → PH → Prop} {nx : Nat} (hn : nx < 12) (q : Q (some (45 + 21 * nx)) h) : wp_X2_stateAt 43 (nI nx) h Q := by
  unfold wp_X2_stateAt
  have e : al (43 + 1) = 12 := al_44
  rw [e]
  refine cnt_in hn (by omega) (bt rfl ⟨vp_in_nI hn (by omega), ?_⟩)
  rw [nI_clamp (by omega)]
  exact q
theorem ok_remember {D : Nat → Nat → Nat → Nat} {A nx : Nat} {N : Nat → Nat → Nat} {h : PH} {Q : PH → Prop} (hI : Inv N) (hR : RN N h) (g : GP D A nx) (hC : CP D A nx h) (q : ∀ h', (∀ i, i < 43 ∨ 297 ≤ i → h' i = h i) → CP (rmD D A N) (min (A + 1) 12) (if nx + 1 < 12 then nx + 1 else 0) h' → Q h') : wp_X2_remember 43 1 h Q := by
  unfold wp_X2_remember
  obtain ⟨g1, g2, g3⟩ := g
  obtain ⟨c1, c2, c3⟩ := hC
  rw [c1]
  refine ok_stateAt g1 (sm_t (ok_copyStudio (SB_all (Or.inr (Or.inr (Or.inr (Or.inr ⟨nx, g1, rfl⟩))))) hR.1 hI (by omega) ?_))
  intro h1 F1 e5 R1
  have e43 : h1 43 = h 43 := F1 43 (by omega)
  rw [e43, c1, nI_1, li_12]
  have fin : ∀ m, m = (if nx + 1 < 12 then nx + 1 else 0) → ∀ h2, h2 = up2 h1 43 1 (nI m) → wp_J9_min_7cf53 ((h2 43 2) + 1) (nI 12) h2 (fun r8 h7 => ∀ h9 : PH, h9 = up2 h7 43 2 r8 → Q h9) := by
    rintro m hm h2 rfl
    rw [up2_ne (by decide), e43, c2, nI_1]
    refine min_n (by omega) (by omega) ?_
    rintro h9 rfl
    have oth : ∀ i, i ≠ 43 → up2 (up2 h1 43 1 (nI m)) 43 2 (nI (min (A + 1) 12)) i = h1 i := fun i hi => by rw [up2_o i hi, up2_o i hi]
    refine q _ (fun i hi => by rw [oth i (by omega), F1 i (by omega)]) ⟨?_, up2_at, fun i hi => ?_⟩
    · rw [up2_ne (by decide), up2_at, hm]
    · rw [← hm]
      have mlt : m < 12 := by rw [hm]; split <;> omega
      have mmod : m = (nx + 1) % 12 := by rw [hm]; split <;> omega
      have sl := slot_lt (A := min (A + 1) 12) (nx := m) (i := i)
      have key : (slot (min (A + 1) 12) m i = 45 + 21 * nx ∧ rmD D A N i = N) ∨ ∃ i', i' < A ∧ slot (min (A + 1) 12) m i = slot A nx i' ∧ rmD D A N i = D i' ∧ slot A nx i' ≠ 45 + 21 * nx := by
        unfold slot rmD
        by_cases e : A = 12
        · rw [if_pos e]
          by_cases e2 : i = 11
          · left; rw [if_pos e2]; exact ⟨by omega, rfl⟩
          · right; rw [if_neg e2]; exact ⟨i + 1, by omega, by omega, rfl, by omega⟩
        · rw [if_neg e]
          by_cases e2 : i = A
          · left; rw [if_pos e2]; exact ⟨by omega, rfl⟩
          · right; rw [if_neg e2]; exact ⟨i, by omega, by omega, rfl, by omega⟩
      rcases key with ⟨k1, k2⟩ | ⟨i', hi', k1, k2, k3⟩
      · rw [k1, k2]
        refine ⟨R1.ag hI (fun k h1 h2 => oth k (by omega)), ?_⟩
        rw [oth _ (by omega), e5]
        exact hR.2
      · rw [k1, k2]
        have sl' := slot_lt (A := A) (nx := nx) (i := i')
        have sd : slot A nx i' + 21 ≤ 45 + 21 * nx ∨ 45 + 21 * nx + 21 ≤ slot A nx i' := by unfold slot at *; omega
        refine ⟨(c3 i' hi').1.ag (g3 i' hi') (fun k h1 h2 => by rw [oth k (by omega), F1 k (by omega)]), ?_⟩
        rw [oth _ (by omega), F1 _ (by omega)]
        exact (c3 i' hi').2
  by_cases e : 12 ≤ nx + 1
  · refine bt (nI_le e (by omega)) ?_
    rintro h6 e6
    exact fin 0 (by rw [if_neg (by omega)]) h6 e6
  · refine bf (nI_ge (by omega) (by omega)) ?_
    rintro h6 e6
    exact fin (nx + 1) (by rw [if_pos (by omega)]) h6 e6
theorem mo_remember {D : Nat → Nat → Nat → Nat} {A nx : Nat} {N : Nat → Nat → Nat} {h : PH} {Q : PH → Prop} (hM : Mw (h 346) N) (g : GP D A nx) (hC : MP D A h) (q : ∀ h', (∀ i, i ≠ 344 → i ≠ 348 → h' i = h i) → (∀ j, j ≠ 6 → h' 344 j = h 344 j) → MP (rmD D A N) (min (A + 1) 12) h' → Q h') : wp_X8_remember 344 h Q := by
  unfold wp_X8_remember
  obtain ⟨g1, g2, g3⟩ := g
  obtain ⟨c1, c2⟩ := hC
  have e348 : al (344 + 4) = 5124 := al_348
  have e346 : al (344 + 2) = 427 := al_346
  rw [c1, li_12, nI_eq (by omega) (by omega)]
  by_cases e : A = 12
  · subst e
    refine bt' rfl ⟨4698, ?_⟩
    have sh : ∀ d i gg, i + d = 4697 → (∀ k, k ≠ 348 → gg k = h k) → (∀ j, j < i → gg 348 j = h 348 (j + 427)) → (∀ j, i ≤ j → gg 348 j = h 348 j) → wp_X8_remember_b11 344 Q (d + 1) (nI i) gg := by
      intro d
      induction d with
      | zero =>
        intro i gg hi hF h1 h2
        unfold wp_X8_remember_b11
        have e4697 : (4697 : Int32) = nI 4697 := rfl
        rw [e4697]
        refine bt (nI_le (by omega) (by omega)) ?_
        rintro h5 rfl
        rw [hF 344 (by omega), c1, show nI 12 - 1 = nI 11 from by decide, up2_at, li_427, pk_mul, li_0]
        refine mo_copyState (o := 0) (u := 427 * 11) e346 e348 (by omega) (by omega) (by omega) (by omega) (by omega) ?_
        intro h6 F6 k1 k2
        have x6 : h6 344 6 = nI 11 := by rw [F6 344 (by omega), up2_at]
        rw [x6, nI_1]
        rintro h7 rfl
        refine q _ (fun i hi1 hi2 => ?_) (fun j hj => ?_) ⟨?_, fun i' hi' => ?_⟩
        · rw [up2_o i hi1, F6 i (by omega), up2_o i hi1, hF i hi2]
        · rw [up2_ne hj, F6 344 (by omega), up2_ne hj, hF 344 (by omega)]
        · rw [up2_at]; rfl
        · unfold rmD
          rw [if_pos rfl, up2_o 348 (by omega)]
          by_cases e2 : i' = 11
          · subst e2
            rw [if_pos rfl]
            have : ∀ k, k < 427 → h6 348 (427 * 11 + k) = h 346 k := fun k hk => by
              have := k1 k hk
              rw [this, Nat.zero_add, up2_o _ (by omega)]
              exact congrFun (hF 346 (by omega)) k
            exact hM.eqv this
          · rw [if_neg e2]
            have hM' := c2 (i' + 1) (by omega)
            have : ∀ k, k < 427 → h6 348 (427 * i' + k) = h 348 (427 * (i' + 1) + k) := fun k hk => by
              rw [k2 _ (by omega), up2_o _ (by omega), h1 _ (by omega)]
              congr 1
              omega
            exact hM'.eqv this
      | succ d ih =>
        intro i gg hi hF h1 h2
        unfold wp_X8_remember_b11
        have e4697 : (4697 : Int32) = nI 4697 := rfl
        rw [e4697, e348, li_427, nI_add]
        refine bf (nI_ge (by omega) (by omega)) ⟨vp_in_nI (by omega) (by omega), vp_in_nI (by omega) (by omega), ?_⟩
        rintro h10 rfl x rfl
        rw [nI_1, nI_clamp (by omega), nI_clamp (by omega)]
        refine ih (i + 1) _ (by omega) (fun k hk => by rw [up2_o k hk, hF k hk]) (fun j hj => ?_) (fun j hj => ?_)
        · by_cases e : j = i
          · subst e
            have : up2 gg (344 + 4) j (gg (344 + 4) (j + 427)) (344 + 4) j = gg (344 + 4) (j + 427) := up2_at
            exact this.trans (h2 _ (by omega))
          · have : up2 gg (344 + 4) i (gg (344 + 4) (i + 427)) (344 + 4) j = gg (344 + 4) j := up2_ne e
            exact this.trans (h1 j (by omega))
        · have : up2 gg (344 + 4) i (gg (344 + 4) (i + 427)) (344 + 4) j = gg (344 + 4) j := up2_ne (by omega)
          exact this.trans (h2 j (by omega))
    exact sh 4697 0 h (by omega) (fun _ _ => rfl) (fun j hj => by omega) (fun _ _ => rfl)
  · refine bf' e ?_
    rw [li_427, pk_mul, li_0]
    refine mo_copyState (o := 0) (u := 427 * A) e346 e348 (by omega) (by omega) (by omega) (by omega) (by omega) ?_
    intro h6 F6 k1 k2
    have x6 : h6 344 6 = nI A := by rw [F6 344 (by omega), c1]
    rw [x6, nI_1]
    rintro h7 rfl
    refine q _ (fun i hi1 hi2 => ?_) (fun j hj => ?_) ⟨?_, fun i' hi' => ?_⟩
    · rw [up2_o i hi1, F6 i (by omega)]
    · rw [up2_ne hj, F6 344 (by omega)]
    · rw [up2_at, show min (A + 1) 12 = A + 1 by omega]
    · unfold rmD
      rw [if_neg e, up2_o 348 (by omega)]
      by_cases e2 : i' = A
      · subst e2
        rw [if_pos rfl]
        have : ∀ k, k < 427 → h6 348 (427 * i' + k) = h 346 k := fun k hk => by
          have := k1 k hk
          rw [this, Nat.zero_add]
        exact hM.eqv this
      · rw [if_neg e2]
        have hM' := c2 i' (by omega)
        have : ∀ k, k < 427 → h6 348 (427 * i' + k) = h 348 (427 * i' + k) := fun k hk => k2 _ (by omega)
        exact hM'.eqv this
/-! reasons against an action, and the actions -/

section
variable {b : Nat} {N : Nat → Nat → Nat} {h : PH} {Q : Int32 → PH → Prop}
theorem wn_reel_2 {x u v y : Int32} (hx : ¬ inB x 2 61) (q : Q 2 h) : wp_X5_whyNot b 114 x u v y h Q := by
  unfold wp_X5_whyNot
  refine ⟨fun z => absurd z (by decide), fun z => absurd z (by decide), fun z => absurd z (by decide), fun z => absurd z (by decide), fun z => absurd z (by decide), fun _ => ?_, fun z => absurd z (by decide), fun z => absurd z (by decide), fun z => absurd z (by decide), fun z => absurd z (by decide), by intros; contradiction⟩
  exact out_out (lo := 2) (hi := 60) hx (by omega) (by omega) (bf (by decide) q)
theorem wn_reel_3 {x : Nat} {u v y : Int32} (hR : Rl b N h) (hI : Inv N) (h1 : 2 ≤ x) (h2 : x ≤ 60) (h3 : 3 ≤ N 0 0) (q : Q 3 h) : wp_X5_whyNot b 114 (nI x) u v y h Q := by
  unfold wp_X5_whyNot
  have := hI.1
  refine ⟨fun z => absurd z (by decide), fun z => absurd z (by decide), fun z => absurd z (by decide), fun z => absurd z (by decide), fun z => absurd z (by decide), fun _ => ?_, fun z => absurd z (by decide), fun z => absurd z (by decide), fun z => absurd z (by decide), fun z => absurd z (by decide), by intros; contradiction⟩
  refine out_in (lo := 2) (hi := 60) h1 h2 (by omega) (bt rfl (bt ?_ q))
  rw [hR.n0, li_3]
  exact nI_le (by omega) (by omega)
theorem wn_reel_0 {x : Nat} {u v y : Int32} (hR : Rl b N h) (hI : Inv N) (h1 : 2 ≤ x) (h2 : x ≤ 60) (h3 : N 0 0 < 3) (q : Q 0 h) : wp_X5_whyNot b 114 (nI x) u v y h Q := by
  unfold wp_X5_whyNot
  refine ⟨fun z => absurd z (by decide), fun z => absurd z (by decide), fun z => absurd z (by decide), fun z => absurd z (by decide), fun z => absurd z (by decide), fun _ => ?_, fun z => absurd z (by decide), fun z => absurd z (by decide), fun z => absurd z (by decide), fun z => absurd z (by decide), by intros; contradiction⟩
  refine out_in (lo := 2) (hi := 60) h1 h2 (by omega) (bt rfl (bf ?_ q))
  rw [hR.n0, li_3]
  exact nI_ge (by omega) (by omega)
theorem wn_loop_3 {x u v y : Int32} (hR : Rl b N h) (hI : Inv N) (h4 : 4 ≤ N 0 1) (q : Q 3 h) : wp_X5_whyNot b 108 x u v y h Q := by
  unfold wp_X5_whyNot
  have := hI.2.1
  refine ⟨fun z => absurd z (by decide), fun z => absurd z (by decide), fun _ => ?_, fun z => absurd z (by decide), fun z => absurd z (by decide), fun z => absurd z (by decide), fun z => absurd z (by decide), fun z => absurd z (by decide), fun z => absurd z (by decide), fun z => absurd z (by decide), by intros; contradiction⟩
  refine bt ?_ q
  rw [hR.n1, li_4]
  exact nI_le (by omega) (by omega)
theorem wn_loop_0 {x u v y : Int32} (hR : Rl b N h) (hI : Inv N) (h4 : N 0 1 < 4) (q : Q 0 h) : wp_X5_whyNot b 108 x u v y h Q := by
  unfold wp_X5_whyNot
  refine ⟨fun z => absurd z (by decide), fun z => absurd z (by decide), fun _ => ?_, fun z => absurd z (by decide), fun z => absurd z (by decide), fun z => absurd z (by decide), fun z => absurd z (by decide), fun z => absurd z (by decide), fun z => absurd z (by decide), fun z => absurd z (by decide), by intros; contradiction⟩
  refine bf ?_ q
  rw [hR.n1, li_4]
  exact nI_ge (by omega) (by omega)
/-- a painting may be done -/
def okPa (N : Nat → Nat → Nat) (r x y v : Nat) : Prop := r < N 0 0 ∧ x < N (1 + r) 0 ∧ y < N (1 + r) 0 ∧ x ≤ y ∧ v ≤ 9
theorem wn_paint_r {r x y v : Int32} (hR : Rl b N h) (hI : Inv N) (hr : ¬ inB r 0 (N 0 0)) (q : Q 1 h) : wp_X5_whyNot b 112 r x y v h Q := by
  unfold wp_X5_whyNot wp_X5_whyNotPaint
  refine ⟨fun z => absurd z (by decide), fun z => absurd z (by decide), fun z => absurd z (by decide), fun z => absurd z (by decide), fun _ => ?_, fun z => absurd z (by decide), fun z => absurd z (by decide), fun z => absurd z (by decide), fun z => absurd z (by decide), fun z => absurd z (by decide), by intros; contradiction⟩
  exact ok_reelAtN hR hI hr (sm_n q)
theorem wn_paint_x {r : Nat} {x y v : Int32} (hR : Rl b N h) (hI : Inv N) (hr : r < N 0 0) (hx : ¬ inB x 0 (N (1 + r) 0)) (q : Q 1 h) : wp_X5_whyNot b 112 (nI r) x y v h Q := by
  unfold wp_X5_whyNot wp_X5_whyNotPaint
  refine ⟨fun z => absurd z (by decide), fun z => absurd z (by decide), fun z => absurd z (by decide), fun z => absurd z (by decide), fun _ => ?_, fun z => absurd z (by decide), fun z => absurd z (by decide), fun z => absurd z (by decide), fun z => absurd z (by decide), fun z => absurd z (by decide), by intros; contradiction⟩
  exact ok_reelAt hR hI hr (sm_t (ok_hasCellN (hR.re hr) (hI.ir hr) hx (bt rfl q)))
theorem wn_paint_y {r x : Nat} {y v : Int32} (hR : Rl b N h) (hI : Inv N) (hr : r < N 0 0) (hx : x < N (1 + r) 0) (hy : ¬ inB y 0 (N (1 + r) 0)) (q : Q 1 h) : wp_X5_whyNot b 112 (nI r) (nI x) y v h Q := by
  unfold wp_X5_whyNot wp_X5_whyNotPaint
  refine ⟨fun z => absurd z (by decide), fun z => absurd z (by decide), fun z => absurd z (by decide), fun z => absurd z (by decide), fun _ => ?_, fun z => absurd z (by decide), fun z => absurd z (by decide), fun z => absurd z (by decide), fun z => absurd z (by decide), fun z => absurd z (by decide), by intros; contradiction⟩
  exact ok_reelAt hR hI hr (sm_t (ok_hasCell (hR.re hr) (hI.ir hr) hx (bf (by decide) (ok_hasCellN (hR.re hr) (hI.ir hr) hy (bt' rfl q)))))
theorem wn_paint_o {r x y : Nat} {v : Int32} (hR : Rl b N h) (hI : Inv N) (hr : r < N 0 0) (hx : x < N (1 + r) 0) (hy : y < N (1 + r) 0) (ho : y < x) (q : Q 2 h) : wp_X5_whyNot b 112 (nI r) (nI x) (nI y) v h Q := by
  unfold wp_X5_whyNot wp_X5_whyNotPaint
  have := (hI.ir hr).1
  refine ⟨fun z => absurd z (by decide), fun z => absurd z (by decide), fun z => absurd z (by decide), fun z => absurd z (by decide), fun _ => ?_, fun z => absurd z (by decide), fun z => absurd z (by decide), fun z => absurd z (by decide), fun z => absurd z (by decide), fun z => absurd z (by decide), by intros; contradiction⟩
  exact ok_reelAt hR hI hr (sm_t (ok_hasCell (hR.re hr) (hI.ir hr) hx (bf (by decide) (ok_hasCell (hR.re hr) (hI.ir hr) hy (bf' (by decide) (bt (nI_lt ho (by omega)) q))))))
theorem wn_paint_v {r x y : Nat} {v : Int32} (hR : Rl b N h) (hI : Inv N) (hr : r < N 0 0) (hx : x < N (1 + r) 0) (hy : y < N (1 + r) 0) (ho : x ≤ y) (hv : ¬ inB v 0 10) (q : Q 2 h) : wp_X5_whyNot b 112 (nI r) (nI x) (nI y) v h Q := by
  unfold wp_X5_whyNot wp_X5_whyNotPaint
  have := (hI.ir hr).1
  refine ⟨fun z => absurd z (by decide), fun z => absurd z (by decide), fun z => absurd z (by decide), fun z => absurd z (by decide), fun _ => ?_, fun z => absurd z (by decide), fun z => absurd z (by decide), fun z => absurd z (by decide), fun z => absurd z (by decide), fun z => absurd z (by decide), by intros; contradiction⟩
  exact ok_reelAt hR hI hr (sm_t (ok_hasCell (hR.re hr) (hI.ir hr) hx (bf (by decide) (ok_hasCell (hR.re hr) (hI.ir hr) hy (bf' (by decide) (bf (nI_nlt ho (by omega)) (out_out (lo := 0) (hi := 9) hv (by omega) (by omega) (bf (by decide) q))))))))
theorem wn_paint_0 {r x y v : Nat} (hR : Rl b N h) (hI : Inv N) (ok : okPa N r x y v) (q : Q 0 h) : wp_X5_whyNot b 112 (nI r) (nI x) (nI y) (nI v) h Q := by
  unfold wp_X5_whyNot wp_X5_whyNotPaint
  obtain ⟨hr, hx, hy, ho, hv⟩ := ok
  have := (hI.ir hr).1
  refine ⟨fun z => absurd z (by decide), fun z => absurd z (by decide), fun z => absurd z (by decide), fun z => absurd z (by decide), fun _ => ?_, fun z => absurd z (by decide), fun z => absurd z (by decide), fun z => absurd z (by decide), fun z => absurd z (by decide), fun z => absurd z (by decide), by intros; contradiction⟩
  exact ok_reelAt hR hI hr (sm_t (ok_hasCell (hR.re hr) (hI.ir hr) hx (bf (by decide) (ok_hasCell (hR.re hr) (hI.ir hr) hy (bf' (by decide) (bf (nI_nlt ho (by omega)) (out_in (lo := 0) (hi := 9) (by omega) hv (by omega) (bt rfl q))))))))
theorem wn_splice_l {l r x y : Int32} (hR : Rl b N h) (hI : Inv N) (hl : ¬ inB l 0 (N 0 1)) (q : Q 1 h) : wp_X5_whyNot b 99 l r x y h Q := by
  unfold wp_X5_whyNot wp_X5_whyNotSplice
  refine ⟨fun _ => ?_, fun z => absurd z (by decide), fun z => absurd z (by decide), fun z => absurd z (by decide), fun z => absurd z (by decide), fun z => absurd z (by decide), fun z => absurd z (by decide), fun z => absurd z (by decide), fun z => absurd z (by decide), fun z => absurd z (by decide), by intros; contradiction⟩
  refine ok_loopAtN hR hI hl ?_
  by_cases hr : inB r 0 (N 0 0)
  · obtain ⟨r, _, hr, rfl⟩ := hr
    exact ok_reelAt hR hI hr (sm_n q)
  · exact ok_reelAtN hR hI hr (sm_n q)
theorem wn_splice_r {l : Nat} {r x y : Int32} (hR : Rl b N h) (hI : Inv N) (hl : l < N 0 1) (hr : ¬ inB r 0 (N 0 0)) (q : Q 1 h) : wp_X5_whyNot b 99 (nI l) r x y h Q := by
  unfold wp_X5_whyNot wp_X5_whyNotSplice
  refine ⟨fun _ => ?_, fun z => absurd z (by decide), fun z => absurd z (by decide), fun z => absurd z (by decide), fun z => absurd z (by decide), fun z => absurd z (by decide), fun z => absurd z (by decide), fun z => absurd z (by decide), fun z => absurd z (by decide), fun z => absurd z (by decide), by intros; contradiction⟩
  exact ok_loopAt hR hI hl (ok_reelAtN hR hI hr (sm_t (sm_n q)))
theorem wn_splice_x {l r : Nat} {x y : Int32} (hR : Rl b N h) (hI : Inv N) (hl : l < N 0 1) (hr : r < N 0 0) (hx : ¬ inB x 0 (N (1 + r) 0 + 1)) (q : Q 1 h) : wp_X5_whyNot b 99 (nI l) (nI r) x y h Q := by
  unfold wp_X5_whyNot wp_X5_whyNotSplice
  refine ⟨fun _ => ?_, fun z => absurd z (by decide), fun z => absurd z (by decide), fun z => absurd z (by decide), fun z => absurd z (by decide), fun z => absurd z (by decide), fun z => absurd z (by decide), fun z => absurd z (by decide), fun z => absurd z (by decide), fun z => absurd z (by decide), by intros; contradiction⟩
  exact ok_loopAt hR hI hl (ok_reelAt hR hI hr (sm_t (sm_t (ok_hasPlaceN (hR.re hr) (hI.ir hr) hx (bt rfl q)))))
theorem wn_splice_y {l r x : Nat} {y : Int32} (hR : Rl b N h) (hI : Inv N) (hl : l < N 0 1) (hr : r < N 0 0) (hx : x ≤ N (1 + r) 0) (hy : ¬ inB y 0 (N (1 + r) 0 + 1)) (q : Q 1 h) : wp_X5_whyNot b 99 (nI l) (nI r) (nI x) y h Q := by
  unfold wp_X5_whyNot wp_X5_whyNotSplice
  refine ⟨fun _ => ?_, fun z => absurd z (by decide), fun z => absurd z (by decide), fun z => absurd z (by decide), fun z => absurd z (by decide), fun z => absurd z (by decide), fun z => absurd z (by decide), fun z => absurd z (by decide), fun z => absurd z (by decide), fun z => absurd z (by decide), by intros; contradiction⟩
  exact ok_loopAt hR hI hl (ok_reelAt hR hI hr (sm_t (sm_t (ok_hasPlace (hR.re hr) (hI.ir hr) hx (bf (by decide) (ok_hasPlaceN (hR.re hr) (hI.ir hr) hy (bt' rfl q)))))))
def okSp (N : Nat → Nat → Nat) (l r x y : Nat) : Prop := l < N 0 1 ∧ r < N 0 0 ∧ x ≤ N (1 + r) 0 ∧ y ≤ N (1 + r) 0
theorem wn_splice_0 {l r x y : Nat} (hR : Rl b N h) (hI : Inv N) (ok : okSp N l r x y) (q : Q 0 h) : wp_X5_whyNot b 99 (nI l) (nI r) (nI x) (nI y) h Q := by
  unfold wp_X5_whyNot wp_X5_whyNotSplice
  obtain ⟨hl, hr, hx, hy⟩ := ok
  refine ⟨fun _ => ?_, fun z => absurd z (by decide), fun z => absurd z (by decide), fun z => absurd z (by decide), fun z => absurd z (by decide), fun z => absurd z (by decide), fun z => absurd z (by decide), fun z => absurd z (by decide), fun z => absurd z (by decide), fun z => absurd z (by decide), by intros; contradiction⟩
  exact ok_loopAt hR hI hl (ok_reelAt hR hI hr (sm_t (sm_t (ok_hasPlace (hR.re hr) (hI.ir hr) hx (bf (by decide) (ok_hasPlace (hR.re hr) (hI.ir hr) hy (bf' (by decide) q)))))))
theorem wn_unsplice_l {l u v y : Int32} (hR : Rl b N h) (hI : Inv N) (hl : ¬ inB l 0 (N 0 1)) (q : Q 1 h) : wp_X5_whyNot b 117 l u v y h Q := by
  unfold wp_X5_whyNot wp_X5_whyNotUnsplice
  refine ⟨fun z => absurd z (by decide), fun z => absurd z (by decide), fun z => absurd z (by decide), fun z => absurd z (by decide), fun z => absurd z (by decide), fun z => absurd z (by decide), fun z => absurd z (by decide), fun _ => ?_, fun z => absurd z (by decide), fun z => absurd z (by decide), by intros; contradiction⟩
  exact ok_loopAtN hR hI hl (sm_n q)
theorem wn_unsplice_3 {l : Nat} {u v y : Int32} (hR : Rl b N h) (hI : Inv N) (hl : l < N 0 1) (h0 : N (4 + l) 0 = 0) (q : Q 3 h) : wp_X5_whyNot b 117 (nI l) u v y h Q := by
  unfold wp_X5_whyNot wp_X5_whyNotUnsplice
  refine ⟨fun z => absurd z (by decide), fun z => absurd z (by decide), fun z => absurd z (by decide), fun z => absurd z (by decide), fun z => absurd z (by decide), fun z => absurd z (by decide), fun z => absurd z (by decide), fun _ => ?_, fun z => absurd z (by decide), fun z => absurd z (by decide), by intros; contradiction⟩
  exact ok_loopAt hR hI hl (sm_t (ok_isEmpty (hR.lo hl) (hI.il hl) (bf (by simp [h0, bi]) q)))
theorem wn_unsplice_0 {l : Nat} {u v y : Int32} (hR : Rl b N h) (hI : Inv N) (hl : l < N 0 1) (h0 : N (4 + l) 0 ≠ 0) (q : Q 0 h) : wp_X5_whyNot b 117 (nI l) u v y h Q := by
  unfold wp_X5_whyNot wp_X5_whyNotUnsplice
  refine ⟨fun z => absurd z (by decide), fun z => absurd z (by decide), fun z => absurd z (by decide), fun z => absurd z (by decide), fun z => absurd z (by decide), fun z => absurd z (by decide), fun z => absurd z (by decide), fun _ => ?_, fun z => absurd z (by decide), fun z => absurd z (by decide), by intros; contradiction⟩
  exact ok_loopAt hR hI hl (sm_t (ok_isEmpty (hR.lo hl) (hI.il hl) (bt (by simp [h0, bi]) q)))
theorem wn_speed_l {l p s y : Int32} (hR : Rl b N h) (hI : Inv N) (hl : ¬ inB l 0 (N 0 1)) (q : Q 1 h) : wp_X5_whyNot b 118 l p s y h Q := by
  unfold wp_X5_whyNot
  refine ⟨fun z => absurd z (by decide), fun z => absurd z (by decide), fun z => absurd z (by decide), fun z => absurd z (by decide), fun z => absurd z (by decide), fun z => absurd z (by decide), fun z => absurd z (by decide), fun z => absurd z (by decide), fun _ => ?_, fun z => absurd z (by decide), by intros; contradiction⟩
  exact ok_loopAtN hR hI hl (sm_n q)
theorem wn_speed_p {l : Nat} {p s y : Int32} (hR : Rl b N h) (hI : Inv N) (hl : l < N 0 1) (hp : ¬ inB p 1 10) (q : Q 2 h) : wp_X5_whyNot b 118 (nI l) p s y h Q := by
  unfold wp_X5_whyNot
  refine ⟨fun z => absurd z (by decide), fun z => absurd z (by decide), fun z => absurd z (by decide), fun z => absurd z (by decide), fun z => absurd z (by decide), fun z => absurd z (by decide), fun z => absurd z (by decide), fun z => absurd z (by decide), fun _ => ?_, fun z => absurd z (by decide), by intros; contradiction⟩
  exact ok_loopAt hR hI hl (sm_t (out_out (lo := 1) (hi := 9) hp (by omega) (by omega) (bf' (by decide) q)))
theorem wn_speed_q {l p : Nat} {s y : Int32} (hR : Rl b N h) (hI : Inv N) (hl : l < N 0 1) (hp : 1 ≤ p ∧ p ≤ 9) (hs : ¬ inB s 1 10) (q : Q 2 h) : wp_X5_whyNot b 118 (nI l) (nI p) s y h Q := by
  unfold wp_X5_whyNot
  refine ⟨fun z => absurd z (by decide), fun z => absurd z (by decide), fun z => absurd z (by decide), fun z => absurd z (by decide), fun z => absurd z (by decide), fun z => absurd z (by decide), fun z => absurd z (by decide), fun z => absurd z (by decide), fun _ => ?_, fun z => absurd z (by decide), by intros; contradiction⟩
  exact ok_loopAt hR hI hl (sm_t (out_in (lo := 1) (hi := 9) hp.1 hp.2 (by omega) (bt' rfl (out_out (lo := 1) (hi := 9) hs (by omega) (by omega) (bf (by decide) q)))))
theorem wn_speed_0 {l p s : Nat} {y : Int32} (hR : Rl b N h) (hI : Inv N) (hl : l < N 0 1) (hp : 1 ≤ p ∧ p ≤ 9) (hs : 1 ≤ s ∧ s ≤ 9) (q : Q 0 h) : wp_X5_whyNot b 118 (nI l) (nI p) (nI s) y h Q := by
  unfold wp_X5_whyNot
  refine ⟨fun z => absurd z (by decide), fun z => absurd z (by decide), fun z => absurd z (by decide), fun z => absurd z (by decide), fun z => absurd z (by decide), fun z => absurd z (by decide), fun z => absurd z (by decide), fun z => absurd z (by decide), fun _ => ?_, fun z => absurd z (by decide), by intros; contradiction⟩
  exact ok_loopAt hR hI hl (sm_t (out_in (lo := 1) (hi := 9) hp.1 hp.2 (by omega) (bt' rfl (out_in (lo := 1) (hi := 9) hs.1 hs.2 (by omega) (bt rfl q)))))
theorem wn_mute_l {l u v y : Int32} (hR : Rl b N h) (hI : Inv N) (hl : ¬ inB l 0 (N 0 1)) (q : Q 1 h) : wp_X5_whyNot b 109 l u v y h Q := by
  unfold wp_X5_whyNot
  refine ⟨fun z => absurd z (by decide), fun z => absurd z (by decide), fun z => absurd z (by decide), fun _ => ?_, fun z => absurd z (by decide), fun z => absurd z (by decide), fun z => absurd z (by decide), fun z => absurd z (by decide), fun z => absurd z (by decide), fun z => absurd z (by decide), by intros; contradiction⟩
  exact ok_loopAtN hR hI hl (sm_n q)
theorem wn_mute_0 {l : Nat} {u v y : Int32} (hR : Rl b N h) (hI : Inv N) (hl : l < N 0 1) (q : Q 0 h) : wp_X5_whyNot b 109 (nI l) u v y h Q := by
  unfold wp_X5_whyNot
  refine ⟨fun z => absurd z (by decide), fun z => absurd z (by decide), fun z => absurd z (by decide), fun _ => ?_, fun z => absurd z (by decide), fun z => absurd z (by decide), fun z => absurd z (by decide), fun z => absurd z (by decide), fun z => absurd z (by decide), fun z => absurd z (by decide), by intros; contradiction⟩
  exact ok_loopAt hR hI hl (sm_t q)
theorem wn_ticks_2 {n u v y : Int32} (hn : ¬ inB n 1 1000) (q : Q 2 h) : wp_X5_whyNot b 116 n u v y h Q := by
  unfold wp_X5_whyNot
  refine ⟨fun z => absurd z (by decide), fun z => absurd z (by decide), fun z => absurd z (by decide), fun z => absurd z (by decide), fun z => absurd z (by decide), fun z => absurd z (by decide), fun _ => ?_, fun z => absurd z (by decide), fun z => absurd z (by decide), fun z => absurd z (by decide), by intros; contradiction⟩
  exact out_out (lo := 1) (hi := 999) hn (by omega) (by omega) (bf (by decide) q)
theorem wn_ticks_0 {n : Nat} {u v y : Int32} (h1 : 1 ≤ n) (h2 : n ≤ 999) (q : Q 0 h) : wp_X5_whyNot b 116 (nI n) u v y h Q := by
  unfold wp_X5_whyNot
  refine ⟨fun z => absurd z (by decide), fun z => absurd z (by decide), fun z => absurd z (by decide), fun z => absurd z (by decide), fun z => absurd z (by decide), fun z => absurd z (by decide), fun _ => ?_, fun z => absurd z (by decide), fun z => absurd z (by decide), fun z => absurd z (by decide), by intros; contradiction⟩
  exact out_in (lo := 1) (hi := 999) h1 h2 (by omega) (bt rfl q)
theorem wn_record_r {r n v y : Int32} (hR : Rl b N h) (hI : Inv N) (hr : ¬ inB r 0 (N 0 0)) (q : Q 1 h) : wp_X5_whyNot b 119 r n v y h Q := by
  unfold wp_X5_whyNot wp_X5_whyNotRecord
  refine ⟨fun z => absurd z (by decide), fun z => absurd z (by decide), fun z => absurd z (by decide), fun z => absurd z (by decide), fun z => absurd z (by decide), fun z => absurd z (by decide), fun z => absurd z (by decide), fun z => absurd z (by decide), fun z => absurd z (by decide), fun _ => ?_, by intros; contradiction⟩
  exact ok_reelAtN hR hI hr (sm_n q)
theorem wn_record_n {r : Nat} {n v y : Int32} (hR : Rl b N h) (hI : Inv N) (hr : r < N 0 0) (hn : ¬ inB n 1 (N (1 + r) 0 + 1)) (q : Q 2 h) : wp_X5_whyNot b 119 (nI r) n v y h Q := by
  unfold wp_X5_whyNot wp_X5_whyNotRecord
  have := (hI.ir hr).1
  refine ⟨fun z => absurd z (by decide), fun z => absurd z (by decide), fun z => absurd z (by decide), fun z => absurd z (by decide), fun z => absurd z (by decide), fun z => absurd z (by decide), fun z => absurd z (by decide), fun z => absurd z (by decide), fun z => absurd z (by decide), fun _ => ?_, by intros; contradiction⟩
  refine ok_reelAt hR hI hr (sm_t ?_)
  rw [(hR.re hr).2.1]
  exact out_out (lo := 1) (hi := N (1 + r) 0) hn (by omega) (by omega) (bf (by decide) q)
theorem wn_record_0 {r n : Nat} {v y : Int32} (hR : Rl b N h) (hI : Inv N) (hr : r < N 0 0) (h1 : 1 ≤ n) (h2 : n ≤ N (1 + r) 0) (q : Q 0 h) : wp_X5_whyNot b 119 (nI r) (nI n) v y h Q := by
  unfold wp_X5_whyNot wp_X5_whyNotRecord
  have := (hI.ir hr).1
  refine ⟨fun z => absurd z (by decide), fun z => absurd z (by decide), fun z => absurd z (by decide), fun z => absurd z (by decide), fun z => absurd z (by decide), fun z => absurd z (by decide), fun z => absurd z (by decide), fun z => absurd z (by decide), fun z => absurd z (by decide), fun _ => ?_, by intros; contradiction⟩
  refine ok_reelAt hR hI hr (sm_t ?_)
  rw [(hR.re hr).2.1]
  exact out_in (lo := 1) (hi := N (1 + r) 0) h1 h2 (by omega) (bt rfl q)
/-- done: the heap afterwards, and the refused -/
def Dn (b : Nat) (N' : Nat → Nat → Nat) (h h' : PH) : Prop := Fr b 21 h h' ∧ h' b 5 = h b 5 ∧ Rl b N' h'
theorem co_reel {x : Nat} {u v y : Int32} (hS : SB b) (hR : Rl b N h) (hI : Inv N) (h2 : x ≤ 60) (h3 : N 0 0 < 3) (q : ∀ h', Dn b (adR N x) h h' → Q (nI (N 0 0)) h') : wp_X5_carryOut b 114 (nI x) u v y h Q := by
  unfold wp_X5_carryOut
  refine ⟨fun z => absurd z (by decide), fun z => absurd z (by decide), fun z => absurd z (by decide), fun z => absurd z (by decide), fun z => absurd z (by decide), fun _ => ?_, fun z => absurd z (by decide), fun z => absurd z (by decide), fun z => absurd z (by decide), fun z => absurd z (by decide), by intros; contradiction⟩
  exact ok_addReel hS hR hI h3 h2 (fun h' F e R => q h' ⟨F, e, R⟩)
theorem co_loop {x u v y : Int32} (hS : SB b) (hR : Rl b N h) (hI : Inv N) (h4 : N 0 1 < 4) (q : ∀ h', Dn b (adL N) h h' → Q (nI (N 0 1)) h') : wp_X5_carryOut b 108 x u v y h Q := by
  unfold wp_X5_carryOut
  refine ⟨fun z => absurd z (by decide), fun z => absurd z (by decide), fun _ => ?_, fun z => absurd z (by decide), fun z => absurd z (by decide), fun z => absurd z (by decide), fun z => absurd z (by decide), fun z => absurd z (by decide), fun z => absurd z (by decide), fun z => absurd z (by decide), by intros; contradiction⟩
  exact ok_addLoop hS hR hI h4 (fun h' F e R => q h' ⟨F, e, R⟩)
theorem co_paint {r x y v : Nat} (hR : Rl b N h) (hI : Inv N) (ok : okPa N r x y v) (q : ∀ h', Dn b (paS N r x y v) h h' → Q (nI (paC (N (1 + r)) x (y + 1) v)) h') : wp_X5_carryOut b 112 (nI r) (nI x) (nI y) (nI v) h Q := by
  unfold wp_X5_carryOut wp_X5_layOn
  obtain ⟨hr, hx, hy, ho, hv⟩ := ok
  have := hI.1
  refine ⟨fun z => absurd z (by decide), fun z => absurd z (by decide), fun z => absurd z (by decide), fun z => absurd z (by decide), fun _ => ?_, fun z => absurd z (by decide), fun z => absurd z (by decide), fun z => absurd z (by decide), fun z => absurd z (by decide), fun z => absurd z (by decide), by intros; contradiction⟩
  refine ok_reelAt hR hI hr (sm_t (ok_lay (hR.re hr) (hI.ir hr) ho hy hv ?_))
  intro h' F' R'
  exact q h' ⟨F'.sub (by omega) (by omega), by rw [F' b (by omega)], hR.setR hI hr F' R'⟩
theorem co_splice {l r x y : Nat} (hR : Rl b N h) (hI : Inv N) (ok : okSp N l r x y)
    (q0 : rsN N l r x y = 0 → ∀ h', Dn b (jnS N l r x y) h h' → Q 0 h')
    (q1 : rsN N l r x y ≠ 0 → Rl b N (up2 h b 5 (h b 5 + 1)) → Q (nI (rsN N l r x y)) (up2 h b 5 (h b 5 + 1))) : wp_X5_carryOut b 99 (nI l) (nI r) (nI x) (nI y) h Q := by
  unfold wp_X5_carryOut
  obtain ⟨hl, hr, hx, hy⟩ := ok
  refine ⟨fun _ => ?_, fun z => absurd z (by decide), fun z => absurd z (by decide), fun z => absurd z (by decide), fun z => absurd z (by decide), fun z => absurd z (by decide), fun z => absurd z (by decide), fun z => absurd z (by decide), fun z => absurd z (by decide), fun z => absurd z (by decide), by intros; contradiction⟩
  exact ok_loopAt hR hI hl (ok_reelAt hR hI hr (ok_joinTo hR hI hl hr hx hy (fun e h' F e5 R => q0 e h' ⟨F, e5, R⟩) q1))
theorem co_unsplice {l : Nat} {u v y : Int32} (hR : Rl b N h) (hI : Inv N) (hl : l < N 0 1) (h0 : N (4 + l) 0 ≠ 0) (q : ∀ h', Dn b (toS N l) h h' → Q (nI (toN (N (4 + l)) 0)) h') : wp_X5_carryOut b 117 (nI l) u v y h Q := by
  unfold wp_X5_carryOut wp_X5_takeOff
  have il := hI.il hl
  have i5 := il.some (by omega)
  have := hI.2.1
  refine ⟨fun z => absurd z (by decide), fun z => absurd z (by decide), fun z => absurd z (by decide), fun z => absurd z (by decide), fun z => absurd z (by decide), fun z => absurd z (by decide), fun z => absurd z (by decide), fun _ => ?_, fun z => absurd z (by decide), fun z => absurd z (by decide), by intros; contradiction⟩
  refine ok_loopAt hR hI hl (sm_t (ok_takeOff (hR.lo hl) il i5 (il.last i5).1 ?_))
  intro h' F' R'
  exact q h' ⟨F'.sub (by omega) (by omega), by rw [F' b (by omega)], hR.setL hI hl F' R'⟩
theorem co_speed {l p s : Nat} {y : Int32} (hR : Rl b N h) (hI : Inv N) (hl : l < N 0 1) (hs : s ≤ 9) (q : ∀ h', Dn b (spS N l p s) h h' → Q (nI (N (4 + l) 3 / N (4 + l) 2 * s)) h') : wp_X5_carryOut b 118 (nI l) (nI p) (nI s) y h Q := by
  unfold wp_X5_carryOut wp_X5_changeSpeed
  have := hI.2.1
  refine ⟨fun z => absurd z (by decide), fun z => absurd z (by decide), fun z => absurd z (by decide), fun z => absurd z (by decide), fun z => absurd z (by decide), fun z => absurd z (by decide), fun z => absurd z (by decide), fun z => absurd z (by decide), fun _ => ?_, fun z => absurd z (by decide), by intros; contradiction⟩
  refine ok_loopAt hR hI hl (sm_t (ok_changeSpeed (hR.lo hl) (hI.il hl) hs ?_))
  intro h' F' R'
  exact q h' ⟨F'.sub (by omega) (by omega), by rw [F' b (by omega)], hR.setL hI hl F' R'⟩
theorem co_mute {l : Nat} {m : Bool} {v y : Int32} (hR : Rl b N h) (hI : Inv N) (hl : l < N 0 1) (q : ∀ h', Dn b (muS N l m.toNat) h h' → Q (nI (sndN (muS N l m.toNat) 0)) h') : wp_X5_carryOut b 109 (nI l) (bi m) v y h Q := by
  unfold wp_X5_carryOut
  refine ⟨fun z => absurd z (by decide), fun z => absurd z (by decide), fun z => absurd z (by decide), fun _ => ?_, fun z => absurd z (by decide), fun z => absurd z (by decide), fun z => absurd z (by decide), fun z => absurd z (by decide), fun z => absurd z (by decide), fun z => absurd z (by decide), by intros; contradiction⟩
  cases m with
  | false => exact ok_loopAt hR hI hl (bf' (by decide) (ok_changeMuted (m := 0) hR hI hl (by omega) (fun h' F e R => q h' ⟨F, e, R⟩)))
  | true => exact ok_loopAt hR hI hl (bt' (by decide) (ok_changeMuted (m := 1) hR hI hl (by omega) (fun h' F e R => q h' ⟨F, e, R⟩)))
theorem co_ticks {n : Nat} {u v y : Int32} (hR : Rl b N h) (hI : Inv N) (h2 : n ≤ 999) (q : ∀ h', Dn b (gnN N n) h h' → Q (nI (sndN (gnN N n) 0)) h') : wp_X5_carryOut b 116 (nI n) u v y h Q := by
  unfold wp_X5_carryOut
  refine ⟨fun z => absurd z (by decide), fun z => absurd z (by decide), fun z => absurd z (by decide), fun z => absurd z (by decide), fun z => absurd z (by decide), fun z => absurd z (by decide), fun _ => ?_, fun z => absurd z (by decide), fun z => absurd z (by decide), fun z => absurd z (by decide), by intros; contradiction⟩
  exact ok_goOn hR hI h2 (fun h' F e R => ok_soundBehind (n := 0) R hI.go (by omega) (q h' ⟨F, e, R⟩))
theorem co_record {r n : Nat} {v y : Int32} (hR : Rl b N h) (hI : Inv N) (hr : r < N 0 0) (h2 : n ≤ N (1 + r) 0) (q : ∀ h', Dn b (rcS N r n) h h' → Q (nI (rcV N n)) h') : wp_X5_carryOut b 119 (nI r) (nI n) v y h Q := by
  unfold wp_X5_carryOut
  refine ⟨fun z => absurd z (by decide), fun z => absurd z (by decide), fun z => absurd z (by decide), fun z => absurd z (by decide), fun z => absurd z (by decide), fun z => absurd z (by decide), fun z => absurd z (by decide), fun z => absurd z (by decide), fun z => absurd z (by decide), fun _ => ?_, by intros; contradiction⟩
  exact ok_reelAt hR hI hr (ok_recordOn hR hI hr h2 (fun h' F e R => q h' ⟨F, e, R⟩))
end

