
theorem Mw.cong {g : Nat → Int32} {N N' : Nat → Nat → Nat} (h : Mw g N) (h0 : ∀ j, j < 4 → N 0 j = N' 0 j) (h1 : ∀ r, r < 3 → ∀ j, j < 61 → N (1 + r) j = N' (1 + r) j) (h2 : ∀ l, l < 4 → ∀ j, j < 60 → N (4 + l) j = N' (4 + l) j) : Mw g N' :=
  ⟨fun j hj => by rw [h.1 j hj, h0 j hj], fun r hr => ⟨by rw [(h.2.1 r hr).1, h1 r hr 0 (by omega)], fun c hc => by rw [(h.2.1 r hr).2 c hc, h1 r hr _ (by omega)]⟩, fun l hl j hj => by rw [h.2.2 l hl j hj, h2 l hl j hj]⟩
theorem Mw.upG {g : Nat → Int32} {N : Nat → Nat → Nat} {j x : Nat} (h : Mw g N) (hj : j < 4) : Mw (upd g j (nI x)) (setO N 0 (ufn (N 0) j x)) := by
  refine ⟨fun i hi => ?_, fun r hr => ⟨?_, fun c hc => ?_⟩, fun l hl w hw => ?_⟩
  · rw [setO_s]
    by_cases e : i = j
    · subst e; rw [pk_us, ufn_s]
    · rw [pk_un e, ufn_n e]; exact h.1 i hi
  · rw [setO_n (by omega), pk_un (by omega)]; exact (h.2.1 r hr).1
  · rw [setO_n (by omega), pk_un (by omega)]; exact (h.2.1 r hr).2 c hc
  · rw [setO_n (by omega), pk_un (by omega)]; exact h.2.2 l hl w hw
theorem Mw.upR0 {g : Nat → Int32} {N : Nat → Nat → Nat} {r x : Nat} (h : Mw g N) (hr : r < 3) : Mw (upd g (4 + 61 * r) (nI x)) (setO N (1 + r) (ufn (N (1 + r)) 0 x)) := by
  refine ⟨fun i hi => ?_, fun r' hr' => ⟨?_, fun c hc => ?_⟩, fun l hl w hw => ?_⟩
  · rw [setO_n (by omega), pk_un (by omega)]; exact h.1 i hi
  · by_cases e : r' = r
    · subst e; rw [pk_us, setO_s, ufn_s]
    · rw [setO_n (by omega), pk_un (by omega)]; exact (h.2.1 r' hr').1
  · rw [pk_un (by omega)]
    by_cases e : r' = r
    · subst e; rw [setO_s, ufn_n (by omega)]; exact (h.2.1 r' hr').2 c hc
    · rw [setO_n (by omega)]; exact (h.2.1 r' hr').2 c hc
  · rw [setO_n (by omega), pk_un (by omega)]; exact h.2.2 l hl w hw
theorem Mw.upR {g : Nat → Int32} {N : Nat → Nat → Nat} {r c x : Nat} (h : Mw g N) (hr : r < 3) (hc : c < 60) : Mw (upd g (4 + 61 * r + 1 + c) (nI x)) (setO N (1 + r) (ufn (N (1 + r)) (1 + c) x)) := by
  refine ⟨fun i hi => ?_, fun r' hr' => ⟨?_, fun c' hc' => ?_⟩, fun l hl w hw => ?_⟩
  · rw [setO_n (by omega), pk_un (by omega)]; exact h.1 i hi
  · rw [pk_un (by omega)]
    by_cases e : r' = r
    · subst e; rw [setO_s, ufn_n (by omega)]; exact (h.2.1 r' hr').1
    · rw [setO_n (by omega)]; exact (h.2.1 r' hr').1
  · by_cases e : r' = r ∧ c' = c
    · obtain ⟨rfl, rfl⟩ := e; rw [pk_us, setO_s, ufn_s]
    · rw [pk_un (by omega)]
      by_cases e2 : r' = r
      · subst e2; rw [setO_s, ufn_n (by omega)]; exact (h.2.1 r' hr').2 c' hc'
      · rw [setO_n (by omega)]; exact (h.2.1 r' hr').2 c' hc'
  · rw [setO_n (by omega), pk_un (by omega)]; exact h.2.2 l hl w hw
theorem Mw.upL {g : Nat → Int32} {N : Nat → Nat → Nat} {l u x : Nat} (h : Mw g N) (hl : l < 4) (hu : u < 60) : Mw (upd g (187 + 60 * l + u) (nI x)) (setO N (4 + l) (ufn (N (4 + l)) u x)) := by
  refine ⟨fun i hi => ?_, fun r' hr' => ⟨?_, fun c' hc' => ?_⟩, fun l' hl' w hw => ?_⟩
  · rw [setO_n (by omega), pk_un (by omega)]; exact h.1 i hi
  · rw [setO_n (by omega), pk_un (by omega)]; exact (h.2.1 r' hr').1
  · rw [setO_n (by omega), pk_un (by omega)]; exact (h.2.1 r' hr').2 c' hc'
  · by_cases e : l' = l ∧ w = u
    · obtain ⟨rfl, rfl⟩ := e; rw [pk_us, setO_s, ufn_s]
    · rw [pk_un (by omega)]
      by_cases e2 : l' = l
      · subst e2; rw [setO_s, ufn_n (by omega)]; exact h.2.2 l' hl' w hw
      · rw [setO_n (by omega)]; exact h.2.2 l' hl' w hw
section
variable {a : Nat} {N : Nat → Nat → Nat} {h : PH}
theorem mo_lay {Q : PH → Prop} {l u x : Nat} (ha : al a = 427) (hM : Mw (h a) N) (hl : l < 4) (hu : u < 60) (q : ∀ h', Fr a 1 h h' → Mw (h' a) (setO N (4 + l) (ufn (N (4 + l)) u x)) → Q h') : wp_X8_lay a (nI l) (nI u) (nI x) h Q := by
  unfold wp_X8_lay
  rw [ha, li_187, li_60, pk_mul, nI_add, nI_add]
  refine ⟨vp_in_nI (by omega) (by omega), ?_⟩
  rintro h2 rfl
  rw [nI_clamp (by omega)]
  exact q _ Fr.up (by rw [up2_s]; exact hM.upL hl hu)
/-- with the loop's picture named -/
theorem mo_lay' {Q : PH → Prop} {l u x : Nat} {M : Nat → Nat → Nat} {f : Nat → Nat} (ha : al a = 427) (hM : Mw (h a) (setO M (4 + l) f)) (hl : l < 4) (hu : u < 60) (q : ∀ h', Fr a 1 h h' → Mw (h' a) (setO M (4 + l) (ufn f u x)) → Q h') : wp_X8_lay a (nI l) (nI u) (nI x) h Q := by
  refine mo_lay ha hM hl hu ?_
  rw [setO_2, setO_s]
  exact q
theorem Mw.l' {g : Nat → Int32} {M : Nat → Nat → Nat} {l : Nat} {f : Nat → Nat} (hM : Mw g (setO M (4 + l) f)) (hl : l < 4) : Ml g l f := by
  have := hM.l hl
  rw [setO_s] at this
  exact this
theorem mo_goOn {Q : Int32 → PH → Prop} {n : Nat} (ha : al a = 427) (hM : Mw (h a) N) (hI : Inv N) (hn : n ≤ 999) (q : ∀ h', Fr a 1 h h' → Mw (h' a) (gnN N n) → Q (nI (sndN (gnN N n) 0)) h') : wp_X8_goOn a (nI n) h Q := by
  have h4 := hI.2.1
  refine ⟨N 0 1 + 1, ?_⟩
  suffices H : ∀ d i g, i + d = N 0 1 → Fr a 1 h g → Mw (g a) (gnP N n i) → wp_X8_goOn_b2 a (nI n) Q (d + 1) (nI i) g from H (N 0 1) 0 h (by omega) Fr.rf (by rw [gnP_0]; exact hM)
  intro d
  induction d with
  | zero =>
    intro i g hi hF hP
    unfold wp_X8_goOn_b2
    have g1 : g a 1 = nI (N 0 1) := hP.g (by omega)
    have g2 : g a 2 = nI (N 0 2) := hP.g (by omega)
    rw [ha, li_1, li_2, nI_clamp (by omega), nI_clamp (by omega), g1, g2, nI_add]
    refine ⟨vp_in_nI (by omega) (by omega), bt (nI_le (by omega) (by omega)) ⟨vp_in_nI (by omega) (by omega), vp_in_nI (by omega) (by omega), ?_⟩⟩
    rintro h5 rfl
    have R' : Mw (up2 g a 2 (nI (N 0 2 + n)) a) (gnN N n) := by
      rw [up2_s]
      have := hP.upG (j := 2) (x := N 0 2 + n) (by omega)
      rw [show gnP N n i 0 = N 0 from gnP_lo (by omega), show i = N 0 1 by omega] at this
      exact this
    exact mo_soundLater (n := 0) ha R' hI.go (by omega) (q _ (hF.u a 2 _ (by omega)) R')
  | succ d ih =>
    intro i g hi hF hP
    unfold wp_X8_goOn_b2
    have g1 : g a 1 = nI (N 0 1) := hP.g (by omega)
    have il := hI.il (by omega : i < N 0 1)
    have hl : Ml (g a) i (N (4 + i)) := by have := hP.l (l := i) (by omega); rw [gnP_at] at this; exact this
    have b0 := il.1
    rw [ha, li_1, nI_clamp (by omega), g1]
    refine ⟨vp_in_nI (by omega) (by omega), bf (nI_ge (by omega) (by omega)) (mo_of (u := 0) ha hl (by omega) (by omega) ?_)⟩
    rw [li_0]
    by_cases e : N (4 + i) 0 = 0
    · refine bt (nI_le (by omega) (by omega)) ?_
      rintro x rfl
      rw [nI_add]
      refine ih (i + 1) g (by omega) hF ?_
      rw [← gnP_s]
      have e3 : phN (N (4 + i)) n = N (4 + i) 3 := by
        unfold phN
        rw [if_pos e, il.2.2.2.2.2.1 e]
      rw [e3, ufn_id]
      have : gnP N n i (4 + i) = N (4 + i) := gnP_at
      rw [← this, setO_id]
      exact hP
    · refine bf (nI_ge (by omega) (by omega)) ?_
      rw [nI_l (by omega : n < 2 ^ 31)]
      refine mo_phaseIn ha hl (by omega) il (by omega) (by omega) (mo_lay (u := 3) ha hP (by omega) (by omega) ?_)
      intro h' F' M'
      rintro x rfl
      rw [nI_add]
      refine ih (i + 1) h' (by omega) (hF.tr F') ?_
      rw [gnP_at, gnP_s] at M'
      exact M'
theorem mo_reelOn {Q : Int32 → PH → Prop} {n : Nat} (ha : al a = 427) (hM : Mw (h a) N) (h3 : N 0 0 < 3) (q : ∀ h', Fr a 1 h h' → Mw (h' a) (adR N n) → Q (nI (N 0 0)) h') : wp_X8_reelOn a (nI n) h Q := by
  unfold wp_X8_reelOn
  rw [ha, li_0, nI_clamp (by omega), hM.g (by omega)]
  refine ⟨vp_in_nI (by omega) (by omega), ?_⟩
  rintro x rfl
  rw [li_4, li_61, pk_mul, nI_add]
  refine ⟨vp_in_nI (by omega) (by omega), ?_⟩
  rintro h4 rfl
  rw [nI_clamp (by omega)]
  refine ⟨61, ?_⟩
  generalize hr : N 0 0 = r at *
  suffices H : ∀ d i g, i + d = 60 → Fr a 1 h g → Mw (g a) (setO N (1 + r) (fun j => if j = 0 then n else if 1 ≤ j ∧ j < 1 + i then 0 else N (1 + r) j)) → wp_X8_reelOn_b15 a (nI r) Q (d + 1) (nI i) g by
    refine H 60 0 _ (by omega) Fr.up ?_
    rw [up2_s]
    refine (hM.upR0 (r := r) (x := n) h3).cong (fun j hj => ?_) (fun r' hr' j hj => ?_) (fun l hl j hj => ?_)
    · rw [setO_n (by omega), setO_n (by omega)]
    · by_cases e : r' = r
      · subst e
        rw [setO_s, setO_s]
        unfold ufn
        (try dsimp only)
        by_cases e0 : j = 0
        · rw [if_pos e0, if_pos e0]
        · rw [if_neg e0, if_neg e0, if_neg (by omega)]
      · rw [setO_n (by omega), setO_n (by omega)]
    · rw [setO_n (by omega), setO_n (by omega)]
  intro d
  induction d with
  | zero =>
    intro i g hi hF hP
    unfold wp_X8_reelOn_b15
    have g0 : g a 0 = nI r := by rw [hP.g (by omega), setO_n (by omega), hr]
    rw [ha, li_0, nI_clamp (by omega), g0, li_1, nI_add, li_60]
    refine bt (nI_le (by omega) (by omega)) ⟨vp_in_nI (by omega) (by omega), vp_in_nI (by omega) (by omega), ?_⟩
    rintro h8 rfl
    refine q _ (hF.u a 0 _ (by omega)) ?_
    rw [up2_s]
    refine (hP.upG (j := 0) (x := r + 1) (by omega)).cong (fun j hj => ?_) (fun r' hr' j hj => ?_) (fun l hl j hj => ?_)
    · unfold adR
      rw [setO_s, setO_s, setO_n (by omega), hr]
    · unfold adR
      rw [setO_n (o := 0) (by omega), setO_n (o := 0) (by omega), hr]
      by_cases e : r' = r
      · subst e
        rw [setO_s, setO_s]
        unfold newR
        (try dsimp only)
        by_cases e0 : j = 0
        · rw [if_pos e0, if_pos e0]
        · rw [if_neg e0, if_neg e0, if_pos (by omega)]
      · rw [setO_n (by omega), setO_n (by omega)]
    · unfold adR
      rw [setO_n (by omega), setO_n (by omega), setO_n (by omega), setO_n (by omega)]
  | succ d ih =>
    intro i g hi hF hP
    unfold wp_X8_reelOn_b15
    rw [ha, li_4, li_61, li_1, li_60, pk_mul, nI_add, nI_add, nI_add]
    refine bf (nI_ge (by omega) (by omega)) ⟨vp_in_nI (by omega) (by omega), ?_⟩
    rintro h10 rfl x rfl
    rw [nI_add, nI_clamp (by omega)]
    refine ih (i + 1) _ (by omega) (hF.u a _ _ (by omega)) ?_
    rw [up2_s]
    have := hP.upR (r := r) (c := i) (x := 0) h3 (by omega)
    rw [setO_2, setO_s] at this
    refine this.cong (fun j hj => ?_) (fun r' hr' j hj => ?_) (fun l hl j hj => ?_)
    · rw [setO_n (by omega), setO_n (by omega)]
    · by_cases e : r' = r
      · subst e
        rw [setO_s, setO_s]
        unfold ufn
        (try dsimp only)
        by_cases e0 : j = 1 + i
        · rw [if_pos e0, if_neg (by omega), if_pos (by omega)]
        · rw [if_neg e0]
          by_cases e1 : j = 0
          · rw [if_pos e1, if_pos e1]
          · rw [if_neg e1, if_neg e1]
            by_cases e2 : 1 ≤ j ∧ j < 1 + i
            · rw [if_pos e2, if_pos (by omega)]
            · rw [if_neg e2, if_neg (by omega)]
      · rw [setO_n (by omega), setO_n (by omega)]
    · rw [setO_n (by omega), setO_n (by omega)]
theorem mo_paintOn {Q : Int32 → PH → Prop} {r x y v : Nat} (ha : al a = 427) (hM : Mw (h a) N) (hI : Inv N) (hr : r < N 0 0) (hxy : x ≤ y) (hy : y < N (1 + r) 0) (hv : v ≤ 9) (q : ∀ h', Fr a 1 h h' → Mw (h' a) (paS N r x y v) → Q (nI (paC (N (1 + r)) x (y + 1) v)) h') : wp_X8_paintOn a (nI r) (nI x) (nI y) (nI v) h Q := by
  have h3 := hI.1
  have ir := hI.ir hr
  have h60 := ir.1
  refine ⟨y + 1 - x + 1, ?_⟩
  suffices H : ∀ d i n g, x ≤ i → i + d = y + 1 → Fr a 1 h g → Mw (g a) (setO N (1 + r) (paN (N (1 + r)) x i v)) → (∀ h', Fr a 1 h h' → Mw (h' a) (paS N r x y v) → Q (nI (fl (fun c n => if N (1 + r) (1 + c) = v then n else n + 1) d i n)) h') → wp_X8_paintOn_b6 a (nI r) (nI y) (nI v) Q (d + 1) (nI n) (nI i) g by
    refine H (y + 1 - x) x 0 h (by omega) (by omega) Fr.rf ?_ q
    have : paN (N (1 + r)) x x v = N (1 + r) := by funext j; unfold paN; rw [if_neg (by omega)]
    rw [this, setO_id]
    exact hM
  have ps : ∀ i, x ≤ i → ufn (paN (N (1 + r)) x i v) (1 + i) v = paN (N (1 + r)) x (i + 1) v := by
    intro i hi
    funext j
    unfold ufn paN
    by_cases e0 : j = 1 + i
    · rw [if_pos e0, if_pos (by omega)]
    · rw [if_neg e0]
      by_cases e2 : 1 + x ≤ j ∧ j < 1 + i
      · rw [if_pos e2, if_pos (by omega)]
      · rw [if_neg e2, if_neg (by omega)]
  intro d
  induction d with
  | zero =>
    intro i n g hi hid hF hP q
    unfold wp_X8_paintOn_b6
    refine bt (nI_lt (by omega) (by omega)) (q g hF ?_)
    unfold paS
    rw [show y + 1 = i by omega]
    exact hP
  | succ d ih =>
    intro i n g hi hid hF hP q
    unfold wp_X8_paintOn_b6
    refine bf (nI_nlt (by omega) (by omega)) ?_
    rw [li_4, li_61, li_1, pk_mul, nI_add, nI_add, nI_add, ha]
    have b1 := ir.2 i (by omega)
    have gi : g a (4 + 61 * r + 1 + i) = nI (N (1 + r) (1 + i)) := by
      have := (hP.r (r := r) (by omega)).2 i (by omega)
      rw [setO_s] at this
      rw [this]
      unfold paN
      rw [if_neg (by omega)]
    have st : Mw (up2 g a (4 + 61 * r + 1 + i) (nI v) a) (setO N (1 + r) (paN (N (1 + r)) x (i + 1) v)) := by
      rw [up2_s]
      have := hP.upR (r := r) (c := i) (x := v) (by omega) (by omega)
      rw [setO_2, setO_s, ps i hi] at this
      exact this
    rintro x2 rfl
    have vi : vp_in (nI (4 + 61 * r + 1 + i)) 427 := vp_in_nI (by omega) (by omega)
    rw [nI_clamp (by omega), gi, nI_eq (by omega) (by omega)]
    unfold fl at q
    refine ⟨vi, ?_⟩
    by_cases e : N (1 + r) (1 + i) = v
    · refine bt' e ?_
      rintro x5 rfl
      refine ⟨vi, ?_⟩
      rintro h7 rfl x8 rfl
      rw [li_0, nI_add, nI_add]
      exact ih (i + 1) _ _ (by omega) (by omega) (hF.u a _ _ (by omega)) st (by simpa [e] using q)
    · refine bf' e ?_
      rintro x5 rfl
      refine ⟨vi, ?_⟩
      rintro h7 rfl x8 rfl
      rw [nI_add, nI_add]
      exact ih (i + 1) _ _ (by omega) (by omega) (hF.u a _ _ (by omega)) st (by simpa [e] using q)
theorem mo_loopOn {Q : Int32 → PH → Prop} (ha : al a = 427) (hM : Mw (h a) N) (h4 : N 0 1 < 4) (q : ∀ h', Fr a 1 h h' → Mw (h' a) (adL N) → Q (nI (N 0 1)) h') : wp_X8_loopOn a h Q := by
  unfold wp_X8_loopOn
  rw [ha, li_1, nI_clamp (by omega), hM.g (by omega)]
  refine ⟨vp_in_nI (by omega) (by omega), ?_⟩
  rintro x rfl
  refine ⟨61, ?_⟩
  generalize hl : N 0 1 = l at *
  suffices H : ∀ d i g, i + d = 60 → Fr a 1 h g → Mw (g a) (setO N (4 + l) (fun j => if j < i then 0 else N (4 + l) j)) → wp_X8_loopOn_b6 a (nI l) Q (d + 1) (nI i) g by
    refine H 60 0 h (by omega) Fr.rf ?_
    rw [show (fun j => if j < 0 then 0 else N (4 + l) j) = N (4 + l) from funext (fun j => if_neg (by omega)), setO_id]
    exact hM
  intro d
  induction d with
  | zero =>
    intro i g hi hF hP
    unfold wp_X8_loopOn_b6
    rw [li_60]
    refine bt (nI_le (by omega) (by omega)) (mo_lay' (u := 1) (x := 1) ha hP h4 (by omega) ?_)
    intro h1 F1 M1
    refine mo_lay' (u := 2) (x := 1) ha M1 h4 (by omega) ?_
    intro h2 F2 M2
    have g1 : h2 a 1 = nI l := by rw [M2.g (by omega), setO_n (by omega), hl]
    rw [ha, li_1, nI_clamp (by omega), g1, nI_add]
    refine ⟨vp_in_nI (by omega) (by omega), vp_in_nI (by omega) (by omega), ?_⟩
    rintro h8 rfl
    refine q _ (((hF.tr F1).tr F2).u a 1 _ (by omega)) ?_
    rw [up2_s]
    refine (M2.upG (j := 1) (x := l + 1) (by omega)).cong (fun j hj => ?_) (fun r' hr' j hj => ?_) (fun l' hl' j hj => ?_)
    · unfold adL
      rw [setO_s, setO_s, setO_n (by omega), hl]
    · unfold adL
      rw [setO_n (by omega), setO_n (by omega), setO_n (by omega), setO_n (by omega)]
    · unfold adL
      rw [setO_n (o := 0) (by omega), setO_n (o := 0) (by omega), hl]
      by_cases e : l' = l
      · subst e
        rw [setO_s, setO_s]
        unfold newL ufn
        (try dsimp only)
        by_cases e0 : j = 2
        · rw [if_pos e0, if_pos e0]
        · rw [if_neg e0, if_neg e0]
          by_cases e1 : j = 1
          · rw [if_pos e1, if_pos e1]
          · rw [if_neg e1, if_neg e1, if_pos (by omega)]
      · rw [setO_n (by omega), setO_n (by omega)]
  | succ d ih =>
    intro i g hi hF hP
    unfold wp_X8_loopOn_b6
    rw [li_60]
    refine bf (nI_ge (by omega) (by omega)) (mo_lay' (u := i) (x := 0) ha hP h4 (by omega) ?_)
    intro h1 F1 M1
    rintro x rfl
    rw [nI_1]
    refine ih (i + 1) h1 (by omega) (hF.tr F1) ?_
    rw [show (fun j => if j < i + 1 then 0 else N (4 + l) j) = ufn (fun j => if j < i then 0 else N (4 + l) j) i 0 from funext (fun j => by
      unfold ufn
      (try dsimp only)
      by_cases e : j = i
      · rw [if_pos e, if_pos (by omega)]
      · rw [if_neg e]
        by_cases e2 : j < i
        · rw [if_pos e2, if_pos (by omega)]
        · rw [if_neg e2, if_neg (by omega)])]
    exact M1
theorem mo_reason {Q : Int32 → PH → Prop} {l r x y : Nat} (ha : al a = 427) (hM : Mw (h a) N) (hI : Inv N) (hl : l < N 0 1) (hr : r < N 0 0) (hx : x ≤ N (1 + r) 0) (hy : y ≤ N (1 + r) 0) (q : Q (nI (rsN N l r x y)) h) : wp_X8_reason a (nI l) (nI r) (nI x) (nI y) h Q := by
  unfold wp_X8_reason
  have ir := hI.ir hr
  have il := hI.il hl
  have i60 := ir.1
  have i48 := il.1
  have i6 := il.2.2.2.2.1
  have i3 := hI.1
  have i4 := hI.2.1
  unfold rsN at q
  by_cases e1 : y ≤ x
  · rw [if_pos e1] at q
    exact bf (nI_nlt e1 (by omega)) q
  · rw [if_neg e1] at q
    refine bt (nI_lt (by omega) (by omega)) (mo_isQuiet ha (hM.r (by omega)) (by omega) ir hx ?_)
    cases e2 : quN (N (1 + r)) x with
    | false => rw [if_pos e2] at q; exact bt' rfl q
    | true =>
      rw [if_neg (by rw [e2]; decide)] at q
      refine bf' (by decide) (mo_isQuiet ha (hM.r (by omega)) (by omega) ir hy ?_)
      cases e3 : quN (N (1 + r)) y with
      | false => rw [if_pos e3] at q; exact bt' rfl q
      | true =>
        rw [if_neg (by rw [e3]; decide)] at q
        refine bf' (by decide) (mo_of (u := 0) ha (hM.l (by omega)) (by omega) (by omega) ?_)
        rw [nI_add, pk_sub (by omega), li_48]
        by_cases e4 : 48 < N (4 + l) 0 + y - x
        · rw [if_pos e4] at q
          exact bf (nI_ge (by omega) (by omega)) q
        · rw [if_neg e4] at q
          refine bt (nI_le (by omega) (by omega)) (mo_of (u := 5) ha (hM.l (by omega)) (by omega) (by omega) ?_)
          rw [li_6, nI_eq (by omega) (by omega)]
          by_cases e5 : N (4 + l) 5 = 6
          · rw [if_pos e5] at q
            exact bt' e5 q
          · rw [if_neg e5] at q
            exact bf' e5 q
theorem rsN_0 {l r x y : Nat} (e : rsN N l r x y = 0) : x < y ∧ N (4 + l) 0 + y - x ≤ 48 ∧ N (4 + l) 5 ≠ 6 := by
  have e' := e
  unfold rsN at e'
  have c1 : ¬ y ≤ x := fun z => by rw [if_pos z] at e'; omega
  rw [if_neg c1] at e'
  have c2 : ¬ quN (N (1 + r)) x = false := fun z => by rw [if_pos z] at e'; omega
  rw [if_neg c2] at e'
  have c3 : ¬ quN (N (1 + r)) y = false := fun z => by rw [if_pos z] at e'; omega
  rw [if_neg c3] at e'
  have c4 : ¬ 48 < N (4 + l) 0 + y - x := fun z => by rw [if_pos z] at e'; omega
  rw [if_neg c4] at e'
  have c5 : ¬ N (4 + l) 5 = 6 := fun z => by rw [if_pos z] at e'; omega
  exact ⟨by omega, by omega, c5⟩
theorem rsN_lt {l r x y : Nat} : rsN N l r x y < 6 := by unfold rsN; (repeat' split) <;> omega
theorem mo_spliceOn {Q : Int32 → PH → Prop} {l r x y : Nat} (ha : al a = 427) (hM : Mw (h a) N) (hI : Inv N) (hl : l < N 0 1) (hr : r < N 0 0) (hx : x ≤ N (1 + r) 0) (hy : y ≤ N (1 + r) 0)
    (q0 : rsN N l r x y = 0 → ∀ h', Fr a 1 h h' → Mw (h' a) (jnS N l r x y) → Q 0 h')
    (q1 : rsN N l r x y ≠ 0 → ∀ h', Fr a 1 h h' → Mw (h' a) (reF N) → Q (nI (rsN N l r x y)) h') : wp_X8_spliceOn a (nI l) (nI r) (nI x) (nI y) h Q := by
  unfold wp_X8_spliceOn
  have ir := hI.ir hr
  have il := hI.il hl
  have i60 := ir.1
  have i48 := il.1
  have i6 := il.2.2.2.2.1
  have i3 := hI.1
  have i4 := hI.2.1
  refine mo_reason ha hM hI hl hr hx hy ?_
  have hlt := rsN_lt (N := N) (l := l) (r := r) (x := x) (y := y)
  rw [li_0]
  by_cases e : rsN N l r x y = 0
  · obtain ⟨hxy, h48, h5⟩ := rsN_0 e
    refine bt (nI_le (by omega) (by omega)) (mo_of (u := 0) ha (hM.l (by omega)) (by omega) (by omega) ?_)
    refine ⟨y - x + 1, ?_⟩
    generalize hf : N (4 + l) = f at *
    suffices H : ∀ d i g, x ≤ i → i + d = y → Fr a 1 h g → Mw (g a) (setO N (4 + l) (fun j => if 12 + f 0 ≤ j ∧ j < 12 + f 0 + i - x then N (1 + r) (1 + (j + x - 12 - f 0)) else f j)) → wp_X8_spliceOn_b37 a (nI l) (nI r) (nI x) (nI y) (nI (f 0)) Q (d + 1) (nI i) g by
      refine H (y - x) x h (by omega) (by omega) Fr.rf ?_
      rw [show (fun j => if 12 + f 0 ≤ j ∧ j < 12 + f 0 + x - x then N (1 + r) (1 + (j + x - 12 - f 0)) else f j) = f from funext (fun j => if_neg (by omega)), ← hf, setO_id]
      exact hM
    intro d
    induction d with
    | zero =>
      intro i g hi hid hF hP
      unfold wp_X8_spliceOn_b37
      have ei : i = y := by omega
      subst ei
      have l1 := hP.l' (l := l) (by omega)
      refine bt (nI_le (by omega) (by omega)) (mo_of (u := 5) ha l1 (by omega) (by omega) ?_)
      rw [if_neg (by omega), li_6, nI_add, pk_sub (by omega)]
      refine mo_lay' ha hP (by omega) (by omega) ?_
      intro h1 F1 M1
      refine mo_of (u := 5) ha (M1.l' (by omega)) (by omega) (by omega) ?_
      rw [ufn_n (by omega), if_neg (by omega), nI_1]
      refine mo_lay' (u := 5) ha M1 (by omega) (by omega) ?_
      intro h2 F2 M2
      rw [nI_add, pk_sub (by omega)]
      refine mo_lay' (u := 0) ha M2 (by omega) (by omega) ?_
      intro h3 F3 M3
      refine mo_lay' (u := 3) (x := 0) ha M3 (by omega) (by omega) ?_
      intro h4 F4 M4
      refine q0 e h4 ((((hF.tr F1).tr F2).tr F3).tr F4) ?_
      unfold jnS
      rw [hf]
      refine M4.cong (fun j hj => ?_) (fun r' hr' j hj => ?_) (fun l' hl' j hj => ?_)
      · rw [setO_n (by omega), setO_n (by omega)]
      · rw [setO_n (by omega), setO_n (by omega)]
      · by_cases e2 : l' = l
        · subst e2
          rw [setO_s, setO_s]
          unfold ufn jnN
          dsimp only
        · rw [setO_n (by omega), setO_n (by omega)]
    | succ d ih =>
      intro i g hi hid hF hP
      unfold wp_X8_spliceOn_b37
      have r1 : Mr (g a) r (N (1 + r)) := by have := hP.r (r := r) (by omega); rw [setO_n (by omega)] at this; exact this
      refine bf (nI_ge (by omega) (by omega)) (mo_soundAt ha r1 (by omega) (by omega) ?_)
      rw [li_12, nI_add, nI_add, pk_sub (by omega)]
      refine mo_lay' ha hP (by omega) (by omega) ?_
      intro h1 F1 M1
      rintro z rfl
      rw [nI_1]
      refine ih (i + 1) h1 (by omega) (by omega) (hF.tr F1) ?_
      rw [show (fun j => if 12 + f 0 ≤ j ∧ j < 12 + f 0 + (i + 1) - x then N (1 + r) (1 + (j + x - 12 - f 0)) else f j) = ufn (fun j => if 12 + f 0 ≤ j ∧ j < 12 + f 0 + i - x then N (1 + r) (1 + (j + x - 12 - f 0)) else f j) (12 + f 0 + i - x) (N (1 + r) (1 + i)) from funext (fun j => by
        unfold ufn
        (try dsimp only)
        by_cases e : j = 12 + f 0 + i - x
        · rw [if_pos e, if_pos (by omega), show j + x - 12 - f 0 = i by omega]
        · rw [if_neg e]
          by_cases e2 : 12 + f 0 ≤ j ∧ j < 12 + f 0 + i - x
          · rw [if_pos e2, if_pos (by omega)]
          · rw [if_neg e2, if_neg (by omega)])]
      exact M1
  · refine bf (nI_ge (by omega) (by omega)) ?_
    rw [ha, li_3, nI_clamp (by omega), hM.g (by omega), nI_1]
    refine ⟨vp_in_nI (by omega) (by omega), vp_in_nI (by omega) (by omega), ?_⟩
    rintro h22 rfl
    refine q1 e _ Fr.up ?_
    rw [up2_s]
    exact hM.upG (by omega)
theorem mo_unspliceOn {Q : Int32 → PH → Prop} {l : Nat} (ha : al a = 427) (hM : Mw (h a) N) (hI : Inv N) (hl : l < N 0 1) (h0 : 0 < N (4 + l) 0) (q : ∀ h', Fr a 1 h h' → Mw (h' a) (toS N l) → Q (nI (toN (N (4 + l)) 0)) h') : wp_X8_unspliceOn a (nI l) h Q := by
  unfold wp_X8_unspliceOn
  have il := hI.il hl
  have i48 := il.1
  have i6 := il.2.2.2.2.1
  have i4 := hI.2.1
  have i5 := il.some h0
  have la := il.last i5
  have M0 : Mw (h a) (setO N (4 + l) (N (4 + l))) := by rw [setO_id]; exact hM
  have tf : toS N l = setO N (4 + l) (toN (N (4 + l))) := rfl
  rw [tf] at q
  generalize N (4 + l) = f at *
  refine mo_of (u := 5) ha (M0.l' (by omega)) (by omega) (by omega) ?_
  obtain ⟨m, hm⟩ : ∃ m, f 5 = m + 1 := ⟨f 5 - 1, by omega⟩
  have em : f 5 - 1 = m := by omega
  rw [em] at la
  rintro x rfl
  rw [hm, nI_pred]
  refine mo_lay' (u := 5) ha M0 (by omega) (by omega) ?_
  intro h1 F1 M1
  refine mo_of (u := 0) ha (M1.l' (by omega)) (by omega) (by omega) ?_
  rw [li_6, nI_add]
  refine mo_of ha (M1.l' (by omega)) (by omega) (by omega) ?_
  rw [ufn_n (by decide), ufn_n (by omega), pk_sub la.1]
  refine mo_lay' (u := 0) ha M1 (by omega) (by omega) ?_
  intro h2 F2 M2
  refine mo_lay' (u := 3) (x := 0) ha M2 (by omega) (by omega) ?_
  intro h3 F3 M3
  refine mo_of (u := 0) ha (M3.l' (by omega)) (by omega) (by omega) ?_
  have tz : ufn (ufn (ufn f 5 m) 0 (f 0 - f (6 + m))) 3 0 = toN f := by unfold toN; rw [em]
  rw [tz] at M3 ⊢
  exact q h3 ((F1.tr F2).tr F3) M3
theorem mo_speedOn {Q : Int32 → PH → Prop} {l p s : Nat} (ha : al a = 427) (hM : Mw (h a) N) (hI : Inv N) (hl : l < N 0 1) (hs : s ≤ 9) (q : ∀ h', Fr a 1 h h' → Mw (h' a) (spS N l p s) → Q (nI (N (4 + l) 3 / N (4 + l) 2 * s)) h') : wp_X8_speedOn a (nI l) (nI p) (nI s) h Q := by
  unfold wp_X8_speedOn
  have il := hI.il hl
  have i4 := hI.2.1
  have i2 := il.2.2.1
  have i3 := il.ph
  have M0 : Mw (h a) (setO N (4 + l) (N (4 + l))) := by rw [setO_id]; exact hM
  have tf : spS N l p s = setO N (4 + l) (spN (N (4 + l)) p s) := rfl
  rw [tf] at q
  generalize N (4 + l) = f at *
  refine mo_of (u := 3) ha (M0.l' (by omega)) (by omega) (by omega) (mo_of (u := 2) ha (M0.l' (by omega)) (by omega) (by omega) ⟨by rw [z0 (by omega)]; omega, ?_⟩)
  rintro x rfl
  rw [pk_div (by omega) (by omega) (by omega)]
  refine mo_lay' (u := 1) ha M0 (by omega) (by omega) ?_
  intro h1 F1 M1
  refine mo_lay' (u := 2) ha M1 (by omega) (by omega) ?_
  intro h2 F2 M2
  rw [pk_mul]
  refine mo_lay' (u := 3) ha M2 (by omega) (by omega) ?_
  intro h3 F3 M3
  exact q h3 ((F1.tr F2).tr F3) M3
theorem mo_muteOn {Q : Int32 → PH → Prop} {l : Nat} {m : Bool} (ha : al a = 427) (hM : Mw (h a) N) (hI : Inv N) (hl : l < N 0 1) (q : ∀ h', Fr a 1 h h' → Mw (h' a) (muS N l m.toNat) → Q (nI (sndN (muS N l m.toNat) 0)) h') : wp_X8_muteOn a (nI l) (bi m) h Q := by
  unfold wp_X8_muteOn
  have il := hI.il hl
  have i4 := hI.2.1
  cases m with
  | false =>
    refine bt rfl (mo_lay (u := 4) (x := 0) ha hM (by omega) (by omega) ?_)
    intro h1 F1 M1
    exact mo_soundLater (n := 0) ha M1 (hI.setL hl (il.mu (by omega))) (by omega) (q h1 F1 M1)
  | true =>
    refine bf (by decide) (mo_lay (u := 4) (x := 1) ha hM (by omega) (by omega) ?_)
    intro h1 F1 M1
    exact mo_soundLater (n := 0) ha M1 (hI.setL hl (il.mu (by omega))) (by omega) (q h1 F1 M1)
theorem rc_step {r c : Nat} (hI : Inv N) (hr : r < N 0 0) : gnN (setO (rcS N r c) (1 + r) (ufn (rcF N r c) (1 + c) (min (sndN N c) 9))) 1 = rcS N r (c + 1) := by
  have i3 := hI.1
  have ef : ufn (rcF N r c) (1 + c) (min (sndN N c) 9) = rcF N r (c + 1) := by
    funext j
    unfold ufn rcF
    by_cases e : j = 1 + c
    · rw [if_pos e, if_pos (by omega), show j - 1 = c by omega]
    · rw [if_neg e]
      by_cases e2 : 1 ≤ j ∧ j < 1 + c
      · rw [if_pos e2, if_pos (by omega)]
      · rw [if_neg e2, if_neg (by omega)]
  rw [ef]
  funext o
  unfold rcS
  rw [setO_2]
  have e0 : setO (gnN N c) (1 + r) (rcF N r (c + 1)) 0 = gnN N c 0 := setO_n (by omega)
  have e01 : gnN N c 0 1 = N 0 1 := rfl
  by_cases z : o = 0
  · subst z
    rw [setO_n (by omega), gnN_0, gnN_0, e0, gnN_0, ufn_s]
    funext j
    unfold ufn
    by_cases e : j = 2
    · rw [if_pos e, if_pos e]; omega
    · rw [if_neg e, if_neg e, if_neg e]
  · by_cases z1 : o = 1 + r
    · subst z1
      rw [setO_s, gnN_lo (by omega) (by omega), setO_s]
    · rw [setO_n z1]
      by_cases z4 : o < 4
      · rw [gnN_lo z4 (by omega), gnN_lo z4 (by omega), setO_n z1, gnN_lo z4 (by omega)]
      · obtain ⟨l, rfl⟩ : ∃ l, o = 4 + l := ⟨o - 4, by omega⟩
        by_cases hl : l < N 0 1
        · rw [gnN_l hl, gnN_l (by rw [e0, e01]; exact hl), setO_n z1, gnN_l hl]
          generalize N (4 + l) = f
          have e : phN (ufn f 3 (phN f c)) 1 = phN f (c + 1) := by
            unfold phN
            rw [show ufn f 3 (if f 0 = 0 then 0 else (f 3 + c * f 1) % (f 0 * f 2)) 0 = f 0 from rfl, ufn_s]
            by_cases e0 : f 0 = 0
            · rw [if_pos e0, if_pos e0]
            · rw [if_neg e0, if_neg e0, if_neg e0]
              rw [show ufn f 3 ((f 3 + c * f 1) % (f 0 * f 2)) 1 = f 1 from rfl, show ufn f 3 ((f 3 + c * f 1) % (f 0 * f 2)) 2 = f 2 from rfl]
              rw [Nat.mod_add_mod, Nat.add_assoc, ← Nat.add_mul]
          rw [e]
          funext j
          unfold ufn
          by_cases e : j = 3
          · rw [if_pos e, if_pos e]
          · rw [if_neg e, if_neg e, if_neg e]
        · have h1 : ∀ M : Nat → Nat → Nat, ∀ n, M 0 1 = N 0 1 → gnN M n (4 + l) = M (4 + l) := by
            intro M n hM
            unfold gnN
            rw [setO_n (by omega)]
            unfold gnP
            rw [if_neg (by omega)]
          rw [h1 _ _ (by rw [e0, e01]), h1 _ _ rfl, setO_n z1, h1 _ _ rfl]
theorem snd_le {n : Nat} (hI : Inv N) : sndN N n ≤ 36 := by
  have h4 := hI.2.1
  unfold sndN
  suffices H : ∀ d j s, j + d = N 0 1 → fl (fun l s => s + hbN (N (4 + l)) n) d j s ≤ s + 9 * d by
    have := H (N 0 1) 0 0 (by omega)
    omega
  intro d
  induction d with
  | zero => intro j s _; exact Nat.le_refl _
  | succ d ih =>
    intro j s hj
    unfold fl
    have h1 := ih (j + 1) (s + hbN (N (4 + j)) n) (by omega)
    have il := hI.il (by omega : j < N 0 1)
    have h2 : hbN (N (4 + j)) n ≤ 9 := by
      unfold hbN
      split
      · rename_i c
        exact il.2.2.2.2.2.2.2.2.2 _ (il.head (il.phN_lt c.2 n))
      · omega
    omega
theorem mo_recordOn {Q : Int32 → PH → Prop} {r n : Nat} (ha : al a = 427) (hM : Mw (h a) N) (hI : Inv N) (hr : r < N 0 0) (hn : n ≤ N (1 + r) 0) (q : ∀ h', Fr a 1 h h' → Mw (h' a) (rcS N r n) → Q (nI (rcV N n)) h') : wp_X8_recordOn a (nI r) (nI n) h Q := by
  have ir := hI.ir hr
  have i60 := ir.1
  have i3 := hI.1
  have i4 := hI.2.1
  refine ⟨n + 1, ?_⟩
  suffices H : ∀ d i s g, i + d = n → Fr a 1 h g → Mw (g a) (rcS N r i) → (∀ h', Fr a 1 h h' → Mw (h' a) (rcS N r n) → Q (nI (fl (fun t s => s + min (sndN N t) 9) d i s)) h') → wp_X8_recordOn_b5 a (nI r) (nI n) Q (d + 1) (nI s) (nI i) g by
    refine H n 0 0 h (by omega) Fr.rf ?_ q
    have e1 : rcF N r 0 = N (1 + r) := by funext j; unfold rcF; rw [if_neg (by omega)]
    unfold rcS
    rw [e1]
    refine hM.cong (fun j hj => ?_) (fun r' hr' j hj => ?_) (fun l hl j hj => ?_)
    · rw [setO_n (by omega), gnN_0]
      unfold ufn
      by_cases e : j = 2
      · rw [if_pos e, e, Nat.add_zero]
      · rw [if_neg e]
    · by_cases e : r' = r
      · subst e; rw [setO_s]
      · rw [setO_n (by omega), gnN_lo (by omega) (by omega)]
    · rw [setO_n (by omega)]
      by_cases hl : l < N 0 1
      · rw [gnN_l hl]
        have il := hI.il hl
        have : phN (N (4 + l)) 0 = N (4 + l) 3 := by
          rcases Nat.eq_zero_or_pos (N (4 + l) 0) with e | e
          · rw [il.2.2.2.2.2.1 e]; unfold phN; rw [if_pos e]
          · exact il.phN0 e
        rw [this, ufn_id]
      · unfold gnN
        rw [setO_n (by omega)]
        unfold gnP
        rw [if_neg (by omega)]
  intro d
  induction d with
  | zero =>
    intro i s g hi hF hP q
    unfold wp_X8_recordOn_b5
    have ei : i = n := by omega
    subst ei
    exact bt (nI_le (by omega) (by omega)) (q g hF hP)
  | succ d ih =>
    intro i s g hi hF hP q
    unfold wp_X8_recordOn_b5
    refine bf (nI_ge (by omega) (by omega)) (mo_soundLater (n := 0) ha hP (hI.rc hr) (by omega) ?_)
    have es : sndN (rcS N r i) 0 = sndN N i := by
      unfold rcS
      rw [snd_setR (by omega), snd_go hI, Nat.add_zero]
    have b36 := snd_le (n := i) hI
    rw [es, ha, li_4, li_61, li_1, pk_mul, nI_add, nI_add, nI_add, nI_clamp (by omega), li_9]
    have vi : vp_in (nI (4 + 61 * r + 1 + i)) 427 := vp_in_nI (by omega) (by omega)
    have fin : ∀ v, v = min (sndN N i) 9 → vp_in (nI (4 + 61 * r + 1 + i)) 427 ∧ ∀ h6 : PH, h6 = up2 g a (4 + 61 * r + 1 + i) (nI v) → ∀ x7 : Int32, x7 = nI s + nI v → wp_X8_goOn a (nI 1) h6 (fun r9 h8 => ∀ x10 : Int32, x10 = nI i + nI 1 → wp_X8_recordOn_b5 a (nI r) (nI n) Q (d + 1) x7 x10 h8) := by
      rintro v rfl
      refine ⟨vi, ?_⟩
      rintro h6 rfl x7 rfl
      have M6 : Mw (up2 g a (4 + 61 * r + 1 + i) (nI (min (sndN N i) 9)) a) (setO (rcS N r i) (1 + r) (ufn (rcF N r i) (1 + i) (min (sndN N i) 9))) := by
        rw [up2_s]
        have := hP.upR (r := r) (c := i) (x := min (sndN N i) 9) (by omega) (by omega)
        have e : rcS N r i (1 + r) = rcF N r i := setO_s
        rw [e] at this
        exact this
      have e00 : rcS N r i 0 0 = N 0 0 := by unfold rcS; rw [setO_n (by omega)]; rfl
      have e0 : ∀ v, ufn (rcF N r i) (1 + i) v 0 = N (1 + r) 0 := fun v => by rw [ufn_n (by omega)]; rfl
      have er : rcS N r i (1 + r) = rcF N r i := setO_s
      have I6 : Inv (setO (rcS N r i) (1 + r) (ufn (rcF N r i) (1 + i) (min (sndN N i) 9))) := by
        refine (hI.rc hr).setR (by rw [e00]; exact hr) ⟨by rw [e0]; exact i60, fun j hj => ?_⟩
        rw [e0] at hj
        unfold ufn
        split
        · omega
        · have := ((hI.rc (c := i) hr).ir (r := r) (by rw [e00]; exact hr)).2 j (by rw [er]; exact hj)
          rw [er] at this
          exact this
      refine mo_goOn ha M6 I6 (by omega) ?_
      intro h' F' M' x10 e10
      rw [e10, nI_add, nI_add]
      refine ih (i + 1) _ h' (by omega) ((hF.u a _ _ (by omega)).tr F') ?_ q
      rw [rc_step hI hr] at M'
      exact M'
    by_cases e : sndN N i ≤ 9
    · exact bt (nI_le e (by omega)) (fin _ (by omega))
    · exact bf (nI_ge (by omega) (by omega)) (fin 9 (by omega))
theorem mo_clear {Q : PH → Prop} (ha : al a = 427) (q : ∀ h', Fr a 1 h h' → Mw (h' a) zeS → Q h') : wp_X8_clear a h Q := by
  refine ⟨428, ?_⟩
  suffices H : ∀ d i g, i + d = 427 → Fr a 1 h g → (∀ j, j < i → g a j = 0) → wp_X8_clear_b2 a Q (d + 1) (nI i) g from H 427 0 h (by omega) Fr.rf (fun j hj => by omega)
  intro d
  induction d with
  | zero =>
    intro i g hi hF hP
    unfold wp_X8_clear_b2
    rw [li_427]
    refine bt (nI_le (by omega) (by omega)) (q g hF ⟨fun j hj => ?_, fun r hr => ⟨?_, fun c hc => ?_⟩, fun l hl u hu => ?_⟩)
    · rw [hP _ (by omega)]; rfl
    · rw [hP _ (by omega)]; rfl
    · rw [hP _ (by omega)]; rfl
    · rw [hP _ (by omega)]; rfl
  | succ d ih =>
    intro i g hi hF hP
    unfold wp_X8_clear_b2
    rw [ha, li_427]
    refine bf (nI_ge (by omega) (by omega)) ⟨vp_in_nI (by omega) (by omega), ?_⟩
    rintro h3 rfl x rfl
    rw [nI_1, nI_clamp (by omega)]
    refine ih (i + 1) _ (by omega) (hF.u a i 0 (by omega)) (fun j hj => ?_)
    by_cases e : j = i
    · subst e; exact up2_at
    · rw [up2_ne e]; exact hP j (by omega)
theorem mo_copyState {Q : PH → Prop} {s o t u A B : Nat} (hs : al s = A) (ht : al t = B) (hA : o + 427 ≤ A) (hB : u + 427 ≤ B) (hA2 : A < 2 ^ 20) (hB2 : B < 2 ^ 20) (hst : s ≠ t) (q : ∀ h', Fr t 1 h h' → (∀ k, k < 427 → h' t (u + k) = h s (o + k)) → (∀ k, k < u ∨ u + 427 ≤ k → h' t k = h t k) → Q h') : wp_X8_copyState s (nI o) t (nI u) h Q := by
  refine ⟨428, ?_⟩
  suffices H : ∀ d i g, i + d = 427 → Fr t 1 h g → (∀ k, k < i → g t (u + k) = h s (o + k)) → (∀ k, k < u ∨ u + i ≤ k → g t k = h t k) → wp_X8_copyState_b3 s (nI o) t (nI u) Q (d + 1) (nI i) g from H 427 0 h (by omega) Fr.rf (fun j hj => by omega) (fun k _ => rfl)
  intro d
  induction d with
  | zero =>
    intro i g hi hF h1 h2
    unfold wp_X8_copyState_b3
    rw [li_427]
    have ei : i = 427 := by omega
    subst ei
    exact bt (nI_le (by omega) (by omega)) (q g hF h1 h2)
  | succ d ih =>
    intro i g hi hF h1 h2
    unfold wp_X8_copyState_b3
    rw [hs, ht, nI_add, nI_add, li_427]
    refine bf (nI_ge (by omega) (by omega)) ⟨vp_in_nI (by omega) (by omega), vp_in_nI (by omega) (by omega), ?_⟩
    rintro h4 rfl x rfl
    rw [nI_1, nI_clamp (by omega), nI_clamp (by omega)]
    refine ih (i + 1) _ (by omega) (hF.u t _ _ (by omega)) (fun k hk => ?_) (fun k hk => ?_)
    · by_cases e : k = i
      · subst e; rw [up2_at, hF s (by omega)]
      · rw [up2_ne (by omega)]; exact h1 k (by omega)
    · rw [up2_ne (by omega)]; exact h2 k (by omega)
end

