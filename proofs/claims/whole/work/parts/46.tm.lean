
def FS (h h' : PH) : Prop := (∀ i, i ≠ 344 → h' i = h i) ∧ ∀ j, j ≠ 9 → h' 344 j = h 344 j
def FM (h h' : PH) : Prop := (∀ i, i ≠ 344 → i ≠ 347 → h' i = h i) ∧ ∀ j, j ≠ 9 → j ≠ 10 → h' 344 j = h 344 j
theorem FS.rf {h : PH} : FS h h := ⟨fun _ _ => rfl, fun _ _ => rfl⟩
theorem FS.tr {h h1 h2 : PH} (x : FS h h1) (y : FS h1 h2) : FS h h2 := ⟨fun i a => (y.1 i a).trans (x.1 i a), fun j a => (y.2 j a).trans (x.2 j a)⟩
theorem FS.u {h : PH} {v : Int32} : FS h (up2 h 344 9 v) := ⟨fun i a => up2_o i a, fun j a => up2_ne a⟩
theorem FM.rf {h : PH} : FM h h := ⟨fun _ _ _ => rfl, fun _ _ _ => rfl⟩
theorem FM.tr {h h1 h2 : PH} (x : FM h h1) (y : FM h1 h2) : FM h h2 := ⟨fun i a b => (y.1 i a b).trans (x.1 i a b), fun j a b => (y.2 j a b).trans (x.2 j a b)⟩
theorem FS.m {h h' : PH} (x : FS h h') : FM h h' := ⟨fun i a _ => x.1 i a, fun j a _ => x.2 j a⟩
theorem FM.f {h h' : PH} (x : Fr 347 1 h h') : FM h h' := ⟨fun i _ b => x i (by omega), fun j _ _ => by rw [x 344 (by omega)]⟩
theorem FM.o {h : PH} {v : Int32} : FM h (up2 h 344 10 v) := ⟨fun i a _ => up2_o i a, fun j _ b => up2_ne b⟩
theorem MX.fm {s : Nat} {t : Nat → Nat} {h h' : PH} (x : MX s t h) (y : FM h h') : MX s t h' := x.ag (y.2 2 (by decide) (by decide)) (y.1 345 (by decide) (by decide))
theorem FM.eqv {h h' : PH} (x : FM h h') : Eqv h h' := ⟨fun i hi => x.1 i (by omega) (by omega), by rw [x.1 341 (by decide) (by decide)], x.2 2 (by decide) (by decide), x.2 6 (by decide) (by decide)⟩
theorem nm1 {v : Nat} (h : v ≤ 1000000) : ¬ nI v = -1 := by rw [zm (by omega)]; exact not_false
theorem mo_num {s ah lo hi : Nat} {t : Nat → Nat} {Q : Int32 → PH → Prop} (hah : ah ≤ 999) (hh : hi ≤ 999) (hlo : lo ≤ 999) (g : GX s t) :
    ∀ d v a h, d ≤ 3 → v ≤ hi → a ≤ s → MX s t h → h 344 9 = nI a →
      (∀ h', FS h h' → h' 344 9 = nI (numP s t lo hi d v a).2 → Q (oI (numP s t lo hi d v a).1) h') →
      wp_X8_figures_b26 344 (nI ah) (nI lo) (nI hi) Q (d + 1) (nI v) (nI (un d)) h := by
  have s120 := g.1
  have nah : ¬ nI ah = -1 := nm1 (by omega)
  intro d
  induction d with
  | zero =>
    intro v a h hd hv has hx ha q
    unfold wp_X8_figures_b26
    exact bt (by decide) (bf' nah (q h FS.rf ha))
  | succ d ih =>
    intro v a h hd hv has hx ha q
    unfold wp_X8_figures_b26
    have hu := un_b (d := d) (by omega)
    refine bf (nI_nle hu.1 (by omega)) (bf nah ?_)
    rw [ha, hx.1]
    by_cases c0 : s ≤ a
    · have c : ¬ (a < s ∧ 48 ≤ t a ∧ t a ≤ 57) := fun z => by omega
      rw [numP_n c] at q
      refine bt (nI_le c0 (by omega)) ?_
      rintro x8 _
      show wp_X8_in ((-1 : Int32).toInt64) (lN 0) (lN 9) h _
      refine in_out (x := -1) (lo := 0) (hi := 9) ?_ (by omega) (by omega) (bt rfl (q h FS.rf ha))
      rintro ⟨j, _, hj, e⟩
      exact (zm (a := j) (by omega)).mp e.symm
    · have c1 : a < s := by omega
      have tl := g.2 a c1
      refine bf (nI_ge c1 (by omega)) ?_
      rw [nI_clamp (by omega)]
      refine ⟨vp_in_nI (show a < al (344 + 1) from by rw [show al (344 + 1) = 120 from al_345]; omega) (by rw [show al (344 + 1) = 120 from al_345]; omega), ?_⟩
      rw [show h (344 + 1) a = nI (t a) from hx.2 a c1]
      rintro x17 rfl x18 rfl
      by_cases c : a < s ∧ 48 ≤ t a ∧ t a ≤ 57
      · rw [show (48 : Int32) = nI 48 from rfl, pk_sub c.2.1]
        refine in_in (lo := 0) (hi := 9) (by omega) (by omega) (by omega) (bf (by decide) ?_)
        have hm : (t a - 48) * un (d + 1) ≤ 9 * 100 := Nat.mul_le_mul (by omega) hu.2
        rw [pk_mul, nI_add]
        by_cases c2 : hi < v + (t a - 48) * un (d + 1)
        · rw [numP_h c c2] at q
          exact bt (by rw [nI_ltI (by omega) (by omega)]; exact c2) (q h FS.rf ha)
        · refine bf (by rw [nI_ltI (by omega) (by omega)]; exact c2) ?_
          rw [nI_add, show nI (v + (t a - 48) * un (d + 1) + un (d + 1)) - 1 = nI (v + (t a - 48) * un (d + 1) + un (d + 1) - 1) from pk_sub (b := 1) (by omega)]
          by_cases c3 : lo ≤ v + (t a - 48) * un (d + 1) + un (d + 1) - 1
          · rw [numP_s c c2 c3] at q
            refine bt (nI_le c3 (by omega)) ?_
            rintro h18 rfl x19 rfl
            rw [ha, nI_1, un_d (by omega)]
            refine ih _ (a + 1) (up2 h 344 9 (nI (a + 1))) (by omega) (by omega) (by omega) (hx.fm FS.u.m) up2_at ?_
            intro h' F e1
            exact q h' (FS.u.tr F) e1
          · rw [numP_l c c2 c3] at q
            exact bf (nI_ge (by omega) (by omega)) (q h FS.rf ha)
      · rw [numP_n c] at q
        have nb := dig_no g c
        rw [if_pos c1] at nb
        exact in_out (lo := 0) (hi := 9) nb (by omega) (by omega) (bt rfl (q h FS.rf ha))
theorem mo_fig {s ah lo hi d a : Nat} {t : Nat → Nat} {h : PH} {Q : Int32 → PH → Prop} (k : Nat) (e : kn k = (d, lo, hi)) (hk : k ∈ KK) (hah : ah ≤ 999) (g : GX s t) (has : a ≤ s) (hx : MX s t h) (ha : h 344 9 = nI a)
    (qn : ∀ a1 h', nmK s t k a = (none, a1) → FS h h' → h' 344 9 = nI a1 → Q (-1) h') (qs : ∀ v a1 h', nmK s t k a = (some v, a1) → FS h h' → h' 344 9 = nI a1 → Q (nI v) h') : wp_X8_figures 344 (nI ah) (nI d) (nI lo) (nI hi) h Q := by
  have b := kn_b hk
  rw [e] at b
  have b1 : 1 ≤ d ∧ d ≤ 3 ∧ lo ≤ 2 ∧ hi ≤ 999 := b
  have Z : ∀ h', FS h h' → h' 344 9 = nI (numP s t lo hi d 0 a).2 → Q (oI (numP s t lo hi d 0 a).1) h' := by
    intro h' F e9
    have en : nmK s t k a = numP s t lo hi d 0 a := by unfold nmK; rw [e]
    cases en2 : numP s t lo hi d 0 a with
    | mk o a1 =>
      rw [en2] at e9 en
      cases o with
      | none => exact qn a1 h' en F e9
      | some v => exact qs v a1 h' en F e9
  have N := mo_num (Q := Q) hah b1.2.2.2 (by omega : lo ≤ 999) g d 0 a h b1.2.1 (by omega) has hx ha Z
  unfold wp_X8_figures
  rcases (by omega : d = 1 ∨ d = 2 ∨ d = 3) with rfl | rfl | rfl
  · exact bf' (by decide) (bf' (by decide) ⟨_, N⟩)
  · exact bf' (by decide) (bt' rfl ⟨_, N⟩)
  · exact bt' rfl ⟨_, N⟩
theorem mo_figN {d : Nat} {lo hi : Int32} {h : PH} {Q : Int32 → PH → Prop} (hd : d = 1 ∨ d = 2 ∨ d = 3) (q : Q (-1) h) : wp_X8_figures 344 (-1) (nI d) lo hi h Q := by
  unfold wp_X8_figures
  have st : ∀ u : Int32, 0 < u → ∃ n, wp_X8_figures_b26 344 (-1) lo hi Q n 0 u h := by
    intro u hu
    refine ⟨1, ?_⟩
    unfold wp_X8_figures_b26
    exact bf (by rw [Int32.not_le]; exact hu) (bt rfl (bt' rfl q))
  rcases hd with rfl | rfl | rfl
  · exact bf' (by decide) (bf' (by decide) (st 1 (by decide)))
  · exact bf' (by decide) (bt' rfl (st 10 (by decide)))
  · exact bt' rfl (st 100 (by decide))
def exN (N : Nat → Nat → Nat) (c x y z u : Nat) : Option (Nat → Nat → Nat) :=
  if c = 114 then (if 2 ≤ x ∧ x ≤ 60 ∧ N 0 0 < 3 then some (adR N x) else none)
  else if c = 108 then (if N 0 1 < 4 then some (adL N) else none)
  else if c = 112 then (if x < N 0 0 ∧ y < N (1 + x) 0 ∧ z < N (1 + x) 0 ∧ y ≤ z ∧ u ≤ 9 then some (paS N x y z u) else none)
  else if c = 99 then (if x < N 0 1 ∧ y < N 0 0 ∧ z ≤ N (1 + y) 0 ∧ u ≤ N (1 + y) 0 ∧ rsN N x y z u = 0 then some (jnS N x y z u) else none)
  else if c = 118 then (if x < N 0 1 ∧ (1 ≤ y ∧ y ≤ 9) ∧ 1 ≤ z ∧ z ≤ 9 then some (spS N x y z) else none)
  else if c = 109 then (if x < N 0 1 then some (muS N x (decide (y = 1)).toNat) else none)
  else if c = 116 then (if 1 ≤ x ∧ x ≤ 999 then some (gnN N x) else none)
  else (if x < N 0 0 ∧ 1 ≤ y ∧ y ≤ N (1 + x) 0 then some (rcS N x y) else none)

theorem ex_114 {N : Nat → Nat → Nat} {x y z u : Nat} (h : 2 ≤ x ∧ x ≤ 60 ∧ N 0 0 < 3) : exN N 114 x y z u = some (adR N x) := by unfold exN; rw [if_pos rfl, if_pos h]
theorem ex_114n {N : Nat → Nat → Nat} {x y z u : Nat} (h : ¬ (2 ≤ x ∧ x ≤ 60 ∧ N 0 0 < 3)) : exN N 114 x y z u = none := by unfold exN; rw [if_pos rfl, if_neg h]
theorem ex_108 {N : Nat → Nat → Nat} {x y z u : Nat} (h : N 0 1 < 4) : exN N 108 x y z u = some (adL N) := by unfold exN; rw [if_neg (by decide), if_pos rfl, if_pos h]
theorem ex_108n {N : Nat → Nat → Nat} {x y z u : Nat} (h : ¬ (N 0 1 < 4)) : exN N 108 x y z u = none := by unfold exN; rw [if_neg (by decide), if_pos rfl, if_neg h]
theorem ex_112 {N : Nat → Nat → Nat} {x y z u : Nat} (h : x < N 0 0 ∧ y < N (1 + x) 0 ∧ z < N (1 + x) 0 ∧ y ≤ z ∧ u ≤ 9) : exN N 112 x y z u = some (paS N x y z u) := by unfold exN; rw [if_neg (by decide), if_neg (by decide), if_pos rfl, if_pos h]
theorem ex_112n {N : Nat → Nat → Nat} {x y z u : Nat} (h : ¬ (x < N 0 0 ∧ y < N (1 + x) 0 ∧ z < N (1 + x) 0 ∧ y ≤ z ∧ u ≤ 9)) : exN N 112 x y z u = none := by unfold exN; rw [if_neg (by decide), if_neg (by decide), if_pos rfl, if_neg h]
theorem ex_99 {N : Nat → Nat → Nat} {x y z u : Nat} (h : x < N 0 1 ∧ y < N 0 0 ∧ z ≤ N (1 + y) 0 ∧ u ≤ N (1 + y) 0 ∧ rsN N x y z u = 0) : exN N 99 x y z u = some (jnS N x y z u) := by unfold exN; rw [if_neg (by decide), if_neg (by decide), if_neg (by decide), if_pos rfl, if_pos h]
theorem ex_99n {N : Nat → Nat → Nat} {x y z u : Nat} (h : ¬ (x < N 0 1 ∧ y < N 0 0 ∧ z ≤ N (1 + y) 0 ∧ u ≤ N (1 + y) 0 ∧ rsN N x y z u = 0)) : exN N 99 x y z u = none := by unfold exN; rw [if_neg (by decide), if_neg (by decide), if_neg (by decide), if_pos rfl, if_neg h]
theorem ex_118 {N : Nat → Nat → Nat} {x y z u : Nat} (h : x < N 0 1 ∧ (1 ≤ y ∧ y ≤ 9) ∧ 1 ≤ z ∧ z ≤ 9) : exN N 118 x y z u = some (spS N x y z) := by unfold exN; rw [if_neg (by decide), if_neg (by decide), if_neg (by decide), if_neg (by decide), if_pos rfl, if_pos h]
theorem ex_118n {N : Nat → Nat → Nat} {x y z u : Nat} (h : ¬ (x < N 0 1 ∧ (1 ≤ y ∧ y ≤ 9) ∧ 1 ≤ z ∧ z ≤ 9)) : exN N 118 x y z u = none := by unfold exN; rw [if_neg (by decide), if_neg (by decide), if_neg (by decide), if_neg (by decide), if_pos rfl, if_neg h]
theorem ex_109 {N : Nat → Nat → Nat} {x y z u : Nat} (h : x < N 0 1) : exN N 109 x y z u = some (muS N x (decide (y = 1)).toNat) := by unfold exN; rw [if_neg (by decide), if_neg (by decide), if_neg (by decide), if_neg (by decide), if_neg (by decide), if_pos rfl, if_pos h]
theorem ex_109n {N : Nat → Nat → Nat} {x y z u : Nat} (h : ¬ (x < N 0 1)) : exN N 109 x y z u = none := by unfold exN; rw [if_neg (by decide), if_neg (by decide), if_neg (by decide), if_neg (by decide), if_neg (by decide), if_pos rfl, if_neg h]
theorem ex_116 {N : Nat → Nat → Nat} {x y z u : Nat} (h : 1 ≤ x ∧ x ≤ 999) : exN N 116 x y z u = some (gnN N x) := by unfold exN; rw [if_neg (by decide), if_neg (by decide), if_neg (by decide), if_neg (by decide), if_neg (by decide), if_neg (by decide), if_pos rfl, if_pos h]
theorem ex_116n {N : Nat → Nat → Nat} {x y z u : Nat} (h : ¬ (1 ≤ x ∧ x ≤ 999)) : exN N 116 x y z u = none := by unfold exN; rw [if_neg (by decide), if_neg (by decide), if_neg (by decide), if_neg (by decide), if_neg (by decide), if_neg (by decide), if_pos rfl, if_neg h]
theorem ex_119 {N : Nat → Nat → Nat} {x y z u : Nat} (h : x < N 0 0 ∧ 1 ≤ y ∧ y ≤ N (1 + x) 0) : exN N 119 x y z u = some (rcS N x y) := by unfold exN; rw [if_neg (by decide), if_neg (by decide), if_neg (by decide), if_neg (by decide), if_neg (by decide), if_neg (by decide), if_neg (by decide), if_pos h]
theorem ex_119n {N : Nat → Nat → Nat} {x y z u : Nat} (h : ¬ (x < N 0 0 ∧ 1 ≤ y ∧ y ≤ N (1 + x) 0)) : exN N 119 x y z u = none := by unfold exN; rw [if_neg (by decide), if_neg (by decide), if_neg (by decide), if_neg (by decide), if_neg (by decide), if_neg (by decide), if_neg (by decide), if_neg h]

theorem paC_gen {f : Nat → Nat} {v : Nat} : ∀ d i n, fl (fun c n => if f (1 + c) = v then n else n + 1) d i n ≤ n + d := by
  intro d
  induction d with
  | zero => intro i n; exact Nat.le_refl _
  | succ d ih =>
    intro i n
    unfold fl
    have := ih (i + 1) (if f (1 + i) = v then n else n + 1)
    by_cases e : f (1 + i) = v
    · rw [if_pos e] at this ⊢; omega
    · rw [if_neg e] at this ⊢; omega
theorem paC_le {f : Nat → Nat} {a b v : Nat} : paC f a b v ≤ b - a := by
  have := paC_gen (f := f) (v := v) (b - a) a 0
  unfold paC
  omega
theorem rcV_gen {N : Nat → Nat → Nat} : ∀ d i n, fl (fun t s => s + min (sndN N t) 9) d i n ≤ n + 9 * d := by
  intro d
  induction d with
  | zero => intro i n; exact Nat.le_refl _
  | succ d ih =>
    intro i n
    unfold fl
    have := ih (i + 1) (n + min (sndN N i) 9)
    omega
theorem rcV_le {N : Nat → Nat → Nat} {r n : Nat} (hI : Inv N) (hr : r < N 0 0) (hn : n ≤ N (1 + r) 0) : rcV N n ≤ 540 := by
  have := rcV_gen (N := N) n 0 0
  have i60 := (hI.ir hr).1
  unfold rcV
  omega


def XR (N : Nat → Nat → Nat) (e : Option (Nat → Nat → Nat)) (o : Nat) (N' : Nat → Nat → Nat) (o' : Nat) : Prop := (e = some N' ∧ o' = o) ∨ (e = none ∧ N' = N ∧ o' = o + 1)
theorem XR.y {N N' : Nat → Nat → Nat} {e : Option (Nat → Nat → Nat)} {o : Nat} (h : e = some N') : XR N e o N' o := Or.inl ⟨h, rfl⟩
theorem XR.n {N : Nat → Nat → Nat} {e : Option (Nat → Nat → Nat)} {o : Nat} (h : e = none) : XR N e o N (o + 1) := Or.inr ⟨h, rfl, rfl⟩
theorem ex_inv {N N' : Nat → Nat → Nat} {c x y z u o o' : Nat} (hc : ltr c = true) (hI : Inv N) (r : XR N (exN N c x y z u) o N' o') : Inv N' ∧ N' 0 3 = N 0 3 := by
  rcases r with ⟨e, _⟩ | ⟨_, rfl, _⟩
  · rcases ltr_c hc with rfl | rfl | rfl | rfl | rfl | rfl | rfl | rfl
    · by_cases cc : x < N 0 1 ∧ y < N 0 0 ∧ z ≤ N (1 + y) 0 ∧ u ≤ N (1 + y) 0 ∧ rsN N x y z u = 0
      · rw [ex_99 cc] at e
        cases e
        obtain ⟨h1, h2, h3⟩ := rsN_0 cc.2.2.2.2
        have il := hI.il cc.1
        have i6 := il.2.2.2.2.1
        exact ⟨hI.setL cc.1 (il.jn (hI.ir cc.2.1) h1 cc.2.2.2.1 h2 (by omega)), s4⟩
      · rw [ex_99n cc] at e; cases e
    · by_cases cc : N 0 1 < 4
      · rw [ex_108 cc] at e
        cases e
        refine ⟨hI.adL cc, ?_⟩
        show setO (setO N (4 + N 0 1) newL) 0 (ufn (N 0) 1 (N 0 1 + 1)) 0 3 = N 0 3
        rw [setO_s, ufn_n (by decide)]
      · rw [ex_108n cc] at e; cases e
    · by_cases cc : x < N 0 1
      · rw [ex_109 cc] at e
        cases e
        exact ⟨hI.setL cc ((hI.il cc).mu (by cases decide (y = 1) <;> decide)), s4⟩
      · rw [ex_109n cc] at e; cases e
    · by_cases cc : x < N 0 0 ∧ y < N (1 + x) 0 ∧ z < N (1 + x) 0 ∧ y ≤ z ∧ u ≤ 9
      · rw [ex_112 cc] at e
        cases e
        exact ⟨hI.setR cc.1 ((hI.ir cc.1).pa cc.2.2.2.2), s0⟩
      · rw [ex_112n cc] at e; cases e
    · by_cases cc : 2 ≤ x ∧ x ≤ 60 ∧ N 0 0 < 3
      · rw [ex_114 cc] at e
        cases e
        refine ⟨hI.adR cc.2.2 cc.2.1, ?_⟩
        show setO (setO N (1 + N 0 0) (newR x)) 0 (ufn (N 0) 0 (N 0 0 + 1)) 0 3 = N 0 3
        rw [setO_s, ufn_n (by decide)]
      · rw [ex_114n cc] at e; cases e
    · by_cases cc : 1 ≤ x ∧ x ≤ 999
      · rw [ex_116 cc] at e
        cases e
        exact ⟨hI.go, by rw [gnN_0, ufn_n (by decide)]⟩
      · rw [ex_116n cc] at e; cases e
    · by_cases cc : x < N 0 1 ∧ (1 ≤ y ∧ y ≤ 9) ∧ 1 ≤ z ∧ z ≤ 9
      · rw [ex_118 cc] at e
        cases e
        exact ⟨hI.setL cc.1 ((hI.il cc.1).sp cc.2.1 cc.2.2), s4⟩
      · rw [ex_118n cc] at e; cases e
    · by_cases cc : x < N 0 0 ∧ 1 ≤ y ∧ y ≤ N (1 + x) 0
      · rw [ex_119 cc] at e
        cases e
        refine ⟨hI.rc cc.1, ?_⟩
        show setO (gnN N y) (1 + x) (rcF N x y) 0 3 = N 0 3
        rw [setO_n (by omega), gnN_0, ufn_n (by decide)]
      · rw [ex_119n cc] at e; cases e
  · exact ⟨hI, rfl⟩
theorem mo_done1 {o : Nat} {h : PH} {Q : Int32 → PH → Prop} (e : h 344 10 = nI o) (q : ∀ h', FM h h' → h' 347 = h 347 → h' 344 9 = h 344 9 → h' 344 10 = nI o → Q 1 h') : wp_X8_done 344 1 h Q := by
  unfold wp_X8_done
  refine bf (by decide) ?_
  rintro h3 rfl
  rw [e, show nI o + 0 = nI o from nI_add o 0]
  exact q _ FM.o (up2_o 347 (by decide)) (up2_ne (by decide)) up2_at
theorem mo_done0 {o : Nat} {h : PH} {Q : Int32 → PH → Prop} (e : h 344 10 = nI o) (q : ∀ h', FM h h' → h' 347 = h 347 → h' 344 9 = h 344 9 → h' 344 10 = nI (o + 1) → Q 1 h') : wp_X8_done 344 0 h Q := by
  unfold wp_X8_done
  refine bt rfl ?_
  rintro h3 rfl
  rw [e, nI_1]
  exact q _ FM.o (up2_o 347 (by decide)) (up2_ne (by decide)) up2_at

theorem mo_c114 {s a o : Nat} {t : Nat → Nat} {N : Nat → Nat → Nat} {h : PH} {Q : Int32 → PH → Prop} (g : GX s t) (has : a ≤ s) (hx : MX s t h) (ha : h 344 9 = nI a) (ho : h 344 10 = nI o) (hM : Mw (h 347) N) (hI : Inv N) (qn : ∀ a1 h', numK s t (kl 114) a = (none, a1) → FM h h' → h' 344 9 = nI a1 → Q 0 h') (qs : ∀ vs a1 h' N' o', numK s t (kl 114) a = (some vs, a1) → XR N (exN N 114 (vs.getD 0 0) (vs.getD 1 0) (vs.getD 2 0) (vs.getD 3 0)) o N' o' → FM h h' → h' 344 9 = nI a1 → h' 344 10 = nI o' → Mw (h' 347) N' → Q 1 h') : wp_X8_figures 344 0 2 2 60 h (fun r57 h56 => ((r57 = (-1)) → Q 0 h56) ∧ ((¬ (r57 = (-1))) → (vp_in 0 (al 347)) ∧ (((3 ≤ (h56 347 (0 : Int32).toNatClampNeg)) → wp_X8_done 344 0 h56 (fun r62 h61 => ((r62 = 0) → Q 0 h61) ∧ ((¬ (r62 = 0)) → Q 1 h61))) ∧ ((¬ (3 ≤ (h56 347 (0 : Int32).toNatClampNeg))) → wp_X8_reelOn 347 r57 h56 (fun r65 h64 => ((r65 < 0) → wp_X8_done 344 0 h64 (fun r68 h67 => ((r68 = 0) → Q 0 h67) ∧ ((¬ (r68 = 0)) → Q 1 h67))) ∧ ((¬ (r65 < 0)) → wp_X8_done 344 1 h64 (fun r71 h70 => ((r71 = 0) → Q 0 h70) ∧ ((¬ (r71 = 0)) → Q 1 h70)))))))) := by
  have s120 := g.1
  have i3 := hI.1
  have i4 := hI.2.1
  have Fr0 : FS h h := FS.rf
  refine mo_fig (ah := 0) 114 kn_114 (by decide) (by omega) g has hx ha (fun a1 h' en1 F e => bt rfl (qn _ _ (numK_n en1) (Fr0.tr F).m e)) (fun v1 a1 h1 en1 F1 e1 => ?_)
  have b1 := nmK_b (by decide : 114 ∈ KK) en1
  rw [kn_114] at b1
  dsimp only at b1
  have al1 : a1 ≤ s := b1.2.2.2
  have Fr1 := Fr0.tr F1
  have hx1 := hx.fm Fr1.m
  have Fm := Fr1.m
  have hm : Mw (h1 347) N := by rw [Fr1.1 347 (by decide)]; exact hM
  have ho' : h1 344 10 = nI o := (Fr1.2 10 (by decide)).trans ho
  refine bf (nm1 (by omega)) ?_
  have NK := numK_ss en1 numK_0
  have c0 : (0 : Int32).toNatClampNeg = 0 := by decide
  rw [c0, show h1 347 0 = nI (N 0 0) from hm.g (by omega), li_3]
  refine ⟨by rw [al_347, li_0]; exact vp_in_nI (by omega) (by omega), ?_⟩
  by_cases c : N 0 0 < 3
  · exact bf (nI_ge c (by omega)) (mo_reelOn al_347 hm c (fun h2 G M => bf (nI_pos (by omega)) (mo_done1 (by rw [G 344 (by decide)]; exact ho') (fun h' D d7 d9 d10 => bf (by decide) (qs _ _ _ _ _ NK (XR.y (ex_114 ⟨b1.1, b1.2.1, c⟩)) ((Fm.tr (FM.f G)).tr D) (d9.trans (by rw [G 344 (by decide)]; exact e1)) d10 (by rw [d7]; exact M))))))
  · exact bt (nI_le (by omega) (by omega)) (mo_done0 ho' (fun h' D d7 d9 d10 => bf (by decide) (qs _ _ _ _ _ NK (XR.n (ex_114n (fun z => c z.2.2))) (Fm.tr D) (d9.trans e1) d10 (by rw [d7]; exact hm))))

theorem mo_c108 {s a o : Nat} {t : Nat → Nat} {N : Nat → Nat → Nat} {h : PH} {Q : Int32 → PH → Prop} (g : GX s t) (has : a ≤ s) (hx : MX s t h) (ha : h 344 9 = nI a) (ho : h 344 10 = nI o) (hM : Mw (h 347) N) (hI : Inv N) (qn : ∀ a1 h', numK s t (kl 108) a = (none, a1) → FM h h' → h' 344 9 = nI a1 → Q 0 h') (qs : ∀ vs a1 h' N' o', numK s t (kl 108) a = (some vs, a1) → XR N (exN N 108 (vs.getD 0 0) (vs.getD 1 0) (vs.getD 2 0) (vs.getD 3 0)) o N' o' → FM h h' → h' 344 9 = nI a1 → h' 344 10 = nI o' → Mw (h' 347) N' → Q 1 h') : (vp_in 1 (al 347)) ∧ (((4 ≤ (h 347 (1 : Int32).toNatClampNeg)) → wp_X8_done 344 0 h (fun r13 h12 => (r13 = 0 ∨ r13 = 1) ∧ Q r13 h12)) ∧ ((¬ (4 ≤ (h 347 (1 : Int32).toNatClampNeg))) → wp_X8_loopOn 347 h (fun r15 h14 => ((r15 < 0) → wp_X8_done 344 0 h14 (fun r18 h17 => (r18 = 0 ∨ r18 = 1) ∧ Q r18 h17)) ∧ ((¬ (r15 < 0)) → wp_X8_done 344 1 h14 (fun r20 h19 => (r20 = 0 ∨ r20 = 1) ∧ Q r20 h19))))) := by
  have s120 := g.1
  have i3 := hI.1
  have i4 := hI.2.1
  have c1 : (1 : Int32).toNatClampNeg = 1 := by decide
  have Fm : FM h h := FM.rf
  have hm := hM
  have ho' := ho
  have e0 := ha
  have NK : numK s t (kl 108) a = (some [], a) := rfl
  rw [c1, show h 347 1 = nI (N 0 1) from hm.g (by omega), li_4]
  refine ⟨by rw [al_347, li_1]; exact vp_in_nI (by omega) (by omega), ?_⟩
  by_cases c : N 0 1 < 4
  · exact bf (nI_ge c (by omega)) (mo_loopOn al_347 hm c (fun h2 G M => bf (nI_pos (by omega)) (mo_done1 (by rw [G 344 (by decide)]; exact ho') (fun h' D d7 d9 d10 => ⟨Or.inr rfl, (qs _ _ _ _ _ NK (XR.y (ex_108 c)) ((Fm.tr (FM.f G)).tr D) (d9.trans (by rw [G 344 (by decide)]; exact e0)) d10 (by rw [d7]; exact M))⟩))))
  · exact bt (nI_le (by omega) (by omega)) (mo_done0 ho' (fun h' D d7 d9 d10 => ⟨Or.inr rfl, (qs _ _ _ _ _ NK (XR.n (ex_108n c)) (Fm.tr D) (d9.trans e0) d10 (by rw [d7]; exact hm))⟩))

theorem mo_c109 {s a o : Nat} {t : Nat → Nat} {N : Nat → Nat → Nat} {h : PH} {Q : Int32 → PH → Prop} (g : GX s t) (has : a ≤ s) (hx : MX s t h) (ha : h 344 9 = nI a) (ho : h 344 10 = nI o) (hM : Mw (h 347) N) (hI : Inv N) (qn : ∀ a1 h', numK s t (kl 109) a = (none, a1) → FM h h' → h' 344 9 = nI a1 → Q 0 h') (qs : ∀ vs a1 h' N' o', numK s t (kl 109) a = (some vs, a1) → XR N (exN N 109 (vs.getD 0 0) (vs.getD 1 0) (vs.getD 2 0) (vs.getD 3 0)) o N' o' → FM h h' → h' 344 9 = nI a1 → h' 344 10 = nI o' → Mw (h' 347) N' → Q 1 h') : wp_X8_loopSign 344 0 h (fun r23 h22 => wp_X8_figures 344 r23 1 0 1 h22 (fun r25 h24 => ((r25 = (-1)) → Q 0 h24) ∧ ((¬ (r25 = (-1))) → wp_X8_isLoop 347 r23 h24 (fun r28 h27 => ((r28 = 0) → wp_X8_done 344 0 h27 (fun r31 h30 => ((r31 = 0) → Q 0 h30) ∧ ((¬ (r31 = 0)) → Q 1 h30))) ∧ ((¬ (r28 = 0)) → ((¬ r25 = 1) → wp_X8_muteOn 347 r23 0 h27 (fun r35 h34 => ((r35 < 0) → wp_X8_done 344 0 h34 (fun r38 h37 => ((r38 = 0) → Q 0 h37) ∧ ((¬ (r38 = 0)) → Q 1 h37))) ∧ ((¬ (r35 < 0)) → wp_X8_done 344 1 h34 (fun r41 h40 => ((r41 = 0) → Q 0 h40) ∧ ((¬ (r41 = 0)) → Q 1 h40))))) ∧ ((r25 = 1) → wp_X8_muteOn 347 r23 1 h27 (fun r35 h34 => ((r35 < 0) → wp_X8_done 344 0 h34 (fun r38 h37 => ((r38 = 0) → Q 0 h37) ∧ ((¬ (r38 = 0)) → Q 1 h37))) ∧ ((¬ (r35 < 0)) → wp_X8_done 344 1 h34 (fun r41 h40 => ((r41 = 0) → Q 0 h40) ∧ ((¬ (r41 = 0)) → Q 1 h40)))))))))) := by
  have s120 := g.1
  have i3 := hI.1
  have i4 := hI.2.1
  unfold wp_X8_loopSign
  have Fr0 : FS h h := FS.rf
  refine mo_fig (ah := 0) 76 kn_76 (by decide) (by omega) g has hx ha (fun a1 h' en1 F e => mo_figN (d := 1) (by decide) (bt rfl (qn _ _ (numK_n en1) (Fr0.tr F).m e))) (fun v1 a1 h1 en1 F1 e1 => ?_)
  have b1 := nmK_b (by decide : 76 ∈ KK) en1
  rw [kn_76] at b1
  dsimp only at b1
  have al1 : a1 ≤ s := b1.2.2.2
  have Fr1 := Fr0.tr F1
  have hx1 := hx.fm Fr1.m
  refine mo_fig (ah := v1) 109 kn_109 (by decide) (by omega) g al1 hx1 e1 (fun a1 h' en2 F e => bt rfl (qn _ _ (numK_sn en1 (numK_n en2)) (Fr1.tr F).m e)) (fun v2 a2 h2 en2 F2 e2 => ?_)
  have b2 := nmK_b (by decide : 109 ∈ KK) en2
  rw [kn_109] at b2
  dsimp only at b2
  have al2 : a2 ≤ s := b2.2.2.2
  have Fr2 := Fr1.tr F2
  have hx2 := hx.fm Fr2.m
  have Fm := Fr2.m
  have hm : Mw (h2 347) N := by rw [Fr2.1 347 (by decide)]; exact hM
  have ho' : h2 344 10 = nI o := (Fr2.2 10 (by decide)).trans ho
  refine bf (nm1 (by omega)) ?_
  have NK := numK_ss en1 (numK_ss en2 numK_0)
  by_cases c : v1 < N 0 1
  · refine mo_isLoop al_347 hm hI c (bf (by decide) ?_)
    rcases (by omega : v2 = 0 ∨ v2 = 1) with rfl | rfl
    · exact bf' (by decide) (mo_muteOn (m := false) al_347 hm hI c (fun h4 G M => bf (nI_pos (by have := snd_le (N := muS N v1 false.toNat) (n := 0) (hI.setL c ((hI.il c).mu (by decide))); omega)) (mo_done1 (by rw [G 344 (by decide)]; exact ho') (fun h' D d7 d9 d10 => bf (by decide) (qs _ _ _ _ _ NK (XR.y (ex_109 c)) ((Fm.tr (FM.f G)).tr D) (d9.trans (by rw [G 344 (by decide)]; exact e2)) d10 (by rw [d7]; exact M))))))
    · exact bt' rfl (mo_muteOn (m := true) al_347 hm hI c (fun h4 G M => bf (nI_pos (by have := snd_le (N := muS N v1 true.toNat) (n := 0) (hI.setL c ((hI.il c).mu (by decide))); omega)) (mo_done1 (by rw [G 344 (by decide)]; exact ho') (fun h' D d7 d9 d10 => bf (by decide) (qs _ _ _ _ _ NK (XR.y (ex_109 c)) ((Fm.tr (FM.f G)).tr D) (d9.trans (by rw [G 344 (by decide)]; exact e2)) d10 (by rw [d7]; exact M))))))
  · exact mo_isLoopN al_347 hm hI (by rw [inB_n (by omega) (by omega)]; omega) (bt rfl (mo_done0 ho' (fun h' D d7 d9 d10 => bf (by decide) (qs _ _ _ _ _ NK (XR.n (ex_109n c)) (Fm.tr D) (d9.trans e2) d10 (by rw [d7]; exact hm)))))

theorem mo_c116 {s a o : Nat} {t : Nat → Nat} {N : Nat → Nat → Nat} {h : PH} {Q : Int32 → PH → Prop} (g : GX s t) (has : a ≤ s) (hx : MX s t h) (ha : h 344 9 = nI a) (ho : h 344 10 = nI o) (hM : Mw (h 347) N) (hI : Inv N) (qn : ∀ a1 h', numK s t (kl 116) a = (none, a1) → FM h h' → h' 344 9 = nI a1 → Q 0 h') (qs : ∀ vs a1 h' N' o', numK s t (kl 116) a = (some vs, a1) → XR N (exN N 116 (vs.getD 0 0) (vs.getD 1 0) (vs.getD 2 0) (vs.getD 3 0)) o N' o' → FM h h' → h' 344 9 = nI a1 → h' 344 10 = nI o' → Mw (h' 347) N' → Q 1 h') : wp_X8_figures 344 0 3 1 999 h (fun r75 h74 => ((r75 = (-1)) → Q 0 h74) ∧ ((¬ (r75 = (-1))) → wp_X8_goOn 347 r75 h74 (fun r78 h77 => ((r78 < 0) → wp_X8_done 344 0 h77 (fun r81 h80 => ((r81 = 0) → Q 0 h80) ∧ ((¬ (r81 = 0)) → Q 1 h80))) ∧ ((¬ (r78 < 0)) → wp_X8_done 344 1 h77 (fun r84 h83 => ((r84 = 0) → Q 0 h83) ∧ ((¬ (r84 = 0)) → Q 1 h83)))))) := by
  have s120 := g.1
  have i3 := hI.1
  have i4 := hI.2.1
  have Fr0 : FS h h := FS.rf
  refine mo_fig (ah := 0) 116 kn_116 (by decide) (by omega) g has hx ha (fun a1 h' en1 F e => bt rfl (qn _ _ (numK_n en1) (Fr0.tr F).m e)) (fun v1 a1 h1 en1 F1 e1 => ?_)
  have b1 := nmK_b (by decide : 116 ∈ KK) en1
  rw [kn_116] at b1
  dsimp only at b1
  have al1 : a1 ≤ s := b1.2.2.2
  have Fr1 := Fr0.tr F1
  have hx1 := hx.fm Fr1.m
  have Fm := Fr1.m
  have hm : Mw (h1 347) N := by rw [Fr1.1 347 (by decide)]; exact hM
  have ho' : h1 344 10 = nI o := (Fr1.2 10 (by decide)).trans ho
  refine bf (nm1 (by omega)) ?_
  have NK := numK_ss en1 numK_0
  exact mo_goOn al_347 hm hI b1.2.1 (fun h2 G M => bf (nI_pos (by have := snd_le (N := gnN N v1) (n := 0) hI.go; omega)) (mo_done1 (by rw [G 344 (by decide)]; exact ho') (fun h' D d7 d9 d10 => bf (by decide) (qs _ _ _ _ _ NK (XR.y (ex_116 ⟨b1.1, b1.2.1⟩)) ((Fm.tr (FM.f G)).tr D) (d9.trans (by rw [G 344 (by decide)]; exact e1)) d10 (by rw [d7]; exact M)))))

theorem mo_c119 {s a o : Nat} {t : Nat → Nat} {N : Nat → Nat → Nat} {h : PH} {Q : Int32 → PH → Prop} (g : GX s t) (has : a ≤ s) (hx : MX s t h) (ha : h 344 9 = nI a) (ho : h 344 10 = nI o) (hM : Mw (h 347) N) (hI : Inv N) (qn : ∀ a1 h', numK s t (kl 119) a = (none, a1) → FM h h' → h' 344 9 = nI a1 → Q 0 h') (qs : ∀ vs a1 h' N' o', numK s t (kl 119) a = (some vs, a1) → XR N (exN N 119 (vs.getD 0 0) (vs.getD 1 0) (vs.getD 2 0) (vs.getD 3 0)) o N' o' → FM h h' → h' 344 9 = nI a1 → h' 344 10 = nI o' → Mw (h' 347) N' → Q 1 h') : wp_X8_reelSign 344 0 h (fun r91 h90 => wp_X8_figures 344 r91 2 1 60 h90 (fun r93 h92 => ((r93 = (-1)) → Q 0 h92) ∧ ((¬ (r93 = (-1))) → wp_X8_isReel 347 r91 h92 (fun r96 h95 => ((r96 = 0) → wp_X8_done 344 0 h95 (fun r99 h98 => ((r99 = 0) → Q 0 h98) ∧ ((¬ (r99 = 0)) → Q 1 h98))) ∧ ((¬ (r96 = 0)) → wp_X8_cells 347 r91 h95 (fun r102 h101 => ((r102 < r93) → wp_X8_done 344 0 h101 (fun r105 h104 => ((r105 = 0) → Q 0 h104) ∧ ((¬ (r105 = 0)) → Q 1 h104))) ∧ ((¬ (r102 < r93)) → wp_X8_recordOn 347 r91 r93 h101 (fun r108 h107 => ((r108 < 0) → wp_X8_done 344 0 h107 (fun r111 h110 => ((r111 = 0) → Q 0 h110) ∧ ((¬ (r111 = 0)) → Q 1 h110))) ∧ ((¬ (r108 < 0)) → wp_X8_done 344 1 h107 (fun r114 h113 => ((r114 = 0) → Q 0 h113) ∧ ((¬ (r114 = 0)) → Q 1 h113))))))))))) := by
  have s120 := g.1
  have i3 := hI.1
  have i4 := hI.2.1
  unfold wp_X8_reelSign
  have Fr0 : FS h h := FS.rf
  refine mo_fig (ah := 0) 82 kn_82 (by decide) (by omega) g has hx ha (fun a1 h' en1 F e => mo_figN (d := 2) (by decide) (bt rfl (qn _ _ (numK_n en1) (Fr0.tr F).m e))) (fun v1 a1 h1 en1 F1 e1 => ?_)
  have b1 := nmK_b (by decide : 82 ∈ KK) en1
  rw [kn_82] at b1
  dsimp only at b1
  have al1 : a1 ≤ s := b1.2.2.2
  have Fr1 := Fr0.tr F1
  have hx1 := hx.fm Fr1.m
  refine mo_fig (ah := v1) 119 kn_119 (by decide) (by omega) g al1 hx1 e1 (fun a1 h' en2 F e => bt rfl (qn _ _ (numK_sn en1 (numK_n en2)) (Fr1.tr F).m e)) (fun v2 a2 h2 en2 F2 e2 => ?_)
  have b2 := nmK_b (by decide : 119 ∈ KK) en2
  rw [kn_119] at b2
  dsimp only at b2
  have al2 : a2 ≤ s := b2.2.2.2
  have Fr2 := Fr1.tr F2
  have hx2 := hx.fm Fr2.m
  have Fm := Fr2.m
  have hm : Mw (h2 347) N := by rw [Fr2.1 347 (by decide)]; exact hM
  have ho' : h2 344 10 = nI o := (Fr2.2 10 (by decide)).trans ho
  refine bf (nm1 (by omega)) ?_
  have NK := numK_ss en1 (numK_ss en2 numK_0)
  by_cases c : v1 < N 0 0
  · have i60 := (hI.ir c).1
    refine mo_isReel al_347 hm hI c (bf (by decide) (mo_cells al_347 (hm.r (by omega)) (by omega) ?_))
    by_cases c2 : v2 ≤ N (1 + v1) 0
    · have rl := rcV_le (N := N) (n := v2) (r := v1) hI c c2
      exact bf (nI_nlt c2 (by omega)) (mo_recordOn al_347 hm hI c c2 (fun h4 G M => bf (nI_pos (by omega)) (mo_done1 (by rw [G 344 (by decide)]; exact ho') (fun h' D d7 d9 d10 => bf (by decide) (qs _ _ _ _ _ NK (XR.y (ex_119 ⟨c, b2.1, c2⟩)) ((Fm.tr (FM.f G)).tr D) (d9.trans (by rw [G 344 (by decide)]; exact e2)) d10 (by rw [d7]; exact M))))))
    · exact bt (nI_lt (by omega) (by omega)) (mo_done0 ho' (fun h' D d7 d9 d10 => bf (by decide) (qs _ _ _ _ _ NK (XR.n (ex_119n (fun z => c2 z.2.2))) (Fm.tr D) (d9.trans e2) d10 (by rw [d7]; exact hm))))
  · exact mo_isReelN al_347 hm hI (by rw [inB_n (by omega) (by omega)]; omega) (bt rfl (mo_done0 ho' (fun h' D d7 d9 d10 => bf (by decide) (qs _ _ _ _ _ NK (XR.n (ex_119n (fun z => c z.1))) (Fm.tr D) (d9.trans e2) d10 (by rw [d7]; exact hm)))))

theorem mo_c118 {s a o : Nat} {t : Nat → Nat} {N : Nat → Nat → Nat} {h : PH} {Q : Int32 → PH → Prop} (g : GX s t) (has : a ≤ s) (hx : MX s t h) (ha : h 344 9 = nI a) (ho : h 344 10 = nI o) (hM : Mw (h 347) N) (hI : Inv N) (qn : ∀ a1 h', numK s t (kl 118) a = (none, a1) → FM h h' → h' 344 9 = nI a1 → Q 0 h') (qs : ∀ vs a1 h' N' o', numK s t (kl 118) a = (some vs, a1) → XR N (exN N 118 (vs.getD 0 0) (vs.getD 1 0) (vs.getD 2 0) (vs.getD 3 0)) o N' o' → FM h h' → h' 344 9 = nI a1 → h' 344 10 = nI o' → Mw (h' 347) N' → Q 1 h') : wp_X8_readSpeed 344 347 h Q := by
  have s120 := g.1
  have i3 := hI.1
  have i4 := hI.2.1
  unfold wp_X8_readSpeed
  unfold wp_X8_loopSign
  have Fr0 : FS h h := FS.rf
  refine mo_fig (ah := 0) 76 kn_76 (by decide) (by omega) g has hx ha (fun a1 h' en1 F e => mo_figN (d := 1) (by decide) (mo_figN (d := 1) (by decide) (bt rfl (qn _ _ (numK_n en1) (Fr0.tr F).m e)))) (fun v1 a1 h1 en1 F1 e1 => ?_)
  have b1 := nmK_b (by decide : 76 ∈ KK) en1
  rw [kn_76] at b1
  dsimp only at b1
  have al1 : a1 ≤ s := b1.2.2.2
  have Fr1 := Fr0.tr F1
  have hx1 := hx.fm Fr1.m
  refine mo_fig (ah := v1) 118 kn_118 (by decide) (by omega) g al1 hx1 e1 (fun a1 h' en2 F e => mo_figN (d := 1) (by decide) (bt rfl (qn _ _ (numK_sn en1 (numK_n en2)) (Fr1.tr F).m e))) (fun v2 a2 h2 en2 F2 e2 => ?_)
  have b2 := nmK_b (by decide : 118 ∈ KK) en2
  rw [kn_118] at b2
  dsimp only at b2
  have al2 : a2 ≤ s := b2.2.2.2
  have Fr2 := Fr1.tr F2
  have hx2 := hx.fm Fr2.m
  refine mo_fig (ah := v2) 118 kn_118 (by decide) (by omega) g al2 hx2 e2 (fun a1 h' en3 F e => bt rfl (qn _ _ (numK_sn en1 (numK_sn en2 (numK_n en3))) (Fr2.tr F).m e)) (fun v3 a3 h3 en3 F3 e3 => ?_)
  have b3 := nmK_b (by decide : 118 ∈ KK) en3
  rw [kn_118] at b3
  dsimp only at b3
  have al3 : a3 ≤ s := b3.2.2.2
  have Fr3 := Fr2.tr F3
  have hx3 := hx.fm Fr3.m
  have Fm := Fr3.m
  have hm : Mw (h3 347) N := by rw [Fr3.1 347 (by decide)]; exact hM
  have ho' : h3 344 10 = nI o := (Fr3.2 10 (by decide)).trans ho
  refine bf (nm1 (by omega)) ?_
  have NK := numK_ss en1 (numK_ss en2 (numK_ss en3 numK_0))
  by_cases c : v1 < N 0 1
  · have il := hI.il c
    have p1 := il.ph
    have pd : N (4 + v1) 3 / N (4 + v1) 2 * v3 ≤ 432 * 9 := Nat.mul_le_mul (Nat.le_trans (Nat.div_le_self _ _) p1) (by omega)
    exact mo_isLoop al_347 hm hI c (bf (by decide) (mo_speedOn al_347 hm hI c (by omega) (fun h5 G M => bf (nI_pos (by omega)) (mo_done1 (by rw [G 344 (by decide)]; exact ho') (fun h' D d7 d9 d10 => bf (by decide) (qs _ _ _ _ _ NK (XR.y (ex_118 ⟨c, ⟨b2.1, b2.2.1⟩, b3.1, b3.2.1⟩)) ((Fm.tr (FM.f G)).tr D) (d9.trans (by rw [G 344 (by decide)]; exact e3)) d10 (by rw [d7]; exact M)))))))
  · exact mo_isLoopN al_347 hm hI (by rw [inB_n (by omega) (by omega)]; omega) (bt rfl (mo_done0 ho' (fun h' D d7 d9 d10 => bf (by decide) (qs _ _ _ _ _ NK (XR.n (ex_118n (fun z => c z.1))) (Fm.tr D) (d9.trans e3) d10 (by rw [d7]; exact hm)))))

theorem mo_c112 {s a o : Nat} {t : Nat → Nat} {N : Nat → Nat → Nat} {h : PH} {Q : Int32 → PH → Prop} (g : GX s t) (has : a ≤ s) (hx : MX s t h) (ha : h 344 9 = nI a) (ho : h 344 10 = nI o) (hM : Mw (h 347) N) (hI : Inv N) (qn : ∀ a1 h', numK s t (kl 112) a = (none, a1) → FM h h' → h' 344 9 = nI a1 → Q 0 h') (qs : ∀ vs a1 h' N' o', numK s t (kl 112) a = (some vs, a1) → XR N (exN N 112 (vs.getD 0 0) (vs.getD 1 0) (vs.getD 2 0) (vs.getD 3 0)) o N' o' → FM h h' → h' 344 9 = nI a1 → h' 344 10 = nI o' → Mw (h' 347) N' → Q 1 h') : wp_X8_readPaint 344 347 h Q := by
  have s120 := g.1
  have i3 := hI.1
  have i4 := hI.2.1
  unfold wp_X8_readPaint
  unfold wp_X8_reelSign
  have Fr0 : FS h h := FS.rf
  refine mo_fig (ah := 0) 82 kn_82 (by decide) (by omega) g has hx ha (fun a1 h' en1 F e => mo_figN (d := 2) (by decide) (mo_figN (d := 2) (by decide) (mo_figN (d := 1) (by decide) (bt rfl (qn _ _ (numK_n en1) (Fr0.tr F).m e))))) (fun v1 a1 h1 en1 F1 e1 => ?_)
  have b1 := nmK_b (by decide : 82 ∈ KK) en1
  rw [kn_82] at b1
  dsimp only at b1
  have al1 : a1 ≤ s := b1.2.2.2
  have Fr1 := Fr0.tr F1
  have hx1 := hx.fm Fr1.m
  unfold wp_X8_placeSign
  refine mo_fig (ah := v1) 67 kn_67 (by decide) (by omega) g al1 hx1 e1 (fun a1 h' en2 F e => mo_figN (d := 2) (by decide) (mo_figN (d := 1) (by decide) (bt rfl (qn _ _ (numK_sn en1 (numK_n en2)) (Fr1.tr F).m e)))) (fun v2 a2 h2 en2 F2 e2 => ?_)
  have b2 := nmK_b (by decide : 67 ∈ KK) en2
  rw [kn_67] at b2
  dsimp only at b2
  have al2 : a2 ≤ s := b2.2.2.2
  have Fr2 := Fr1.tr F2
  have hx2 := hx.fm Fr2.m
  refine mo_fig (ah := v2) 67 kn_67 (by decide) (by omega) g al2 hx2 e2 (fun a1 h' en3 F e => mo_figN (d := 1) (by decide) (bt rfl (qn _ _ (numK_sn en1 (numK_sn en2 (numK_n en3))) (Fr2.tr F).m e))) (fun v3 a3 h3 en3 F3 e3 => ?_)
  have b3 := nmK_b (by decide : 67 ∈ KK) en3
  rw [kn_67] at b3
  dsimp only at b3
  have al3 : a3 ≤ s := b3.2.2.2
  have Fr3 := Fr2.tr F3
  have hx3 := hx.fm Fr3.m
  refine mo_fig (ah := v3) 112 kn_112 (by decide) (by omega) g al3 hx3 e3 (fun a1 h' en4 F e => bt rfl (qn _ _ (numK_sn en1 (numK_sn en2 (numK_sn en3 (numK_n en4)))) (Fr3.tr F).m e)) (fun v4 a4 h4 en4 F4 e4 => ?_)
  have b4 := nmK_b (by decide : 112 ∈ KK) en4
  rw [kn_112] at b4
  dsimp only at b4
  have al4 : a4 ≤ s := b4.2.2.2
  have Fr4 := Fr3.tr F4
  have hx4 := hx.fm Fr4.m
  have Fm := Fr4.m
  have hm : Mw (h4 347) N := by rw [Fr4.1 347 (by decide)]; exact hM
  have ho' : h4 344 10 = nI o := (Fr4.2 10 (by decide)).trans ho
  refine bf (nm1 (by omega)) ?_
  have NK := numK_ss en1 (numK_ss en2 (numK_ss en3 (numK_ss en4 numK_0)))
  by_cases c1 : v1 < N 0 0
  · have i60 := (hI.ir c1).1
    by_cases c2 : v2 < N (1 + v1) 0
    · refine mo_isCell al_347 hm hI c1 c2 (bf (by decide) ?_)
      by_cases c3 : v3 < N (1 + v1) 0
      · refine mo_isCell al_347 hm hI c1 c3 (bf (by decide) ?_)
        by_cases c4 : v2 ≤ v3
        · have pl := paC_le (f := N (1 + v1)) (a := v2) (b := v3 + 1) (v := v4)
          exact bf (nI_nlt c4 (by omega)) (mo_paintOn al_347 hm hI c1 c4 c3 b4.2.1 (fun h6 G M => bf (nI_pos (by omega)) (mo_done1 (by rw [G 344 (by decide)]; exact ho') (fun h' D d7 d9 d10 => bf (by decide) (qs _ _ _ _ _ NK (XR.y (ex_112 ⟨c1, c2, c3, c4, b4.2.1⟩)) ((Fm.tr (FM.f G)).tr D) (d9.trans (by rw [G 344 (by decide)]; exact e4)) d10 (by rw [d7]; exact M))))))
        · exact bt (nI_lt (by omega) (by omega)) (mo_done0 ho' (fun h' D d7 d9 d10 => bf (by decide) (qs _ _ _ _ _ NK (XR.n (ex_112n (fun z => c4 z.2.2.2.1))) (Fm.tr D) (d9.trans e4) d10 (by rw [d7]; exact hm))))
      · exact mo_isCellN2 al_347 hm hI c1 (by rw [inB_n (by omega) (by omega)]; omega) (bt rfl (mo_done0 ho' (fun h' D d7 d9 d10 => bf (by decide) (qs _ _ _ _ _ NK (XR.n (ex_112n (fun z => c3 z.2.2.1))) (Fm.tr D) (d9.trans e4) d10 (by rw [d7]; exact hm)))))
    · exact mo_isCellN2 al_347 hm hI c1 (by rw [inB_n (by omega) (by omega)]; omega) (bt rfl (mo_done0 ho' (fun h' D d7 d9 d10 => bf (by decide) (qs _ _ _ _ _ NK (XR.n (ex_112n (fun z => c2 z.2.1))) (Fm.tr D) (d9.trans e4) d10 (by rw [d7]; exact hm)))))
  · exact mo_isCellN1 al_347 hm hI (by rw [inB_n (by omega) (by omega)]; omega) (bt rfl (mo_done0 ho' (fun h' D d7 d9 d10 => bf (by decide) (qs _ _ _ _ _ NK (XR.n (ex_112n (fun z => c1 z.1))) (Fm.tr D) (d9.trans e4) d10 (by rw [d7]; exact hm)))))

theorem mo_c99 {s a o : Nat} {t : Nat → Nat} {N : Nat → Nat → Nat} {h : PH} {Q : Int32 → PH → Prop} (g : GX s t) (has : a ≤ s) (hx : MX s t h) (ha : h 344 9 = nI a) (ho : h 344 10 = nI o) (hM : Mw (h 347) N) (hI : Inv N) (qn : ∀ a1 h', numK s t (kl 99) a = (none, a1) → FM h h' → h' 344 9 = nI a1 → Q 0 h') (qs : ∀ vs a1 h' N' o', numK s t (kl 99) a = (some vs, a1) → XR N (exN N 99 (vs.getD 0 0) (vs.getD 1 0) (vs.getD 2 0) (vs.getD 3 0)) o N' o' → FM h h' → h' 344 9 = nI a1 → h' 344 10 = nI o' → Mw (h' 347) N' → Q 1 h') : wp_X8_readSplice 344 347 h Q := by
  have s120 := g.1
  have i3 := hI.1
  have i4 := hI.2.1
  unfold wp_X8_readSplice
  unfold wp_X8_loopSign
  have Fr0 : FS h h := FS.rf
  refine mo_fig (ah := 0) 76 kn_76 (by decide) (by omega) g has hx ha (fun a1 h' en1 F e => mo_figN (d := 1) (by decide) (mo_figN (d := 2) (by decide) (mo_figN (d := 2) (by decide) (bt rfl (qn _ _ (numK_n en1) (Fr0.tr F).m e))))) (fun v1 a1 h1 en1 F1 e1 => ?_)
  have b1 := nmK_b (by decide : 76 ∈ KK) en1
  rw [kn_76] at b1
  dsimp only at b1
  have al1 : a1 ≤ s := b1.2.2.2
  have Fr1 := Fr0.tr F1
  have hx1 := hx.fm Fr1.m
  unfold wp_X8_reelSign
  refine mo_fig (ah := v1) 82 kn_82 (by decide) (by omega) g al1 hx1 e1 (fun a1 h' en2 F e => mo_figN (d := 2) (by decide) (mo_figN (d := 2) (by decide) (bt rfl (qn _ _ (numK_sn en1 (numK_n en2)) (Fr1.tr F).m e)))) (fun v2 a2 h2 en2 F2 e2 => ?_)
  have b2 := nmK_b (by decide : 82 ∈ KK) en2
  rw [kn_82] at b2
  dsimp only at b2
  have al2 : a2 ≤ s := b2.2.2.2
  have Fr2 := Fr1.tr F2
  have hx2 := hx.fm Fr2.m
  unfold wp_X8_placeSign
  refine mo_fig (ah := v2) 67 kn_67 (by decide) (by omega) g al2 hx2 e2 (fun a1 h' en3 F e => mo_figN (d := 2) (by decide) (bt rfl (qn _ _ (numK_sn en1 (numK_sn en2 (numK_n en3))) (Fr2.tr F).m e))) (fun v3 a3 h3 en3 F3 e3 => ?_)
  have b3 := nmK_b (by decide : 67 ∈ KK) en3
  rw [kn_67] at b3
  dsimp only at b3
  have al3 : a3 ≤ s := b3.2.2.2
  have Fr3 := Fr2.tr F3
  have hx3 := hx.fm Fr3.m
  refine mo_fig (ah := v3) 67 kn_67 (by decide) (by omega) g al3 hx3 e3 (fun a1 h' en4 F e => bt rfl (qn _ _ (numK_sn en1 (numK_sn en2 (numK_sn en3 (numK_n en4)))) (Fr3.tr F).m e)) (fun v4 a4 h4 en4 F4 e4 => ?_)
  have b4 := nmK_b (by decide : 67 ∈ KK) en4
  rw [kn_67] at b4
  dsimp only at b4
  have al4 : a4 ≤ s := b4.2.2.2
  have Fr4 := Fr3.tr F4
  have hx4 := hx.fm Fr4.m
  have Fm := Fr4.m
  have hm : Mw (h4 347) N := by rw [Fr4.1 347 (by decide)]; exact hM
  have ho' : h4 344 10 = nI o := (Fr4.2 10 (by decide)).trans ho
  refine bf (nm1 (by omega)) ?_
  have NK := numK_ss en1 (numK_ss en2 (numK_ss en3 (numK_ss en4 numK_0)))
  by_cases c1 : v1 < N 0 1
  · refine mo_isLoop al_347 hm hI c1 (bf (by decide) ?_)
    by_cases c2 : v2 < N 0 0
    · have i60 := (hI.ir c2).1
      by_cases c3 : v3 ≤ N (1 + v2) 0
      · refine mo_isPlace al_347 hm hI c2 c3 (bf (by decide) ?_)
        by_cases c4 : v4 ≤ N (1 + v2) 0
        · refine mo_isPlace al_347 hm hI c2 c4 (bf (by decide) (mo_reason al_347 hm hI c1 c2 c3 c4 ?_))
          have r6 := rsN_lt (N := N) (l := v1) (r := v2) (x := v3) (y := v4)
          rw [z0 (by omega)]
          by_cases c5 : rsN N v1 v2 v3 v4 = 0
          · exact bt' c5 (mo_spliceOn al_347 hm hI c1 c2 c3 c4 (fun _ h6 G M => bt' rfl (mo_done1 (by rw [G 344 (by decide)]; exact ho') (fun h' D d7 d9 d10 => bf (by decide) (qs _ _ _ _ _ NK (XR.y (ex_99 ⟨c1, c2, c3, c4, c5⟩)) ((Fm.tr (FM.f G)).tr D) (d9.trans (by rw [G 344 (by decide)]; exact e4)) d10 (by rw [d7]; exact M))))) (fun z => absurd c5 z))
          · exact bf' c5 (mo_done0 ho' (fun h' D d7 d9 d10 => bf (by decide) (qs _ _ _ _ _ NK (XR.n (ex_99n (fun z => c5 z.2.2.2.2))) (Fm.tr D) (d9.trans e4) d10 (by rw [d7]; exact hm))))
        · exact mo_isPlaceN2 al_347 hm hI c2 (by rw [inB_n (by omega) (by omega)]; omega) (bt rfl (mo_done0 ho' (fun h' D d7 d9 d10 => bf (by decide) (qs _ _ _ _ _ NK (XR.n (ex_99n (fun z => c4 z.2.2.2.1))) (Fm.tr D) (d9.trans e4) d10 (by rw [d7]; exact hm)))))
      · exact mo_isPlaceN2 al_347 hm hI c2 (by rw [inB_n (by omega) (by omega)]; omega) (bt rfl (mo_done0 ho' (fun h' D d7 d9 d10 => bf (by decide) (qs _ _ _ _ _ NK (XR.n (ex_99n (fun z => c3 z.2.2.1))) (Fm.tr D) (d9.trans e4) d10 (by rw [d7]; exact hm)))))
    · exact mo_isPlaceN1 al_347 hm hI (by rw [inB_n (by omega) (by omega)]; omega) (bt rfl (mo_done0 ho' (fun h' D d7 d9 d10 => bf (by decide) (qs _ _ _ _ _ NK (XR.n (ex_99n (fun z => c2 z.2.1))) (Fm.tr D) (d9.trans e4) d10 (by rw [d7]; exact hm)))))
  · exact mo_isLoopN al_347 hm hI (by rw [inB_n (by omega) (by omega)]; omega) (bt rfl (mo_done0 ho' (fun h' D d7 d9 d10 => bf (by decide) (qs _ _ _ _ _ NK (XR.n (ex_99n (fun z => c1 z.1))) (Fm.tr D) (d9.trans e4) d10 (by rw [d7]; exact hm)))))


theorem mo_readCommand {s a o : Nat} {t : Nat → Nat} {N : Nat → Nat → Nat} {h : PH} {Q : Int32 → PH → Prop} (g : GX s t) (has : a < s) (hx : MX s t h) (ha : h 344 9 = nI a) (ho : h 344 10 = nI o) (hM : Mw (h 347) N) (hI : Inv N)
    (Qn : ∀ a1 h', cmdP s t a = (none, a1) → FM h h' → h' 344 9 = nI a1 → Q 0 h') (Qs : ∀ c vs a1 h' N' o', ltr c = true → cmdP s t a = (some (c, vs), a1) → XR N (exN N c (vs.getD 0 0) (vs.getD 1 0) (vs.getD 2 0) (vs.getD 3 0)) o N' o' → FM h h' → h' 344 9 = nI a1 → h' 344 10 = nI o' → Mw (h' 347) N' → Q 1 h') : wp_X8_readCommand 344 347 h Q := by
  have s120 := g.1
  have tl := g.2 a has
  unfold wp_X8_readCommand
  rw [ha, nI_clamp (by omega)]
  refine ⟨vp_in_nI (show a < al (344 + 1) from by rw [show al (344 + 1) = 120 from al_345]; omega) (by rw [show al (344 + 1) = 120 from al_345]; omega), ?_⟩
  rw [show h (344 + 1) a = nI (t a) from hx.2 a has]
  rintro x2 rfl h3 rfl
  rw [nI_1]
  have U : FS h (up2 h 344 9 (nI (a + 1))) := FS.u
  have hx' := hx.fm U.m
  have ho' : up2 h 344 9 (nI (a + 1)) 344 10 = nI o := (U.2 10 (by decide)).trans ho
  have hM' : Mw (up2 h 344 9 (nI (a + 1)) 347) N := by rw [U.1 347 (by decide)]; exact hM
  have ha' : up2 h 344 9 (nI (a + 1)) 344 9 = nI (a + 1) := up2_at
  by_cases hc : ltr (t a) = true
  · have cn : ∀ a1, numK s t (kl (t a)) (a + 1) = (none, a1) → cmdP s t a = (none, a1) := fun a1 z => cmdP_n ⟨has, hc⟩ z
    have cs : ∀ vs a1, numK s t (kl (t a)) (a + 1) = (some vs, a1) → cmdP s t a = (some (t a, vs), a1) := fun vs a1 z => cmdP_s ⟨has, hc⟩ z
    have Qs' := Qs (t a)
    have lc := ltr_c hc
    generalize t a = cc at *
    rcases lc with rfl | rfl | rfl | rfl | rfl | rfl | rfl | rfl

    · refine ⟨fun _ => ?_, fun z => absurd z (by decide), fun z => absurd z (by decide), fun z => absurd z (by decide), fun z => absurd z (by decide), fun z => absurd z (by decide), fun z => absurd z (by decide), fun z => absurd z (by decide), fun z => absurd z (by decide), by intros; contradiction⟩
      exact mo_c99 g (by omega) hx' ha' ho' hM' hI (fun a1 h' NK F e => ⟨Or.inl rfl, Qn a1 h' (cn a1 NK) (U.m.tr F) e⟩) (fun vs a1 h' N' o' NK X F e e10 M => ⟨Or.inr rfl, Qs' vs a1 h' N' o' hc (cs vs a1 NK) X (U.m.tr F) e e10 M⟩)
    · refine ⟨fun z => absurd z (by decide), fun z => absurd z (by decide), fun _ => ?_, fun z => absurd z (by decide), fun z => absurd z (by decide), fun z => absurd z (by decide), fun z => absurd z (by decide), fun z => absurd z (by decide), fun z => absurd z (by decide), by intros; contradiction⟩
      exact mo_c108 g (by omega) hx' ha' ho' hM' hI (fun a1 h' NK F e => Qn a1 h' (cn a1 NK) (U.m.tr F) e) (fun vs a1 h' N' o' NK X F e e10 M => Qs' vs a1 h' N' o' hc (cs vs a1 NK) X (U.m.tr F) e e10 M)
    · refine ⟨fun z => absurd z (by decide), fun z => absurd z (by decide), fun z => absurd z (by decide), fun _ => ?_, fun z => absurd z (by decide), fun z => absurd z (by decide), fun z => absurd z (by decide), fun z => absurd z (by decide), fun z => absurd z (by decide), by intros; contradiction⟩
      exact mo_c109 g (by omega) hx' ha' ho' hM' hI (fun a1 h' NK F e => Qn a1 h' (cn a1 NK) (U.m.tr F) e) (fun vs a1 h' N' o' NK X F e e10 M => Qs' vs a1 h' N' o' hc (cs vs a1 NK) X (U.m.tr F) e e10 M)
    · refine ⟨fun z => absurd z (by decide), fun z => absurd z (by decide), fun z => absurd z (by decide), fun z => absurd z (by decide), fun _ => ?_, fun z => absurd z (by decide), fun z => absurd z (by decide), fun z => absurd z (by decide), fun z => absurd z (by decide), by intros; contradiction⟩
      exact mo_c112 g (by omega) hx' ha' ho' hM' hI (fun a1 h' NK F e => ⟨Or.inl rfl, Qn a1 h' (cn a1 NK) (U.m.tr F) e⟩) (fun vs a1 h' N' o' NK X F e e10 M => ⟨Or.inr rfl, Qs' vs a1 h' N' o' hc (cs vs a1 NK) X (U.m.tr F) e e10 M⟩)
    · refine ⟨fun z => absurd z (by decide), fun z => absurd z (by decide), fun z => absurd z (by decide), fun z => absurd z (by decide), fun z => absurd z (by decide), fun _ => ?_, fun z => absurd z (by decide), fun z => absurd z (by decide), fun z => absurd z (by decide), by intros; contradiction⟩
      exact mo_c114 g (by omega) hx' ha' ho' hM' hI (fun a1 h' NK F e => Qn a1 h' (cn a1 NK) (U.m.tr F) e) (fun vs a1 h' N' o' NK X F e e10 M => Qs' vs a1 h' N' o' hc (cs vs a1 NK) X (U.m.tr F) e e10 M)
    · refine ⟨fun z => absurd z (by decide), fun z => absurd z (by decide), fun z => absurd z (by decide), fun z => absurd z (by decide), fun z => absurd z (by decide), fun z => absurd z (by decide), fun _ => ?_, fun z => absurd z (by decide), fun z => absurd z (by decide), by intros; contradiction⟩
      exact mo_c116 g (by omega) hx' ha' ho' hM' hI (fun a1 h' NK F e => Qn a1 h' (cn a1 NK) (U.m.tr F) e) (fun vs a1 h' N' o' NK X F e e10 M => Qs' vs a1 h' N' o' hc (cs vs a1 NK) X (U.m.tr F) e e10 M)
    · refine ⟨fun z => absurd z (by decide), fun z => absurd z (by decide), fun z => absurd z (by decide), fun z => absurd z (by decide), fun z => absurd z (by decide), fun z => absurd z (by decide), fun z => absurd z (by decide), fun _ => ?_, fun z => absurd z (by decide), by intros; contradiction⟩
      exact mo_c118 g (by omega) hx' ha' ho' hM' hI (fun a1 h' NK F e => ⟨Or.inl rfl, Qn a1 h' (cn a1 NK) (U.m.tr F) e⟩) (fun vs a1 h' N' o' NK X F e e10 M => ⟨Or.inr rfl, Qs' vs a1 h' N' o' hc (cs vs a1 NK) X (U.m.tr F) e e10 M⟩)
    · refine ⟨fun z => absurd z (by decide), fun z => absurd z (by decide), fun z => absurd z (by decide), fun z => absurd z (by decide), fun z => absurd z (by decide), fun z => absurd z (by decide), fun z => absurd z (by decide), fun z => absurd z (by decide), fun _ => ?_, by intros; contradiction⟩
      exact mo_c119 g (by omega) hx' ha' ho' hM' hI (fun a1 h' NK F e => Qn a1 h' (cn a1 NK) (U.m.tr F) e) (fun vs a1 h' N' o' NK X F e e10 M => Qs' vs a1 h' N' o' hc (cs vs a1 NK) X (U.m.tr F) e e10 M)
  · have nl : ∀ k, ltr k = true → k < 2 ^ 31 → ¬ nI (t a) = nI k := fun k hk h31 e => hc (by have := (nI_eq (by omega) h31).mp e; rw [this]; exact hk)
    have back : ∀ h8 : PH, h8 = up2 (up2 h 344 9 (nI (a + 1))) 344 9 ((up2 h 344 9 (nI (a + 1)) 344 9) - 1) → Q 0 h8 := by
      rintro h8 rfl
      rw [up2_at, nI_pred]
      exact Qn a _ (cmdP_f (fun z => hc z.2)) (U.m.tr FS.u.m) up2_at
    exact ⟨fun z => absurd z (nl 99 (by decide) (by decide)), fun _ => back, fun z => absurd z (nl 108 (by decide) (by decide)), fun z => absurd z (nl 109 (by decide) (by decide)), fun z => absurd z (nl 112 (by decide) (by decide)), fun z => absurd z (nl 114 (by decide) (by decide)), fun z => absurd z (nl 116 (by decide) (by decide)), fun z => absurd z (nl 118 (by decide) (by decide)), fun z => absurd z (nl 119 (by decide) (by decide)), fun _ _ _ _ _ _ _ _ _ _ _ _ _ _ _ _ _ _ _ _ _ => back⟩

/-! the studio that a text tells, and how many commands are left out -/
def ldP (s : Nat) (t : Nat → Nat) : Nat → Nat → (Nat → Nat → Nat) → Nat → (Nat → Nat → Nat) × Nat
  | 0, _, N, o => (N, o)
  | n + 1, a, N, o => if s ≤ a then (N, o) else match cmdP s t a with
    | (none, _) => (N, o)
    | (some p, a') => match exN N p.1 (p.2.getD 0 0) (p.2.getD 1 0) (p.2.getD 2 0) (p.2.getD 3 0) with
      | some N' => ldP s t n a' N' o
      | none => ldP s t n a' N (o + 1)
theorem ld_end {s n a o : Nat} {t : Nat → Nat} {N : Nat → Nat → Nat} (h : s ≤ a) : ldP s t n a N o = (N, o) := by
  cases n with
  | zero => rfl
  | succ n => rw [ldP, if_pos h]
theorem ld_none {s n a a1 o : Nat} {t : Nat → Nat} {N : Nat → Nat → Nat} (e : cmdP s t a = (none, a1)) : ldP s t n a N o = (N, o) := by
  cases n with
  | zero => rfl
  | succ n =>
    by_cases h : s ≤ a
    · rw [ldP, if_pos h]
    · rw [ldP, if_neg h, e]
theorem ld_step {s n a a1 o o' c : Nat} {t : Nat → Nat} {N N' : Nat → Nat → Nat} {vs : List Nat} (h : a < s) (e : cmdP s t a = (some (c, vs), a1)) (x : XR N (exN N c (vs.getD 0 0) (vs.getD 1 0) (vs.getD 2 0) (vs.getD 3 0)) o N' o') : ldP s t (n + 1) a N o = ldP s t n a1 N' o' := by
  rw [ldP, if_neg (by omega), e]
  dsimp only
  rcases x with ⟨x, rfl⟩ | ⟨x, rfl, rfl⟩
  · rw [x]
  · rw [x]
theorem mo_readText {s : Nat} {t : Nat → Nat} {h : PH} {Q : Int32 → PH → Prop} (g : GX s t) (hx : MX s t h) (q : ∀ h', FM h h' → (errT s t = -1 → Mw (h' 347) (ldP s t 120 1 zeS 0).1 ∧ h' 344 10 = nI (ldP s t 120 1 zeS 0).2) → Q (errT s t) h') : wp_X8_readText 344 347 h Q := by
  have s120 := g.1
  unfold wp_X8_readText
  refine mo_clear al_347 ?_
  intro h1 F1 M1
  rintro h2 rfl h3 rfl
  have F3 : FM h (up2 (up2 h1 344 10 0) 344 9 0) := ((FM.f F1).tr FM.o).tr FS.u.m
  have x3 := hx.fm F3
  have c0 : (0 : Int32).toNatClampNeg = 0 := by decide
  rw [x3.1, c0, z0 (by omega)]
  by_cases e0 : s = 0
  · refine bt e0 ?_
    have : errT s t = 0 := by unfold errT; rw [if_neg (by omega)]
    have q' := q _ F3 (fun z => by rw [this] at z; exact absurd z (by decide))
    rw [this] at q'
    exact q'
  · refine bf e0 ?_
    rw [show al (344 + 1) = 120 from al_345, show up2 (up2 h1 344 10 0) 344 9 0 (344 + 1) 0 = nI (t 0) from x3.2 0 (by omega), show (90 : Int32) = nI 90 from rfl]
    have tl := g.2 0 (by omega)
    rw [nI_eq (by omega) (by omega)]
    refine ⟨by rw [li_0]; exact vp_in_nI (by omega) (by omega), ?_⟩
    by_cases c : t 0 = 90
    · refine bt c ?_
      rintro h7 rfl
      refine ⟨121, ?_⟩
      have eT : errT s t = errP s t 120 1 := by unfold errT; rw [if_pos ⟨by omega, c⟩]
      rw [eT] at q
      suffices H : ∀ n a N o h7, s ≤ a + n → a ≤ s → MX s t h7 → h7 344 9 = nI a → h7 344 10 = nI o → Mw (h7 347) N → Inv N → FM h h7 → (∀ h', FM h h' → (errP s t n a = -1 → Mw (h' 347) (ldP s t n a N o).1 ∧ h' 344 10 = nI (ldP s t n a N o).2) → Q (errP s t n a) h') → wp_X8_readText_b39 344 347 Q (n + 1) h7 by
        have F4 := F3.tr (FS.u (v := 1)).m
        refine H 120 1 zeS 0 _ (by omega) (by omega) (hx.fm F4) up2_at ?_ ?_ Inv.ze F4 q
        · rw [up2_ne (by decide), up2_ne (by decide)]; exact up2_at
        · rw [up2_o 347 (by decide), up2_o 347 (by decide), up2_o 347 (by decide)]; exact M1
      intro n
      induction n with
      | zero =>
        intro a N o h7 hn has hx7 ha ho hM hI F q
        unfold wp_X8_readText_b39
        rw [hx7.1, ha]
        exact bt (nI_le (by omega) (by omega)) (q h7 F (fun _ => ⟨hM, ho⟩))
      | succ n ih =>
        intro a N o h7 hn has hx7 ha ho hM hI F q
        unfold wp_X8_readText_b39
        rw [hx7.1, ha]
        by_cases c1 : s ≤ a
        · rw [ld_end c1, errP, if_pos c1] at q
          exact bt (nI_le c1 (by omega)) (q h7 F (fun _ => ⟨hM, ho⟩))
        · refine bf (nI_ge (by omega) (by omega)) ?_
          rw [errP, if_neg c1] at q
          have b := cmdP_le (t := t) has
          refine mo_readCommand g (by omega) hx7 ha ho hM hI (fun a1 h' e F' e9 => ?_) (fun c vs a1 h' N' o' hc e X F' e9 e10 M' => ?_)
          · rw [e] at q b
            refine bt' rfl ?_
            rw [e9]
            have b2 : a1 ≤ s := b.2.1
            exact q h' (F.tr F') (fun z => absurd z (nm1 (by omega)))
          · rw [ld_step (by omega) e X, e] at q
            rw [e] at b
            have b2 : a1 ≤ s := b.2.1
            have b3 : a < a1 := b.2.2 (fun z => nomatch z)
            exact bf' (by decide) (ih a1 N' o' h' (by omega) b2 (hx7.fm F') e9 e10 M' (ex_inv hc hI X).1 (F.tr F') q)
    · refine bf c ?_
      have : errT s t = 0 := by unfold errT; rw [if_neg (fun z => c z.2)]
      have q' := q _ F3 (fun z => by rw [this] at z; exact absurd z (by decide))
      rw [this] at q'
      exact q'

