
def un : Nat → Nat
  | 0 => 0
  | 1 => 1
  | 2 => 10
  | _ => 100
theorem un_b {d : Nat} (h : d ≤ 2) : 0 < un (d + 1) ∧ un (d + 1) ≤ 100 := by
  rcases (by omega : d = 0 ∨ d = 1 ∨ d = 2) with rfl | rfl | rfl <;> decide
theorem un_d {d : Nat} (h : d ≤ 2) : nI (un (d + 1)) / 10 = nI (un d) := by
  rcases (by omega : d = 0 ∨ d = 1 ∨ d = 2) with rfl | rfl | rfl <;> decide
/-- a number of some digits in a range, read from the place a on -/
def numP (s : Nat) (t : Nat → Nat) (lo hi : Nat) : Nat → Nat → Nat → Option Nat × Nat
  | 0, v, a => (some v, a)
  | d + 1, v, a => if a < s ∧ 48 ≤ t a ∧ t a ≤ 57 then (if hi < v + (t a - 48) * un (d + 1) then (none, a) else if lo ≤ v + (t a - 48) * un (d + 1) + un (d + 1) - 1 then numP s t lo hi d (v + (t a - 48) * un (d + 1)) (a + 1) else (none, a)) else (none, a)
theorem numP_0 {s lo hi v a : Nat} {t : Nat → Nat} : numP s t lo hi 0 v a = (some v, a) := rfl
theorem numP_n {s lo hi d v a : Nat} {t : Nat → Nat} (c : ¬ (a < s ∧ 48 ≤ t a ∧ t a ≤ 57)) : numP s t lo hi (d + 1) v a = (none, a) := by rw [numP, if_neg c]
theorem numP_h {s lo hi d v a : Nat} {t : Nat → Nat} (c : a < s ∧ 48 ≤ t a ∧ t a ≤ 57) (c2 : hi < v + (t a - 48) * un (d + 1)) : numP s t lo hi (d + 1) v a = (none, a) := by rw [numP, if_pos c, if_pos c2]
theorem numP_l {s lo hi d v a : Nat} {t : Nat → Nat} (c : a < s ∧ 48 ≤ t a ∧ t a ≤ 57) (c2 : ¬ hi < v + (t a - 48) * un (d + 1)) (c3 : ¬ lo ≤ v + (t a - 48) * un (d + 1) + un (d + 1) - 1) : numP s t lo hi (d + 1) v a = (none, a) := by rw [numP, if_pos c, if_neg c2, if_neg c3]
theorem numP_s {s lo hi d v a : Nat} {t : Nat → Nat} (c : a < s ∧ 48 ≤ t a ∧ t a ≤ 57) (c2 : ¬ hi < v + (t a - 48) * un (d + 1)) (c3 : lo ≤ v + (t a - 48) * un (d + 1) + un (d + 1) - 1) : numP s t lo hi (d + 1) v a = numP s t lo hi d (v + (t a - 48) * un (d + 1)) (a + 1) := by rw [numP, if_pos c, if_neg c2, if_pos c3]
theorem numP_le {s lo hi : Nat} {t : Nat → Nat} : ∀ d v a, a ≤ s → a ≤ (numP s t lo hi d v a).2 ∧ (numP s t lo hi d v a).2 ≤ s := by
  intro d
  induction d with
  | zero => intro v a h; exact ⟨Nat.le_refl _, h⟩
  | succ d ih =>
    intro v a h
    by_cases c : a < s ∧ 48 ≤ t a ∧ t a ≤ 57
    · by_cases c2 : hi < v + (t a - 48) * un (d + 1)
      · rw [numP_h c c2]; exact ⟨Nat.le_refl _, h⟩
      · by_cases c3 : lo ≤ v + (t a - 48) * un (d + 1) + un (d + 1) - 1
        · rw [numP_s c c2 c3]
          have := ih (v + (t a - 48) * un (d + 1)) (a + 1) (by omega)
          exact ⟨by omega, this.2⟩
        · rw [numP_l c c2 c3]; exact ⟨Nat.le_refl _, h⟩
    · rw [numP_n c]; exact ⟨Nat.le_refl _, h⟩
theorem numP_b {s lo hi : Nat} {t : Nat → Nat} {x a' : Nat} : ∀ d v a, d ≤ 2 → numP s t lo hi (d + 1) v a = (some x, a') → lo ≤ x ∧ x ≤ hi ∧ a + (d + 1) = a' ∧ a' ≤ s := by
  intro d
  induction d with
  | zero =>
    intro v a hd e
    by_cases c : a < s ∧ 48 ≤ t a ∧ t a ≤ 57
    · by_cases c2 : hi < v + (t a - 48) * un (0 + 1)
      · rw [numP_h c c2] at e; cases e
      · by_cases c3 : lo ≤ v + (t a - 48) * un (0 + 1) + un (0 + 1) - 1
        · rw [numP_s c c2 c3, numP_0] at e
          have u1 : un (0 + 1) = 1 := rfl
          rw [u1] at e c2 c3
          cases e
          omega
        · rw [numP_l c c2 c3] at e; cases e
    · rw [numP_n c] at e; cases e
  | succ d ih =>
    intro v a hd e
    by_cases c : a < s ∧ 48 ≤ t a ∧ t a ≤ 57
    · by_cases c2 : hi < v + (t a - 48) * un (d + 1 + 1)
      · rw [numP_h c c2] at e; cases e
      · by_cases c3 : lo ≤ v + (t a - 48) * un (d + 1 + 1) + un (d + 1 + 1) - 1
        · rw [numP_s c c2 c3] at e
          have := ih _ _ (by omega) e
          omega
        · rw [numP_l c c2 c3] at e; cases e
    · rw [numP_n c] at e; cases e
def oB {α : Type} : Option α → Int32
  | none => 0
  | some _ => 1
/-! the class -/
def FU (h h' : PH) : Prop := (∀ i, i ≠ 341 → i ≠ 343 → h' i = h i) ∧ ∀ j, j ≠ 3 → h' 341 j = h 341 j
theorem FU.rf {h : PH} : FU h h := ⟨fun _ _ _ => rfl, fun _ _ => rfl⟩
theorem FU.tr {h h1 h2 : PH} (x : FU h h1) (y : FU h1 h2) : FU h h2 := ⟨fun i a b => (y.1 i a b).trans (x.1 i a b), fun j a => (y.2 j a).trans (x.2 j a)⟩
theorem FU.a {h : PH} {v : Int32} : FU h (up2 h 341 3 v) := ⟨fun i a _ => up2_o i a, fun j a => up2_ne a⟩
theorem FU.n {h : PH} {j : Nat} {v : Int32} : FU h (up2 h 343 j v) := ⟨fun i _ a => up2_o i a, fun j _ => by rw [up2_o 341 (by omega)]⟩
theorem CX.fu {s : Nat} {t : Nat → Nat} {h h' : PH} (x : CX s t h) (y : FU h h') : CX s t h' := x.ag (y.2 2 (by decide)) (y.1 342 (by decide) (by decide))
theorem ok_signAt {s i : Nat} {t : Nat → Nat} {h : PH} {Q : Int32 → PH → Prop} (x : CX s t h) (g : GX s t) (hi : i ≤ 120) (q : Q (if i < s then nI (t i) else -1) h) : wp_X6_signAt 341 (nI i) h Q := by
  unfold wp_X6_signAt
  have s120 := g.1
  rw [x.1]
  by_cases c : i < s
  · rw [if_pos c] at q
    refine cnt_in c (by omega) (bt rfl ?_)
    refine get_in (show al (341 + 1) = 120 from al_342) (by omega) (by omega) ?_
    show Q (h 342 i) h
    rw [x.2 i c]
    exact q
  · rw [if_neg c] at q
    exact cnt_out (by rw [inB_n (by omega) (by omega)]; omega) (by omega) (bf (by decide) q)
theorem dig_no {s a : Nat} {t : Nat → Nat} (g : GX s t) (c : ¬ (a < s ∧ 48 ≤ t a ∧ t a ≤ 57)) : ¬ inB ((if a < s then nI (t a) else -1) - 48) 0 (9 + 1) := by
  rintro ⟨j, _, hj, e⟩
  by_cases c1 : a < s
  · rw [if_pos c1] at e
    have tl := g.2 a c1
    rw [show (48 : Int32) = nI 48 from rfl] at e
    rcases Nat.lt_or_ge (t a) 48 with c2 | c2
    · have := pk_sneg (a := t a) (b := 48) (by omega) c2
      rw [e] at this
      exact nI_pos (by omega) this
    · rw [pk_sub c2] at e
      have := (nI_eq (by omega) (by omega)).mp e
      omega
  · rw [if_neg c1] at e
    have m : (-1 - 48 : Int32) < 0 := by decide
    rw [e] at m
    exact nI_pos (by omega) m
theorem ok_num {s idx lo hi : Nat} {t : Nat → Nat} {Q : Int32 → PH → Prop} (hh : hi ≤ 999) (hlo : lo ≤ 999) (hix : idx < 4) (g : GX s t) :
    ∀ d v a h, d ≤ 3 → v ≤ hi → a ≤ s → CX s t h → h 341 3 = nI a →
      (∀ h', FU h h' → h' 341 3 = nI (numP s t lo hi d v a).2 → (∀ i, i ≠ idx → h' 343 i = h 343 i) → (∀ x, (numP s t lo hi d v a).1 = some x → h' 343 idx = nI x) → Q (oB (numP s t lo hi d v a).1) h') →
      wp_X6_readNumber_b41 341 (nI idx) (nI lo) (nI hi) Q (d + 1) (nI v) (nI (un d)) h := by
  have s120 := g.1
  intro d
  induction d with
  | zero =>
    intro v a h hd hv has hx ha q
    unfold wp_X6_readNumber_b41
    refine bt (by decide) (put_in (show al (341 + 2) = 4 from al_343) (by omega) hix ?_)
    exact q (up2 h (341 + 2) idx (nI v)) FU.n (by rw [up2_o 341 (by omega)]; exact ha) (fun i hi => up2_ne hi) (fun x e => by have e' : some v = some x := e; cases e'; exact up2_at)
  | succ d ih =>
    intro v a h hd hv has hx ha q
    unfold wp_X6_readNumber_b41
    have hu := un_b (d := d) (by omega)
    refine bf (nI_nle hu.1 (by omega)) ?_
    rw [ha]
    refine ok_signAt hx g (by omega) ?_
    rintro x11 rfl
    by_cases c : a < s ∧ 48 ≤ t a ∧ t a ≤ 57
    · have tl := g.2 a c.1
      rw [if_pos c.1, show (48 : Int32) = nI 48 from rfl, pk_sub c.2.1]
      refine out_in (lo := 0) (hi := 9) (by omega) (by omega) (by omega) (bt rfl ?_)
      rintro x15 rfl
      have hm : (t a - 48) * un (d + 1) ≤ 9 * 100 := Nat.mul_le_mul (by omega) hu.2
      rw [pk_mul, nI_add]
      by_cases c2 : hi < v + (t a - 48) * un (d + 1)
      · rw [numP_h c c2] at q
        exact bt (by rw [nI_ltI (by omega) (by omega)]; exact c2) (q h FU.rf ha (fun _ _ => rfl) (fun x e => nomatch e))
      · refine bf (by rw [nI_ltI (by omega) (by omega)]; exact c2) ?_
        rw [nI_add, show nI (v + (t a - 48) * un (d + 1) + un (d + 1)) - 1 = nI (v + (t a - 48) * un (d + 1) + un (d + 1) - 1) from pk_sub (b := 1) (by omega)]
        by_cases c3 : lo ≤ v + (t a - 48) * un (d + 1) + un (d + 1) - 1
        · rw [numP_s c c2 c3] at q
          refine bt (nI_le c3 (by omega)) ?_
          rintro h18 rfl x19 rfl
          rw [ha, nI_1, un_d (by omega)]
          refine ih _ (a + 1) (up2 h 341 3 (nI (a + 1))) (by omega) (by omega) (by omega) (hx.fu FU.a) up2_at ?_
          intro h' F e1 e2 e3
          exact q h' (FU.a.tr F) e1 (fun i hi => (e2 i hi).trans (by rw [up2_o 343 (by omega)])) e3
        · rw [numP_l c c2 c3] at q
          exact bf (nI_ge (by omega) (by omega)) (q h FU.rf ha (fun _ _ => rfl) (fun x e => nomatch e))
    · rw [numP_n c] at q
      exact out_out (lo := 0) (hi := 9) (dig_no g c) (by omega) (by omega) (bf (by decide) (q h FU.rf ha (fun _ _ => rfl) (fun x e => nomatch e)))

def kn (k : Nat) : Nat × Nat × Nat := if k = 114 then (2, 2, 60) else if k = 82 then (1, 0, 2) else if k = 67 then (2, 0, 60) else if k = 112 then (1, 0, 9) else if k = 76 then (1, 0, 3) else if k = 118 then (1, 1, 9) else if k = 109 then (1, 0, 1) else if k = 116 then (3, 1, 999) else if k = 119 then (2, 1, 60) else (1, 0, 0)
def KK : List Nat := [114, 82, 67, 112, 76, 118, 109, 116, 119]
theorem KK_c {k : Nat} (h : k ∈ KK) : k = 114 ∨ k = 82 ∨ k = 67 ∨ k = 112 ∨ k = 76 ∨ k = 118 ∨ k = 109 ∨ k = 116 ∨ k = 119 := by simpa [KK] using h
theorem kn_114 : kn 114 = (2, 2, 60) := by decide
theorem kn_82 : kn 82 = (1, 0, 2) := by decide
theorem kn_67 : kn 67 = (2, 0, 60) := by decide
theorem kn_112 : kn 112 = (1, 0, 9) := by decide
theorem kn_76 : kn 76 = (1, 0, 3) := by decide
theorem kn_118 : kn 118 = (1, 1, 9) := by decide
theorem kn_109 : kn 109 = (1, 0, 1) := by decide
theorem kn_116 : kn 116 = (3, 1, 999) := by decide
theorem kn_119 : kn 119 = (2, 1, 60) := by decide

def nmK (s : Nat) (t : Nat → Nat) (k a : Nat) : Option Nat × Nat := numP s t (kn k).2.1 (kn k).2.2 (kn k).1 0 a
theorem kn_b {k : Nat} (h : k ∈ KK) : 1 ≤ (kn k).1 ∧ (kn k).1 ≤ 3 ∧ (kn k).2.1 ≤ 2 ∧ (kn k).2.2 ≤ 999 := (by decide : ∀ k, k ∈ KK → 1 ≤ (kn k).1 ∧ (kn k).1 ≤ 3 ∧ (kn k).2.1 ≤ 2 ∧ (kn k).2.2 ≤ 999) k h
theorem nmK_le {s k a : Nat} {t : Nat → Nat} (h : a ≤ s) : a ≤ (nmK s t k a).2 ∧ (nmK s t k a).2 ≤ s := numP_le _ _ _ h
theorem nmK_b {s k a x a' : Nat} {t : Nat → Nat} (hk : k ∈ KK) (e : nmK s t k a = (some x, a')) : (kn k).2.1 ≤ x ∧ x ≤ (kn k).2.2 ∧ a < a' ∧ a' ≤ s := by
  have b := kn_b hk
  unfold nmK at e
  obtain ⟨d, hd⟩ : ∃ d, (kn k).1 = d + 1 := ⟨(kn k).1 - 1, by omega⟩
  rw [hd] at e b
  have := numP_b d 0 a (by omega) e
  omega

theorem ok_rn {s k idx a : Nat} {t : Nat → Nat} {h : PH} {Q : Int32 → PH → Prop} (hk : k ∈ KK) (hix : idx < 4) (g : GX s t) (has : a ≤ s) (hx : CX s t h) (ha : h 341 3 = nI a) (q : ∀ h', FU h h' → h' 341 3 = nI (nmK s t k a).2 → (∀ i, i ≠ idx → h' 343 i = h 343 i) → (∀ x, (nmK s t k a).1 = some x → h' 343 idx = nI x) → Q (oB (nmK s t k a).1) h') : wp_X6_readNumber 341 (nI idx) (nI k) h Q := by
  unfold wp_X6_readNumber
  rcases KK_c hk with rfl | rfl | rfl | rfl | rfl | rfl | rfl | rfl | rfl
  · unfold nmK at q
    rw [kn_114] at q
    show wp_X6_leastOf (114 : Int32) h _
    unfold wp_X6_leastOf
    refine ⟨fun _ => ?_, fun z => absurd z (by decide), fun z => absurd z (by decide), by intros; contradiction⟩
    show wp_X6_greatestOf (114 : Int32) h _
    unfold wp_X6_greatestOf
    refine ⟨fun _ => ?_, fun z => absurd z (by decide), fun z => absurd z (by decide), fun z => absurd z (by decide), fun z => absurd z (by decide), fun z => absurd z (by decide), by intros; contradiction⟩
    exact bt (by decide) (bf (by decide) ⟨_, ok_num (lo := 2) (hi := 60) (by omega) (by omega) hix g 2 0 a h (by omega) (by omega) has hx ha q⟩)
  · unfold nmK at q
    rw [kn_82] at q
    show wp_X6_leastOf (82 : Int32) h _
    unfold wp_X6_leastOf
    refine ⟨fun z => absurd z (by decide), fun z => absurd z (by decide), fun z => absurd z (by decide), fun _ _ _ _ _ _ => ?_⟩
    show wp_X6_greatestOf (82 : Int32) h _
    unfold wp_X6_greatestOf
    refine ⟨fun z => absurd z (by decide), fun z => absurd z (by decide), fun _ => ?_, fun z => absurd z (by decide), fun z => absurd z (by decide), fun z => absurd z (by decide), by intros; contradiction⟩
    exact bt (by decide) (bt (by decide) ⟨_, ok_num (lo := 0) (hi := 2) (by omega) (by omega) hix g 1 0 a h (by omega) (by omega) has hx ha q⟩)
  · unfold nmK at q
    rw [kn_67] at q
    show wp_X6_leastOf (67 : Int32) h _
    unfold wp_X6_leastOf
    refine ⟨fun z => absurd z (by decide), fun z => absurd z (by decide), fun z => absurd z (by decide), fun _ _ _ _ _ _ => ?_⟩
    show wp_X6_greatestOf (67 : Int32) h _
    unfold wp_X6_greatestOf
    refine ⟨fun _ => ?_, fun z => absurd z (by decide), fun z => absurd z (by decide), fun z => absurd z (by decide), fun z => absurd z (by decide), fun z => absurd z (by decide), by intros; contradiction⟩
    exact bt (by decide) (bf (by decide) ⟨_, ok_num (lo := 0) (hi := 60) (by omega) (by omega) hix g 2 0 a h (by omega) (by omega) has hx ha q⟩)
  · unfold nmK at q
    rw [kn_112] at q
    show wp_X6_leastOf (112 : Int32) h _
    unfold wp_X6_leastOf
    refine ⟨fun z => absurd z (by decide), fun z => absurd z (by decide), fun z => absurd z (by decide), fun _ _ _ _ _ _ => ?_⟩
    show wp_X6_greatestOf (112 : Int32) h _
    unfold wp_X6_greatestOf
    refine ⟨fun z => absurd z (by decide), fun z => absurd z (by decide), fun z => absurd z (by decide), fun z => absurd z (by decide), fun _ => ?_, fun z => absurd z (by decide), by intros; contradiction⟩
    exact bt (by decide) (bt (by decide) ⟨_, ok_num (lo := 0) (hi := 9) (by omega) (by omega) hix g 1 0 a h (by omega) (by omega) has hx ha q⟩)
  · unfold nmK at q
    rw [kn_76] at q
    show wp_X6_leastOf (76 : Int32) h _
    unfold wp_X6_leastOf
    refine ⟨fun z => absurd z (by decide), fun z => absurd z (by decide), fun z => absurd z (by decide), fun _ _ _ _ _ _ => ?_⟩
    show wp_X6_greatestOf (76 : Int32) h _
    unfold wp_X6_greatestOf
    refine ⟨fun z => absurd z (by decide), fun _ => ?_, fun z => absurd z (by decide), fun z => absurd z (by decide), fun z => absurd z (by decide), fun z => absurd z (by decide), by intros; contradiction⟩
    exact bt (by decide) (bt (by decide) ⟨_, ok_num (lo := 0) (hi := 3) (by omega) (by omega) hix g 1 0 a h (by omega) (by omega) has hx ha q⟩)
  · unfold nmK at q
    rw [kn_118] at q
    show wp_X6_leastOf (118 : Int32) h _
    unfold wp_X6_leastOf
    refine ⟨fun z => absurd z (by decide), fun z => absurd z (by decide), fun _ => ?_, by intros; contradiction⟩
    show wp_X6_greatestOf (118 : Int32) h _
    unfold wp_X6_greatestOf
    refine ⟨fun z => absurd z (by decide), fun z => absurd z (by decide), fun z => absurd z (by decide), fun z => absurd z (by decide), fun z => absurd z (by decide), fun _ => ?_, by intros; contradiction⟩
    exact bt (by decide) (bt (by decide) ⟨_, ok_num (lo := 1) (hi := 9) (by omega) (by omega) hix g 1 0 a h (by omega) (by omega) has hx ha q⟩)
  · unfold nmK at q
    rw [kn_109] at q
    show wp_X6_leastOf (109 : Int32) h _
    unfold wp_X6_leastOf
    refine ⟨fun z => absurd z (by decide), fun z => absurd z (by decide), fun z => absurd z (by decide), fun _ _ _ _ _ _ => ?_⟩
    show wp_X6_greatestOf (109 : Int32) h _
    unfold wp_X6_greatestOf
    refine ⟨fun z => absurd z (by decide), fun z => absurd z (by decide), fun z => absurd z (by decide), fun _ => ?_, fun z => absurd z (by decide), fun z => absurd z (by decide), by intros; contradiction⟩
    exact bt (by decide) (bt (by decide) ⟨_, ok_num (lo := 0) (hi := 1) (by omega) (by omega) hix g 1 0 a h (by omega) (by omega) has hx ha q⟩)
  · unfold nmK at q
    rw [kn_116] at q
    show wp_X6_leastOf (116 : Int32) h _
    unfold wp_X6_leastOf
    refine ⟨fun z => absurd z (by decide), fun z => absurd z (by decide), fun _ => ?_, by intros; contradiction⟩
    show wp_X6_greatestOf (116 : Int32) h _
    unfold wp_X6_greatestOf
    refine ⟨fun z => absurd z (by decide), fun z => absurd z (by decide), fun z => absurd z (by decide), fun z => absurd z (by decide), fun z => absurd z (by decide), fun z => absurd z (by decide), fun _ _ _ _ _ _ _ _ => ?_⟩
    exact bf (by decide) ⟨_, ok_num (lo := 1) (hi := 999) (by omega) (by omega) hix g 3 0 a h (by omega) (by omega) has hx ha q⟩
  · unfold nmK at q
    rw [kn_119] at q
    show wp_X6_leastOf (119 : Int32) h _
    unfold wp_X6_leastOf
    refine ⟨fun z => absurd z (by decide), fun z => absurd z (by decide), fun _ => ?_, by intros; contradiction⟩
    show wp_X6_greatestOf (119 : Int32) h _
    unfold wp_X6_greatestOf
    refine ⟨fun _ => ?_, fun z => absurd z (by decide), fun z => absurd z (by decide), fun z => absurd z (by decide), fun z => absurd z (by decide), fun z => absurd z (by decide), by intros; contradiction⟩
    exact bt (by decide) (bf (by decide) ⟨_, ok_num (lo := 1) (hi := 60) (by omega) (by omega) hix g 2 0 a h (by omega) (by omega) has hx ha q⟩)


def numK (s : Nat) (t : Nat → Nat) : List Nat → Nat → Option (List Nat) × Nat
  | [], a => (some [], a)
  | k :: l, a => match nmK s t k a with
    | (none, a') => (none, a')
    | (some v, a') => match numK s t l a' with
      | (none, a'') => (none, a'')
      | (some vs, a'') => (some (v :: vs), a'')
theorem numK_0 {s a : Nat} {t : Nat → Nat} : numK s t [] a = (some [], a) := rfl
theorem numK_n {s a a' k : Nat} {t : Nat → Nat} {l : List Nat} (e : nmK s t k a = (none, a')) : numK s t (k :: l) a = (none, a') := by rw [numK, e]
theorem numK_sn {s a a' a2 k v : Nat} {t : Nat → Nat} {l : List Nat} (e : nmK s t k a = (some v, a')) (e2 : numK s t l a' = (none, a2)) : numK s t (k :: l) a = (none, a2) := by rw [numK, e]; dsimp only; rw [e2]
theorem numK_ss {s a a' a2 k v : Nat} {t : Nat → Nat} {l vs : List Nat} (e : nmK s t k a = (some v, a')) (e2 : numK s t l a' = (some vs, a2)) : numK s t (k :: l) a = (some (v :: vs), a2) := by rw [numK, e]; dsimp only; rw [e2]
theorem numK_le {s : Nat} {t : Nat → Nat} : ∀ (l : List Nat) (a : Nat), a ≤ s → a ≤ (numK s t l a).2 ∧ (numK s t l a).2 ≤ s := by
  intro l
  induction l with
  | nil => intro a h; exact ⟨Nat.le_refl _, h⟩
  | cons k l ih =>
    intro a h
    have b := nmK_le (k := k) (t := t) h
    cases e : nmK s t k a with
    | mk o a1 =>
      rw [e] at b
      cases o with
      | none => rw [numK_n e]; exact b
      | some v =>
        have b2 := ih a1 b.2
        have b1 : a ≤ a1 := b.1
        cases e2 : numK s t l a1 with
        | mk o2 a2 =>
          rw [e2] at b2
          have b3 : a1 ≤ a2 := b2.1
          cases o2 with
          | none => rw [numK_sn e e2]; exact ⟨Nat.le_trans b1 b3, b2.2⟩
          | some vs => rw [numK_ss e e2]; exact ⟨Nat.le_trans b1 b3, b2.2⟩
theorem numK_b {s : Nat} {t : Nat → Nat} : ∀ (l : List Nat) (a : Nat) (vs : List Nat) (a' : Nat), (∀ j, j < l.length → l.getD j 0 ∈ KK) → numK s t l a = (some vs, a') → ∀ j, j < l.length → (kn (l.getD j 0)).2.1 ≤ vs.getD j 0 ∧ vs.getD j 0 ≤ (kn (l.getD j 0)).2.2 := by
  intro l
  induction l with
  | nil => intro a vs a' hk e j hj; exact absurd hj (Nat.not_lt_zero _)
  | cons k l ih =>
    intro a vs a' hk e j hj
    cases e1 : nmK s t k a with
    | mk o a1 =>
      cases o with
      | none => rw [numK_n e1] at e; cases e
      | some v =>
        cases e2 : numK s t l a1 with
        | mk o2 a2 =>
          cases o2 with
          | none => rw [numK_sn e1 e2] at e; cases e
          | some vs2 =>
            rw [numK_ss e1 e2] at e
            cases e
            cases j with
            | zero =>
              have := nmK_b (hk 0 hj) e1
              exact ⟨this.1, this.2.1⟩
            | succ j => exact ih a1 vs2 _ (fun i hi => hk (i + 1) (Nat.succ_lt_succ hi)) e2 j (Nat.lt_of_succ_lt_succ hj)
theorem ok_kinds {s t8 : Nat} {t : Nat → Nat} {Q : Int32 → PH → Prop} (g : GX s t) : ∀ (l : List Nat) (i a : Nat) (h : PH), (∀ j, j < l.length → kch t8 (i + j) = nI (l.getD j 0) ∧ l.getD j 0 ∈ KK) → klen t8 = i + l.length → i + l.length ≤ 4 → a ≤ s → CX s t h → h 341 3 = nI a →
    (∀ h', FU h h' → h' 341 3 = nI (numK s t l a).2 → (∀ j, j < i → h' 343 j = h 343 j) → (∀ vs, (numK s t l a).1 = some vs → ∀ j, j < l.length → h' 343 (i + j) = nI (vs.getD j 0)) → Q (oB (numK s t l a).1) h') →
    wp_X6_readCommand_b44 341 t8 Q (l.length + 1) (nI i) h := by
  intro l
  induction l with
  | nil =>
    intro i a h hk hl h4 has hx ha q
    have hl' : klen t8 = i := hl
    unfold wp_X6_readCommand_b44
    rw [hl']
    exact bt (nI_le (by omega) (by omega)) (q h FU.rf ha (fun _ _ => rfl) (fun vs _ j hj => absurd hj (Nat.not_lt_zero _)))
  | cons k l ih =>
    intro i a h hk hl h4 has hx ha q
    have hlen : (k :: l).length = l.length + 1 := rfl
    rw [hlen] at hl h4
    have hk0 := hk 0 (by rw [hlen]; omega)
    have e0 : kch t8 i = nI k := hk0.1
    have k0 : k ∈ KK := hk0.2
    unfold wp_X6_readCommand_b44
    rw [hl, nI_clamp (by omega), e0]
    refine bf (nI_ge (by omega) (by omega)) ⟨vp_in_nI (by omega) (by omega), ?_⟩
    refine ok_rn k0 (by omega) g has hx ha ?_
    intro h1 F1 e1 o1 v1
    have b1 := nmK_le (k := k) (t := t) has
    cases en : nmK s t k a with
    | mk o a1 =>
      rw [en] at e1 v1 b1
      cases o with
      | none =>
        rw [numK_n en] at q
        exact bt' rfl (q h1 F1 e1 (fun j hj => o1 j (by omega)) (fun vs e => nomatch e))
      | some v =>
        refine bf' (show ¬ (1 : Int32) = 0 by decide) ?_
        rintro x15 rfl
        rw [nI_1]
        have v1' : h1 343 i = nI v := v1 v rfl
        refine ih (i + 1) a1 h1 (fun j hj => ?_) (by omega) (by omega) b1.2 (hx.fu F1) e1 ?_
        · have := hk (j + 1) (by rw [hlen]; omega)
          rw [show i + 1 + j = i + (j + 1) by omega]
          exact this
        intro h2 F2 e2 o2 v2
        have fin : ∀ vs j, (∀ i', i' < l.length → h2 343 (i + 1 + i') = nI (vs.getD i' 0)) → j < l.length + 1 → h2 343 (i + j) = nI ((v :: vs).getD j 0) := by
          intro vs j hv hj
          cases j with
          | zero => rw [Nat.add_zero, o2 i (by omega)]; exact v1'
          | succ j => rw [show i + (j + 1) = i + 1 + j by omega]; exact hv j (by omega)
        cases en2 : numK s t l a1 with
        | mk o' a2 =>
          rw [en2] at e2 v2
          cases o' with
          | none =>
            rw [numK_sn en en2] at q
            exact q h2 (F1.tr F2) e2 (fun j hj => (o2 j (by omega)).trans (o1 j (by omega))) (fun vs e => nomatch e)
          | some vs =>
            rw [numK_ss en en2] at q
            exact q h2 (F1.tr F2) e2 (fun j hj => (o2 j (by omega)).trans (o1 j (by omega))) (fun vs' e j hj => by
              have e' : some (v :: vs) = some vs' := e
              cases e'
              exact fin vs j (v2 vs rfl) hj)

def kl (c : Nat) : List Nat := if c = 99 then [76, 82, 67, 67] else if c = 108 then [] else if c = 109 then [76, 109] else if c = 112 then [82, 67, 67, 112] else if c = 114 then [114] else if c = 116 then [116] else if c = 118 then [76, 118, 118] else if c = 119 then [82, 119] else []
def kt (c : Nat) : Nat := if c = 99 then 2 else if c = 108 then 7 else if c = 109 then 4 else if c = 112 then 1 else if c = 114 then 0 else if c = 116 then 5 else if c = 118 then 3 else if c = 119 then 6 else 7
def ltr (c : Nat) : Bool := c == 99 || c == 108 || c == 109 || c == 112 || c == 114 || c == 116 || c == 118 || c == 119
theorem ltr_c {c : Nat} (h : ltr c = true) : c = 99 ∨ c = 108 ∨ c = 109 ∨ c = 112 ∨ c = 114 ∨ c = 116 ∨ c = 118 ∨ c = 119 := by
  simp only [ltr, Bool.or_eq_true, beq_iff_eq] at h
  omega
theorem ltr_t {c : Nat} (h : ltr c = true) : klen (kt c) = 0 + (kl c).length ∧ 0 + (kl c).length ≤ 4 ∧ ∀ j, j < (kl c).length → kch (kt c) (0 + j) = nI ((kl c).getD j 0) ∧ (kl c).getD j 0 ∈ KK := by
  rcases ltr_c h with rfl | rfl | rfl | rfl | rfl | rfl | rfl | rfl <;> decide +kernel
theorem isC_t {c : Nat} {h : PH} {Q : Int32 → PH → Prop} (hc : ltr c = true) (q : Q 1 h) : wp_X6_isCommand (nI c) h Q := by
  unfold wp_X6_isCommand
  rcases ltr_c hc with rfl | rfl | rfl | rfl | rfl | rfl | rfl | rfl
  · show ((99 : Int32) = 99 ∨ _ → Q 1 h) ∧ _
    exact ⟨fun _ => q, fun z => absurd z (by decide), by intros; contradiction⟩
  · show ((108 : Int32) = 99 ∨ _ → Q 1 h) ∧ _
    exact ⟨fun _ => q, fun z => absurd z (by decide), by intros; contradiction⟩
  · show ((109 : Int32) = 99 ∨ _ → Q 1 h) ∧ _
    exact ⟨fun _ => q, fun z => absurd z (by decide), by intros; contradiction⟩
  · show ((112 : Int32) = 99 ∨ _ → Q 1 h) ∧ _
    exact ⟨fun _ => q, fun z => absurd z (by decide), by intros; contradiction⟩
  · show ((114 : Int32) = 99 ∨ _ → Q 1 h) ∧ _
    exact ⟨fun _ => q, fun z => absurd z (by decide), by intros; contradiction⟩
  · show ((116 : Int32) = 99 ∨ _ → Q 1 h) ∧ _
    exact ⟨fun _ => q, fun z => absurd z (by decide), by intros; contradiction⟩
  · show ((118 : Int32) = 99 ∨ _ → Q 1 h) ∧ _
    exact ⟨fun _ => q, fun z => absurd z (by decide), by intros; contradiction⟩
  · show ((119 : Int32) = 99 ∨ _ → Q 1 h) ∧ _
    exact ⟨fun _ => q, fun z => absurd z (by decide), by intros; contradiction⟩

theorem isC_f {x : Int32} {h : PH} {Q : Int32 → PH → Prop} (hx : ∀ c, ltr c = true → ¬ x = nI c) (q : Q 0 h) : wp_X6_isCommand x h Q := by
  unfold wp_X6_isCommand
  refine ⟨fun z => ?_, fun _ => q, fun _ _ _ _ _ _ _ _ _ _ _ _ _ _ _ _ _ _ _ _ _ => q⟩
  rcases z with z | z | z | z | z | z | z | z
  · exact absurd z (hx 99 (by decide))
  · exact absurd z (hx 108 (by decide))
  · exact absurd z (hx 109 (by decide))
  · exact absurd z (hx 112 (by decide))
  · exact absurd z (hx 114 (by decide))
  · exact absurd z (hx 116 (by decide))
  · exact absurd z (hx 118 (by decide))
  · exact absurd z (hx 119 (by decide))

theorem kind_t {c : Nat} {h : PH} {Q : Nat → PH → Prop} (hc : ltr c = true) (q : Q (kt c) h) : wp_X6_kindsOf (nI c) h Q := by
  rcases ltr_c hc with rfl | rfl | rfl | rfl | rfl | rfl | rfl | rfl
  · show wp_X6_kindsOf (99 : Int32) h Q
    unfold wp_X6_kindsOf
    refine ⟨fun _ => ?_, fun z => absurd z (by decide), fun z => absurd z (by decide), fun z => absurd z (by decide), fun z => absurd z (by decide), fun z => absurd z (by decide), fun z => absurd z (by decide), fun z => absurd z (by decide), by intros; contradiction⟩
    exact q
  · show wp_X6_kindsOf (108 : Int32) h Q
    unfold wp_X6_kindsOf
    refine ⟨fun z => absurd z (by decide), fun _ => ?_, fun z => absurd z (by decide), fun z => absurd z (by decide), fun z => absurd z (by decide), fun z => absurd z (by decide), fun z => absurd z (by decide), fun z => absurd z (by decide), by intros; contradiction⟩
    exact q
  · show wp_X6_kindsOf (109 : Int32) h Q
    unfold wp_X6_kindsOf
    refine ⟨fun z => absurd z (by decide), fun z => absurd z (by decide), fun _ => ?_, fun z => absurd z (by decide), fun z => absurd z (by decide), fun z => absurd z (by decide), fun z => absurd z (by decide), fun z => absurd z (by decide), by intros; contradiction⟩
    exact q
  · show wp_X6_kindsOf (112 : Int32) h Q
    unfold wp_X6_kindsOf
    refine ⟨fun z => absurd z (by decide), fun z => absurd z (by decide), fun z => absurd z (by decide), fun _ => ?_, fun z => absurd z (by decide), fun z => absurd z (by decide), fun z => absurd z (by decide), fun z => absurd z (by decide), by intros; contradiction⟩
    exact q
  · show wp_X6_kindsOf (114 : Int32) h Q
    unfold wp_X6_kindsOf
    refine ⟨fun z => absurd z (by decide), fun z => absurd z (by decide), fun z => absurd z (by decide), fun z => absurd z (by decide), fun _ => ?_, fun z => absurd z (by decide), fun z => absurd z (by decide), fun z => absurd z (by decide), by intros; contradiction⟩
    exact q
  · show wp_X6_kindsOf (116 : Int32) h Q
    unfold wp_X6_kindsOf
    refine ⟨fun z => absurd z (by decide), fun z => absurd z (by decide), fun z => absurd z (by decide), fun z => absurd z (by decide), fun z => absurd z (by decide), fun _ => ?_, fun z => absurd z (by decide), fun z => absurd z (by decide), by intros; contradiction⟩
    exact q
  · show wp_X6_kindsOf (118 : Int32) h Q
    unfold wp_X6_kindsOf
    refine ⟨fun z => absurd z (by decide), fun z => absurd z (by decide), fun z => absurd z (by decide), fun z => absurd z (by decide), fun z => absurd z (by decide), fun z => absurd z (by decide), fun _ => ?_, fun z => absurd z (by decide), by intros; contradiction⟩
    exact q
  · show wp_X6_kindsOf (119 : Int32) h Q
    unfold wp_X6_kindsOf
    refine ⟨fun z => absurd z (by decide), fun z => absurd z (by decide), fun z => absurd z (by decide), fun z => absurd z (by decide), fun z => absurd z (by decide), fun z => absurd z (by decide), fun z => absurd z (by decide), fun _ => ?_, by intros; contradiction⟩
    exact q


def cmdP (s : Nat) (t : Nat → Nat) (a : Nat) : Option (Nat × List Nat) × Nat := if a < s ∧ ltr (t a) = true then (match numK s t (kl (t a)) (a + 1) with
  | (none, a') => (none, a')
  | (some vs, a') => (some (t a, vs), a')) else (none, a)
theorem cmdP_f {s a : Nat} {t : Nat → Nat} (c : ¬ (a < s ∧ ltr (t a) = true)) : cmdP s t a = (none, a) := by unfold cmdP; rw [if_neg c]
theorem cmdP_n {s a a' : Nat} {t : Nat → Nat} (c : a < s ∧ ltr (t a) = true) (e : numK s t (kl (t a)) (a + 1) = (none, a')) : cmdP s t a = (none, a') := by unfold cmdP; rw [if_pos c, e]
theorem cmdP_s {s a a' : Nat} {t : Nat → Nat} {vs : List Nat} (c : a < s ∧ ltr (t a) = true) (e : numK s t (kl (t a)) (a + 1) = (some vs, a')) : cmdP s t a = (some (t a, vs), a') := by unfold cmdP; rw [if_pos c, e]
theorem cmdP_le {s a : Nat} {t : Nat → Nat} (h : a ≤ s) : a ≤ (cmdP s t a).2 ∧ (cmdP s t a).2 ≤ s ∧ ((cmdP s t a).1 ≠ none → a < (cmdP s t a).2) := by
  by_cases c : a < s ∧ ltr (t a) = true
  · have b := numK_le (t := t) (kl (t a)) (a + 1) (show a + 1 ≤ s by omega)
    cases e : numK s t (kl (t a)) (a + 1) with
    | mk o a1 =>
      rw [e] at b
      have b1 : a + 1 ≤ a1 := b.1
      have b2 : a1 ≤ s := b.2
      cases o with
      | none => rw [cmdP_n c e]; exact ⟨by show a ≤ a1; omega, b2, fun z => absurd rfl z⟩
      | some vs => rw [cmdP_s c e]; exact ⟨by show a ≤ a1; omega, b2, fun _ => b1⟩
  · rw [cmdP_f c]; exact ⟨Nat.le_refl _, h, fun z => absurd rfl z⟩
theorem ltr_no {s a : Nat} {t : Nat → Nat} (g : GX s t) (c : ¬ (a < s ∧ ltr (t a) = true)) : ∀ k, ltr k = true → ¬ (if a < s then nI (t a) else -1) = nI k := by
  intro k hk e
  have k31 : k < 2 ^ 31 := by have := ltr_c hk; omega
  by_cases c1 : a < s
  · rw [if_pos c1] at e
    have tl := g.2 a c1
    have := (nI_eq (by omega) k31).mp e
    exact c ⟨c1, by rw [this]; exact hk⟩
  · rw [if_neg c1] at e
    exact (zm k31).mp e.symm
def FT (h h' : PH) : Prop := (∀ i, i ≠ 341 → i ≠ 343 → h' i = h i) ∧ h' 341 2 = h 341 2
theorem FT.rf {h : PH} : FT h h := ⟨fun _ _ _ => rfl, rfl⟩
theorem FT.tr {h h1 h2 : PH} (x : FT h h1) (y : FT h1 h2) : FT h h2 := ⟨fun i a b => (y.1 i a b).trans (x.1 i a b), y.2.trans x.2⟩
theorem FU.ft {h h' : PH} (x : FU h h') : FT h h' := ⟨x.1, x.2 2 (by decide)⟩
theorem FT.u {h : PH} {j : Nat} {v : Int32} (e : j ≠ 2) : FT h (up2 h 341 j v) := ⟨fun i a _ => up2_o i a, up2_ne (Ne.symm e)⟩
theorem CX.ft {s : Nat} {t : Nat → Nat} {h h' : PH} (x : CX s t h) (y : FT h h') : CX s t h' := x.ag y.2 (y.1 342 (by decide) (by decide))
theorem ok_readCommand {s a : Nat} {t : Nat → Nat} {h : PH} {Q : Int32 → PH → Prop} (g : GX s t) (has : a ≤ s) (hx : CX s t h) (ha : h 341 3 = nI a)
    (q : ∀ h', FT h h' → h' 341 3 = nI (cmdP s t a).2 → (∀ c vs, (cmdP s t a).1 = some (c, vs) → h' 341 4 = nI c ∧ ∀ j, j < (kl c).length → h' 343 j = nI (vs.getD j 0)) → Q (oB (cmdP s t a).1) h') : wp_X6_readCommand 341 h Q := by
  have s120 := g.1
  unfold wp_X6_readCommand
  rw [ha]
  refine ok_signAt hx g (by omega) ?_
  rintro h3 rfl
  rw [up2_at]
  by_cases c : a < s ∧ ltr (t a) = true
  · rw [if_pos c.1]
    refine isC_t c.2 (bf' (by decide) ?_)
    rintro h7 rfl
    have e3 : up2 h 341 4 (nI (t a)) 341 3 = nI a := by rw [up2_ne (by decide)]; exact ha
    rw [e3, nI_1]
    have e4 : up2 (up2 h 341 4 (nI (t a))) 341 3 (nI (a + 1)) 341 4 = nI (t a) := by rw [up2_ne (by decide)]; exact up2_at
    rw [e4]
    refine kind_t c.2 ?_
    obtain ⟨k1, k2, k3⟩ := ltr_t c.2
    have FF : FT h (up2 (up2 h 341 4 (nI (t a))) 341 3 (nI (a + 1))) := (FT.u (by decide)).tr (FT.u (by decide))
    refine ⟨_, ok_kinds g (kl (t a)) 0 (a + 1) _ k3 k1 k2 (by omega) (hx.ft FF) up2_at ?_⟩
    intro h' F e o v
    have e4' : h' 341 4 = nI (t a) := (F.2 4 (by decide)).trans e4
    cases en : numK s t (kl (t a)) (a + 1) with
    | mk o' a1 =>
      rw [en] at e v
      cases o' with
      | none =>
        rw [cmdP_n c en] at q
        exact q h' (FF.tr F.ft) e (fun c vs z => nomatch z)
      | some vs =>
        rw [cmdP_s c en] at q
        refine q h' (FF.tr F.ft) e (fun c' vs' z => ?_)
        have z' : some (t a, vs) = some (c', vs') := z
        cases z'
        exact ⟨e4', fun j hj => by have := v vs rfl j hj; rw [Nat.zero_add] at this; exact this⟩
  · rw [cmdP_f c] at q
    refine isC_f (ltr_no g c) (bt' rfl (q _ (FT.u (by decide)) (by rw [up2_ne (by decide)]; exact ha) (fun c vs z => nomatch z)))
def errP (s : Nat) (t : Nat → Nat) : Nat → Nat → Int32
  | 0, _ => -1
  | n + 1, a => if s ≤ a then -1 else match cmdP s t a with
    | (none, a') => nI a'
    | (some _, a') => errP s t n a'
def errT (s : Nat) (t : Nat → Nat) : Int32 := if 0 < s ∧ t 0 = 90 then errP s t 120 1 else 0
theorem ok_firstError {s : Nat} {t : Nat → Nat} {h : PH} {Q : Int32 → PH → Prop} (g : GX s t) (hx : CX s t h) (q : ∀ h', FT h h' → Q (errT s t) h') : wp_X6_firstError 341 h Q := by
  have s120 := g.1
  unfold wp_X6_firstError
  refine ok_signAt (i := 0) hx g (by omega) ?_
  by_cases c0 : 0 < s ∧ t 0 = 90
  · unfold errT at q
    rw [if_pos c0] at q
    rw [if_pos c0.1, c0.2]
    refine bt rfl ?_
    unfold wp_X6_begin
    rintro h1 rfl
    refine ⟨121, ?_⟩
    suffices H : ∀ n i a h1, i + n = 120 → a ≤ s → CX s t h1 → h1 341 3 = nI a → FT h h1 → (∀ h', FT h h' → Q (errP s t n a) h') → wp_X6_firstError_b18 341 Q (n + 1) (nI i) h1 from H 120 0 1 _ (by omega) (by omega) (hx.ft (FT.u (by decide))) up2_at (FT.u (by decide)) q
    intro n
    induction n with
    | zero =>
      intro i a h1 hi has hx1 ha F q
      unfold wp_X6_firstError_b18
      exact bt (by rw [show (120 : Int32) = nI 120 from rfl]; exact nI_le (by omega) (by omega)) (q h1 F)
    | succ n ih =>
      intro i a h1 hi has hx1 ha F q
      unfold wp_X6_firstError_b18
      refine bf (by rw [show (120 : Int32) = nI 120 from rfl]; exact nI_ge (by omega) (by omega)) ?_
      rw [hx1.1, ha]
      by_cases c : s ≤ a
      · rw [errP, if_pos c] at q
        exact bt (nI_le c (by omega)) (q h1 F)
      · rw [errP, if_neg c] at q
        refine bf (nI_ge (by omega) (by omega)) (ok_readCommand g has hx1 ha ?_)
        intro h2 F2 e2 _
        have b := cmdP_le (t := t) has
        cases en : cmdP s t a with
        | mk o a1 =>
          rw [en] at e2 b q
          cases o with
          | none =>
            refine bt' rfl ?_
            rw [e2]
            exact q h2 (F.tr F2)
          | some p =>
            refine bf' (show ¬ (1 : Int32) = 0 by decide) ?_
            rintro x rfl
            rw [nI_1]
            exact ih (i + 1) a1 h2 (by omega) b.2.1 (hx1.ft F2) e2 (F.tr F2) q
  · unfold errT at q
    rw [if_neg c0] at q
    refine bf ?_ (q h FT.rf)
    by_cases c1 : 0 < s
    · rw [if_pos c1]
      have := g.2 0 c1
      rw [show (90 : Int32) = nI 90 from rfl, nI_eq (by omega) (by omega)]
      exact fun z => c0 ⟨c1, z⟩
    · rw [if_neg c1]
      decide

