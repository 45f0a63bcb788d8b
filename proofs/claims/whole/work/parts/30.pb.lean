theorem li_0 : (0 : Int32) = nI 0 := rfl
theorem li_1 : (1 : Int32) = nI 1 := rfl
theorem li_2 : (2 : Int32) = nI 2 := rfl
theorem li_3 : (3 : Int32) = nI 3 := rfl
theorem li_4 : (4 : Int32) = nI 4 := rfl
theorem li_5 : (5 : Int32) = nI 5 := rfl
theorem li_6 : (6 : Int32) = nI 6 := rfl
theorem li_7 : (7 : Int32) = nI 7 := rfl
theorem li_8 : (8 : Int32) = nI 8 := rfl
theorem li_9 : (9 : Int32) = nI 9 := rfl
theorem li_10 : (10 : Int32) = nI 10 := rfl
theorem li_11 : (11 : Int32) = nI 11 := rfl
theorem li_12 : (12 : Int32) = nI 12 := rfl
theorem li_15 : (15 : Int32) = nI 15 := rfl
theorem li_16 : (16 : Int32) = nI 16 := rfl
theorem li_20 : (20 : Int32) = nI 20 := rfl
theorem li_31 : (31 : Int32) = nI 31 := rfl
theorem li_40 : (40 : Int32) = nI 40 := rfl
theorem li_48 : (48 : Int32) = nI 48 := rfl
theorem li_50 : (50 : Int32) = nI 50 := rfl
theorem li_57 : (57 : Int32) = nI 57 := rfl
theorem li_58 : (58 : Int32) = nI 58 := rfl
theorem li_59 : (59 : Int32) = nI 59 := rfl
theorem li_60 : (60 : Int32) = nI 60 := rfl
theorem li_61 : (61 : Int32) = nI 61 := rfl
theorem li_90 : (90 : Int32) = nI 90 := rfl
theorem li_97 : (97 : Int32) = nI 97 := rfl
theorem li_99 : (99 : Int32) = nI 99 := rfl
theorem li_100 : (100 : Int32) = nI 100 := rfl
theorem li_101 : (101 : Int32) = nI 101 := rfl
theorem li_108 : (108 : Int32) = nI 108 := rfl
theorem li_109 : (109 : Int32) = nI 109 := rfl
theorem li_112 : (112 : Int32) = nI 112 := rfl
theorem li_114 : (114 : Int32) = nI 114 := rfl
theorem li_116 : (116 : Int32) = nI 116 := rfl
theorem li_117 : (117 : Int32) = nI 117 := rfl
theorem li_118 : (118 : Int32) = nI 118 := rfl
theorem li_119 : (119 : Int32) = nI 119 := rfl
theorem li_120 : (120 : Int32) = nI 120 := rfl
theorem li_187 : (187 : Int32) = nI 187 := rfl
theorem li_255 : (255 : Int32) = nI 255 := rfl
theorem li_256 : (256 : Int32) = nI 256 := rfl
theorem li_427 : (427 : Int32) = nI 427 := rfl
theorem li_999 : (999 : Int32) = nI 999 := rfl
theorem li_1000 : (1000 : Int32) = nI 1000 := rfl
theorem li_1024 : (1024 : Int32) = nI 1024 := rfl
theorem li_2000 : (2000 : Int32) = nI 2000 := rfl
theorem li_2048 : (2048 : Int32) = nI 2048 := rfl
theorem li_4697 : (4697 : Int32) = nI 4697 := rfl
theorem li_10000 : (10000 : Int32) = nI 10000 := rfl
theorem li_100000 : (100000 : Int32) = nI 100000 := rfl
theorem li_1000000 : (1000000 : Int32) = nI 1000000 := rfl
theorem li_10000000 : (10000000 : Int32) = nI 10000000 := rfl

theorem z0 {a : Nat} (h : a < 2 ^ 31) : (nI a = 0) = (a = 0) := by
  rw [li_0]; exact propext (nI_eq h (by omega))
theorem z1 {a : Nat} (h : a < 2 ^ 31) : (nI a = 1) = (a = 1) := by
  rw [li_1]; exact propext (nI_eq h (by omega))
theorem zm {a : Nat} (h : a < 2 ^ 31) : (nI a = -1) = False := by
  refine propext ⟨fun e => ?_, fun e => e.elim⟩
  have := congrArg Int32.toInt e
  rw [nI_toInt h] at this
  have h2 : (-1 : Int32).toInt = -1 := by decide
  omega
theorem zmL {a : Nat} (h : a < 2 ^ 31) : (nI a < -1) = False := by
  refine propext ⟨fun e => ?_, fun e => e.elim⟩
  have := Int32.lt_iff_toInt_lt.mp e
  rw [nI_toInt h] at this
  have h2 : (-1 : Int32).toInt = -1 := by decide
  omega
theorem bt {c A B : Prop} (h : c) (a : A) : (c → A) ∧ (¬ c → B) := ⟨fun _ => a, fun n => absurd h n⟩
theorem bf {c A B : Prop} (h : ¬ c) (b : B) : (c → A) ∧ (¬ c → B) := ⟨fun n => absurd n h, fun _ => b⟩
theorem bt' {c A B : Prop} (h : c) (b : B) : (¬ c → A) ∧ (c → B) := ⟨fun n => absurd h n, fun _ => b⟩
theorem bf' {c A B : Prop} (h : ¬ c) (a : A) : (¬ c → A) ∧ (c → B) := ⟨fun _ => a, fun n => absurd n h⟩
theorem nI_arb (x : Int32) : x < 0 ∨ ∃ j : Nat, j < 2 ^ 31 ∧ x = nI j := by
  by_cases h : x < 0
  · exact Or.inl h
  · exact Or.inr (nI_of h)
/-- a number of the script is within bounds, or none of them -/
def inB (x : Int32) (lo hi : Nat) : Prop := ∃ j, lo ≤ j ∧ j < hi ∧ x = nI j
theorem neg_lt {x : Int32} {b : Nat} (h : x < 0) (hb : b < 2 ^ 31) : x < nI b := by
  rw [Int32.lt_iff_toInt_lt] at *
  rw [nI_toInt hb]
  have : (0 : Int32).toInt = 0 := by decide
  omega
theorem out_in {x lo hi : Nat} {h : PH} {Q : Int32 → PH → Prop} (h1 : lo ≤ x) (h2 : x ≤ hi) (h3 : hi < 2 ^ 31) (q : Q 0 h) : wp_X7_outside (nI x) (nI lo) (nI hi) h Q := by
  unfold wp_X7_outside
  exact bf (by rw [nI_ltI (by omega) (by omega)]; omega) (bt (by rw [nI_leI (by omega) (by omega)]; omega) q)
theorem out_out {x : Int32} {lo hi : Nat} {h : PH} {Q : Int32 → PH → Prop} (hx : ¬ inB x lo (hi + 1)) (hl : lo < 2 ^ 31) (h3 : hi < 2 ^ 31) (q : Q 1 h) : wp_X7_outside x (nI lo) (nI hi) h Q := by
  unfold wp_X7_outside
  rcases nI_arb x with hn | ⟨j, hj, rfl⟩
  · exact bt (neg_lt hn hl) q
  · rcases Nat.lt_or_ge j lo with a | a
    · exact bt (by rw [nI_ltI (by omega) (by omega)]; omega) q
    · exact bf (by rw [nI_ltI (by omega) (by omega)]; omega) (bf (fun e => hx ⟨j, a, by rw [nI_leI (by omega) (by omega)] at e; omega, rfl⟩) q)
/-- the same against a count less 1 -/
theorem cnt_in {x n : Nat} {h : PH} {Q : Int32 → PH → Prop} (h1 : x < n) (h3 : n < 2 ^ 31) (q : Q 0 h) : wp_X7_outside (nI x) 0 (nI n - 1) h Q := by
  obtain ⟨m, rfl⟩ : ∃ m, n = m + 1 := ⟨n - 1, by omega⟩
  rw [nI_pred, li_0]
  exact out_in (by omega) (by omega) (by omega) q
theorem cnt_out {x : Int32} {n : Nat} {h : PH} {Q : Int32 → PH → Prop} (hx : ¬ inB x 0 n) (h3 : n < 2 ^ 31) (q : Q 1 h) : wp_X7_outside x 0 (nI n - 1) h Q := by
  rcases Nat.eq_zero_or_pos n with rfl | hp
  · unfold wp_X7_outside
    rcases nI_arb x with hn | ⟨j, hj, rfl⟩
    · exact bt hn q
    · refine bf (nI_pos hj) (bf (fun e => ?_) q)
      have := Int32.le_iff_toInt_le.mp e
      rw [nI_toInt hj] at this
      have h2 : (nI 0 - 1 : Int32).toInt = -1 := by decide
      omega
  · obtain ⟨m, rfl⟩ : ∃ m, n = m + 1 := ⟨n - 1, by omega⟩
    rw [nI_pred, li_0]
    exact out_out hx (by omega) (by omega) q
/-- the reference's own test -/
theorem mlt {a b : Nat} (ha : a < 2 ^ 31) (hb : b < 2 ^ 31) : ((nI a).toInt64 < (nI b).toInt64) ↔ a < b := by
  rw [nI_l ha, nI_l hb, lN_lt ha hb]
theorem in_in {x lo hi : Nat} {h : PH} {Q : Int32 → PH → Prop} (h1 : lo ≤ x) (h2 : x ≤ hi) (h3 : hi < 2 ^ 31) (q : Q 1 h) : wp_X8_in ((nI x).toInt64) (lN lo) (lN hi) h Q := by
  unfold wp_X8_in
  rw [nI_l (by omega : x < 2 ^ 31)]
  exact bf (by rw [lg_cmp_lt, lN_lt (by omega) (by omega)]; omega) (bf (by rw [lg_cmp_gt, lN_lt (by omega) (by omega)]; omega) q)
theorem neg_L {x : Int32} (h : x < 0) : x.toInt64.toInt < 0 := by
  rw [Int32.toInt_toInt64]
  have := Int32.lt_iff_toInt_lt.mp h
  have h2 : (0 : Int32).toInt = 0 := by decide
  omega
theorem in_out {x : Int32} {lo hi : Nat} {h : PH} {Q : Int32 → PH → Prop} (hx : ¬ inB x lo (hi + 1)) (hl : lo < 2 ^ 31) (h3 : hi < 2 ^ 31) (q : Q 0 h) : wp_X8_in (x.toInt64) (lN lo) (lN hi) h Q := by
  unfold wp_X8_in
  rcases nI_arb x with hn | ⟨j, hj, rfl⟩
  · refine bt ?_ q
    rw [lg_cmp_lt, Int64.lt_iff_toInt_lt, lN_toInt hl]
    have := neg_L hn
    omega
  · rw [nI_l hj]
    rcases Nat.lt_or_ge j lo with a | a
    · exact bt (by rw [lg_cmp_lt, lN_lt (by omega) (by omega)]; omega) q
    · refine bf (by rw [lg_cmp_lt, lN_lt (by omega) (by omega)]; omega) (bt ?_ q)
      rw [lg_cmp_gt, lN_lt (by omega) (by omega)]
      rcases Nat.lt_or_ge hi j with b | b
      · exact b
      · exact absurd ⟨j, a, by omega, rfl⟩ hx
theorem lL0 : (0 : Int64) = lN 0 := rfl
theorem inc_in {x n : Nat} {h : PH} {Q : Int32 → PH → Prop} (h1 : x < n) (h3 : n < 2 ^ 31) (q : Q 1 h) : wp_X8_in ((nI x).toInt64) 0 ((nI n - 1).toInt64) h Q := by
  obtain ⟨m, rfl⟩ : ∃ m, n = m + 1 := ⟨n - 1, by omega⟩
  rw [nI_pred, nI_l (by omega : m < 2 ^ 31), lL0]
  exact in_in (by omega) (by omega) (by omega) q
theorem inc_out {x : Int32} {n : Nat} {h : PH} {Q : Int32 → PH → Prop} (hx : ¬ inB x 0 n) (h3 : n < 2 ^ 31) (q : Q 0 h) : wp_X8_in (x.toInt64) 0 ((nI n - 1).toInt64) h Q := by
  rcases Nat.eq_zero_or_pos n with rfl | hp
  · unfold wp_X8_in
    rcases nI_arb x with hn | ⟨j, hj, rfl⟩
    · refine bt ?_ q
      rw [lg_cmp_lt, Int64.lt_iff_toInt_lt]
      have := neg_L hn
      have h2 : (0 : Int64).toInt = 0 := by decide
      omega
    · rw [nI_l hj]
      refine bf (by rw [lg_cmp_lt, lL0, lN_lt hj (by omega)]; omega) (bt ?_ q)
      rw [lg_cmp_gt, Int64.lt_iff_toInt_lt, lN_toInt hj]
      have h2 : ((nI 0 - 1).toInt64).toInt = -1 := by decide
      omega
  · obtain ⟨m, rfl⟩ : ∃ m, n = m + 1 := ⟨n - 1, by omega⟩
    rw [nI_pred, nI_l (by omega : m < 2 ^ 31), lL0]
    exact in_out hx (by omega) (by omega) q
/-! places of a row -/
theorem get_in {k c n : Nat} {h : PH} {Q : Int32 → PH → Prop} (hk : al k = n) (hn : n < 2 ^ 31) (hc : c < n) (q : Q (h k c) h) : wp_X7_get k (nI c) h Q := by
  unfold wp_X7_get
  rw [hk]
  exact bf (nI_pos (by omega)) (bt (by rw [nI_ltI (by omega) (by omega)]; omega) ⟨vp_in_nI hc hn, by rw [nI_clamp (by omega)]; exact q⟩)
theorem get_m1 {k : Nat} {h : PH} {Q : Int32 → PH → Prop} (q : Q 0 h) : wp_X7_get k (-1) h Q := by
  unfold wp_X7_get
  exact bt (by decide) q
theorem put_in {k c n : Nat} {x : Int32} {h : PH} {Q : PH → Prop} (hk : al k = n) (hn : n < 2 ^ 31) (hc : c < n) (q : Q (up2 h k c x)) : wp_X7_put k (nI c) x h Q := by
  unfold wp_X7_put
  rw [hk]
  refine bf (nI_pos (by omega)) (bf (by rw [nI_leI (by omega) (by omega)]; omega) ⟨vp_in_nI hc hn, ?_⟩)
  rintro h4 rfl
  rw [nI_clamp (by omega)]
  exact q
theorem min_ok {a b : Int32} {h : PH} {Q : Int32 → PH → Prop} (q : Q (if b < a then b else a) h) : wp_J9_min_7cf53 a b h Q := by
  unfold wp_J9_min_7cf53
  by_cases c : b < a
  · rw [if_pos c] at q; exact bt c q
  · rw [if_neg c] at q; exact bf c q
theorem min_n {a b : Nat} {h : PH} {Q : Int32 → PH → Prop} (ha : a < 2 ^ 31) (hb : b < 2 ^ 31) (q : Q (nI (min a b)) h) : wp_J9_min_7cf53 (nI a) (nI b) h Q := by
  refine min_ok ?_
  rw [show (if nI b < nI a then nI b else nI a) = nI (min a b) by
    by_cases c : b < a
    · rw [if_pos ((nI_ltI hb ha).mpr c), Nat.min_eq_right (by omega)]
    · rw [if_neg (fun z => c ((nI_ltI hb ha).mp z)), Nat.min_eq_left (by omega)]]
  exact q
theorem max_n {a b : Nat} {h : PH} {Q : Int32 → PH → Prop} (ha : a < 2 ^ 31) (hb : b < 2 ^ 31) (q : Q (nI (max a b)) h) : wp_J9_max_7cf53 (nI a) (nI b) h Q := by
  unfold wp_J9_max_7cf53
  by_cases c : a < b
  · exact bt ((nI_ltI ha hb).mpr c) (by rw [Nat.max_eq_right (by omega)] at q; exact q)
  · exact bf (fun z => c ((nI_ltI ha hb).mp z)) (by rw [Nat.max_eq_left (by omega)] at q; exact q)
/-! pictures: a reel f: its length f 0, its cells f (1 + c); a loop f: 0 cells, 1 p, 2 q, 3 phase, 4 muted, 5 pieces, 6.. their lengths, 12.. its cells; a studio N: N 0 = reels, loops, time, refused; N (1 + r); N (4 + l) -/
def psm (f : Nat → Nat) : Nat → Nat
  | 0 => 0
  | n + 1 => psm f n + f (6 + n)
def IR (f : Nat → Nat) : Prop := f 0 ≤ 60 ∧ ∀ c, c < f 0 → f (1 + c) ≤ 9
def IL (f : Nat → Nat) : Prop := f 0 ≤ 48 ∧ (1 ≤ f 1 ∧ f 1 ≤ 9) ∧ (1 ≤ f 2 ∧ f 2 ≤ 9) ∧ f 4 ≤ 1 ∧ f 5 ≤ 6 ∧ (f 0 = 0 → f 3 = 0) ∧ (0 < f 0 → f 3 < f 0 * f 2) ∧ psm f (f 5) = f 0 ∧ (∀ i, i < f 5 → 1 ≤ f (6 + i)) ∧ ∀ c, c < f 0 → f (12 + c) ≤ 9
def Inv (N : Nat → Nat → Nat) : Prop := N 0 0 ≤ 3 ∧ N 0 1 ≤ 4 ∧ (∀ r, r < N 0 0 → IR (N (1 + r))) ∧ ∀ l, l < N 0 1 → IL (N (4 + l))
def Re (k : Nat) (f : Nat → Nat) (h : PH) : Prop := al (k + 1) = 60 ∧ h k 1 = nI (f 0) ∧ ∀ c, c < f 0 → h (k + 1) c = nI (f (1 + c))
def Lo (k : Nat) (f : Nat → Nat) (h : PH) : Prop := al (k + 1) = 48 ∧ al (k + 2) = 6 ∧ h k 2 = nI (f 0) ∧ h k 3 = nI (f 5) ∧ h k 4 = nI (f 1) ∧ h k 5 = nI (f 2) ∧ h k 6 = nI (f 3) ∧ h k 7 = nI (f 4) ∧ (∀ c, c < f 0 → h (k + 1) c = nI (f (12 + c))) ∧ ∀ i, i < f 5 → h (k + 2) i = nI (f (6 + i))
/-- the class's studio (all but the refused) -/
def Rl (b : Nat) (N : Nat → Nat → Nat) (h : PH) : Prop := al (b + 1) = 3 ∧ al (b + 8) = 4 ∧ h b 2 = nI (N 0 0) ∧ h b 3 = nI (N 0 1) ∧ h b 4 = nI (N 0 2) ∧ (∀ r, r < N 0 0 → Re (b + 1 + 1 + 2 * r) (N (1 + r)) h) ∧ ∀ l, l < N 0 1 → Lo (b + 8 + 1 + 3 * l) (N (4 + l)) h
/-- the reference's row -/
def Mr (g : Nat → Int32) (r : Nat) (f : Nat → Nat) : Prop := g (4 + 61 * r) = nI (f 0) ∧ ∀ c, c < 60 → g (4 + 61 * r + 1 + c) = nI (f (1 + c))
def Ml (g : Nat → Int32) (l : Nat) (f : Nat → Nat) : Prop := ∀ w, w < 60 → g (187 + 60 * l + w) = nI (f w)
def Mw (g : Nat → Int32) (N : Nat → Nat → Nat) : Prop := (∀ j, j < 4 → g j = nI (N 0 j)) ∧ (∀ r, r < 3 → Mr g r (N (1 + r))) ∧ ∀ l, l < 4 → Ml g l (N (4 + l))
/-- folds and searches, from i, d turns -/
def fl {σ : Type} (F : Nat → σ → σ) : Nat → Nat → σ → σ
  | 0, _, s => s
  | d + 1, i, s => fl F d (i + 1) (F i s)
def fsI (p : Nat → Bool) : Nat → Nat → Int32
  | 0, _ => -1
  | d + 1, i => if p i then nI i else fsI p d (i + 1)
def bi (s : Bool) : Int32 := if s then 1 else 0
theorem bi0 (s : Bool) : (bi s = 0) = (s = false) := by cases s <;> decide
theorem bi1 (s : Bool) : (bi s = 1) = (s = true) := by cases s <;> decide
theorem bi01 (s : Bool) : bi s = 0 ∨ bi s = 1 := by cases s <;> simp [bi]
theorem bi_t {s : Bool} (h : s = true) : ¬ bi s = 0 := by rw [h]; decide
theorem bi_f {s : Bool} (h : s = false) : bi s = 0 := by rw [h]; rfl
def begN (f : Nat → Nat) (s : Bool) (c : Nat) : Bool := (decide (f (1 + c) = 0) == s) && (decide (c = 0) || (decide (f c = 0) != s))
def quN (f : Nat → Nat) (c : Nat) : Bool := decide (c = 0) || decide (c = f 0) || (decide (f c = 0) && decide (f (1 + c) = 0))
def rowsN (f : Nat → Nat) (s : Bool) : Nat := fl (fun c n => if begN f s c then n + 1 else n) (f 0) 0 0
/-- the first cell of row k: -1 if there is none -/
def rfN (f : Nat → Nat) (s : Bool) (k : Nat) : Nat → Nat → Nat → Int32
  | 0, _, _ => -1
  | d + 1, c, n => if begN f s c then (if n = k then nI c else rfN f s k d (c + 1) (n + 1)) else rfN f s k d (c + 1) n
def rmN (f : Nat → Nat) (a : Nat) : Nat → Nat → Nat
  | 0, e => e - a
  | d + 1, e => if decide (f (1 + e) = 0) == decide (f (1 + a) = 0) then rmN f a d (e + 1) else e - a
def rmany (f : Nat → Nat) (a : Nat) : Nat := rmN f a (f 0 - a) a
/-! reels of the class -/
section
variable {k : Nat} {f : Nat → Nat} {h : PH} {Q : Int32 → PH → Prop}
theorem Re_get {c : Nat} (hR : Re k f h) (hI : IR f) (hc : c < f 0) (q : Q (nI (f (1 + c))) h) : wp_X7_get (k + 1) (nI c) h Q :=
  get_in hR.1 (by decide) (by have := hI.1; omega) (by rw [hR.2.2 c hc]; exact q)
theorem ok_isSilent {c : Nat} (hR : Re k f h) (hI : IR f) (hc : c < f 0) (q : Q (bi (decide (f (1 + c) = 0))) h) : wp_X3_isSilent k (nI c) h Q := by
  unfold wp_X3_isSilent
  have := hI.2 c hc
  refine Re_get hR hI hc ?_
  by_cases e : f (1 + c) = 0
  · simp only [e, bi] at q ⊢; exact bt' rfl q
  · refine bf' (by rw [z0 (by omega)]; exact e) ?_
    simpa [e, bi] using q
theorem ok_isQuiet {c : Nat} (hR : Re k f h) (hI : IR f) (hc : c ≤ f 0) (q : Q (bi (quN f c)) h) : wp_X3_isQuiet k (nI c) h Q := by
  unfold wp_X3_isQuiet
  have h60 := hI.1
  unfold quN at q
  by_cases e : c = 0
  · subst e; exact bt rfl (by simpa [bi] using q)
  · refine bf (by rw [z0 (by omega)]; exact e) ?_
    rw [hR.2.1, nI_eq (by omega) (by omega)]
    by_cases e2 : c = f 0
    · exact bt e2 (by simpa [bi, e2] using q)
    · refine bf e2 ?_
      obtain ⟨m, rfl⟩ : ∃ m, c = m + 1 := ⟨c - 1, by omega⟩
      rw [nI_pred]
      have b1 := hI.2 m (by omega)
      have b2 := hI.2 (m + 1) (by omega)
      refine Re_get hR hI (by omega) ?_
      rw [z0 (by omega)]
      rw [show 1 + m = m + 1 by omega] at *
      by_cases e3 : f (m + 1) = 0
      · refine bt' e3 (Re_get hR hI (by omega) ?_)
        rw [z0 (by omega)]
        by_cases e4 : f (1 + (m + 1)) = 0
        · exact bt' e4 (by simpa [bi, e3, e4] using q)
        · exact bf' e4 (by simpa [bi, e, e2, e3, e4] using q)
      · exact bf' e3 (by simpa [bi, e, e2, e3] using q)
theorem ok_startsRow {c : Nat} {s : Bool} (hR : Re k f h) (hI : IR f) (hc : c < f 0) (q : Q (bi (begN f s c)) h) : wp_X3_startsRow k (nI c) (bi s) h Q := by
  unfold wp_X3_startsRow
  have h60 := hI.1
  unfold begN at q
  refine ok_isSilent hR hI hc ?_
  by_cases e : decide (f (1 + c) = 0) = s
  · refine bt' (by rw [e]) ?_
    by_cases e2 : c = 0
    · subst e2; exact bt rfl (by simpa [bi, e] using q)
    · refine bf (by rw [z0 (by omega)]; exact e2) ?_
      obtain ⟨m, rfl⟩ : ∃ m, c = m + 1 := ⟨c - 1, by omega⟩
      rw [nI_pred]
      refine ok_isSilent hR hI (by omega) ?_
      rw [show 1 + m = m + 1 by omega] at *
      by_cases e3 : decide (f (m + 1) = 0) = s
      · exact bt (by rw [e3]) (by simpa [bi, e3] using q)
      · refine bf (fun z => e3 ?_) ?_
        · revert z; cases s <;> cases decide (f (m + 1) = 0) <;> decide
        · have : (decide (f (m + 1) = 0) != s) = true := by simpa using e3
          rw [this, e] at q
          simpa [bi] using q
  · refine bf' (fun z => e ?_) ?_
    · revert z; cases s <;> cases decide (f (1 + c) = 0) <;> decide
    · have : (decide (f (1 + c) = 0) == s) = false := by simpa using e
      rw [this] at q
      simpa [bi] using q
theorem ok_countRows {s : Bool} (hR : Re k f h) (hI : IR f) (q : Q (nI (rowsN f s)) h) : wp_X3_countRows k (bi s) h Q := by
  have h60 := hI.1
  refine ⟨f 0 + 1, ?_⟩
  suffices H : ∀ d i n, i + d = f 0 → Q (nI (fl (fun c n => if begN f s c then n + 1 else n) d i n)) h → wp_X3_countRows_b4 k (bi s) Q (d + 1) (nI n) (nI i) h from H (f 0) 0 0 (by omega) q
  intro d
  induction d with
  | zero =>
    intro i n hi q
    unfold wp_X3_countRows_b4
    rw [hR.2.1]
    exact bt (nI_le (by omega) (by omega)) q
  | succ d ih =>
    intro i n hi q
    unfold wp_X3_countRows_b4
    rw [hR.2.1]
    refine bf (nI_ge (by omega) (by omega)) (ok_startsRow hR hI (by omega) ?_)
    unfold fl at q
    cases e : begN f s i with
    | true =>
      rw [e] at q
      refine bf (by decide) ?_
      rintro x rfl y rfl
      rw [nI_1, nI_1]
      exact ih (i + 1) (n + 1) (by omega) q
    | false =>
      rw [e] at q
      refine bt rfl ?_
      rintro y rfl
      rw [nI_1]
      exact ih (i + 1) n (by omega) q
theorem ok_startOfRow {s : Bool} {j : Nat} (hj : j < 2 ^ 31) (hR : Re k f h) (hI : IR f) (q : Q (rfN f s j (f 0) 0 0) h) : wp_X3_startOfRow k (nI j) (bi s) h Q := by
  have h60 := hI.1
  refine ⟨f 0 + 1, ?_⟩
  suffices H : ∀ d i n, n ≤ i → i + d = f 0 → Q (rfN f s j d i n) h → wp_X3_startOfRow_b5 k (nI j) (bi s) Q (d + 1) (nI n) (nI i) h from H (f 0) 0 0 (by omega) (by omega) q
  intro d
  induction d with
  | zero =>
    intro i n hn hi q
    unfold wp_X3_startOfRow_b5
    rw [hR.2.1]
    exact bt (nI_le (by omega) (by omega)) q
  | succ d ih =>
    intro i n hn hi q
    unfold wp_X3_startOfRow_b5
    rw [hR.2.1]
    refine bf (nI_ge (by omega) (by omega)) (ok_startsRow hR hI (by omega) ?_)
    unfold rfN at q
    cases e : begN f s i with
    | true =>
      rw [e] at q
      refine bf (by decide) ?_
      rw [nI_eq (by omega) hj]
      by_cases e2 : n = j
      · exact bt' e2 (by simpa [e2] using q)
      · refine bf' e2 ?_
        rintro x rfl y rfl
        rw [nI_1, nI_1]
        exact ih (i + 1) (n + 1) (by omega) (by omega) (by simpa [e2] using q)
    | false =>
      rw [e] at q
      refine bt rfl ?_
      rintro y rfl
      rw [nI_1]
      exact ih (i + 1) n (by omega) (by omega) q
/-- no such row: also for numbers that aren't counts -/
theorem ok_startOfRow_neg {s : Bool} {x : Int32} (hx : x < 0) (hR : Re k f h) (hI : IR f) (q : Q (-1) h) : wp_X3_startOfRow k x (bi s) h Q := by
  have h60 := hI.1
  refine ⟨f 0 + 1, ?_⟩
  suffices H : ∀ d i n, n ≤ i → i + d = f 0 → wp_X3_startOfRow_b5 k x (bi s) Q (d + 1) (nI n) (nI i) h from H (f 0) 0 0 (by omega) (by omega)
  intro d
  induction d with
  | zero =>
    intro i n hn hi
    unfold wp_X3_startOfRow_b5
    rw [hR.2.1]
    exact bt (nI_le (by omega) (by omega)) q
  | succ d ih =>
    intro i n hn hi
    unfold wp_X3_startOfRow_b5
    rw [hR.2.1]
    refine bf (nI_ge (by omega) (by omega)) (ok_startsRow hR hI (by omega) ?_)
    cases e : begN f s i with
    | true =>
      refine bf (by decide) (bf' (fun z => nI_pos (by omega : n < 2 ^ 31) (by rw [z]; exact hx)) ?_)
      rintro x rfl y rfl
      rw [nI_1, nI_1]
      exact ih (i + 1) (n + 1) (by omega) (by omega)
    | false =>
      refine bt rfl ?_
      rintro y rfl
      rw [nI_1]
      exact ih (i + 1) n (by omega) (by omega)
theorem ok_rowLength {a : Nat} (hR : Re k f h) (hI : IR f) (ha : a < f 0) (q : Q (nI (rmany f a)) h) : wp_X3_rowLength k (nI a) h Q := by
  have h60 := hI.1
  refine ⟨f 0 - a + 1, ?_⟩
  suffices H : ∀ d i, a ≤ i → i + d = f 0 → Q (nI (rmN f a d i)) h → wp_X3_rowLength_b2 k (nI a) Q (d + 1) (nI i) h from H (f 0 - a) a (by omega) (by omega) q
  intro d
  induction d with
  | zero =>
    intro i hn hi q
    unfold wp_X3_rowLength_b2
    rw [hR.2.1]
    refine bt (nI_le (by omega) (by omega)) ?_
    rw [pk_sub hn]
    exact q
  | succ d ih =>
    intro i hn hi q
    unfold wp_X3_rowLength_b2
    rw [hR.2.1]
    refine bf (nI_ge (by omega) (by omega)) (ok_isSilent hR hI (by omega) (ok_isSilent hR hI ha ?_))
    unfold rmN at q
    by_cases e : decide (f (1 + i) = 0) = decide (f (1 + a) = 0)
    · refine bt' (by rw [e]) ?_
      rintro x rfl
      rw [nI_1]
      refine ih (i + 1) (by omega) (by omega) ?_
      rw [e] at q
      simpa using q
    · refine bf' (fun z => e ?_) ?_
      · revert z; cases decide (f (1 + i) = 0) <;> cases decide (f (1 + a) = 0) <;> decide
      · have : (decide (f (1 + i) = 0) == decide (f (1 + a) = 0)) = false := by simpa using e
        rw [this] at q
        rw [pk_sub hn]
        exact q
end
theorem rmN_le (f : Nat → Nat) (a : Nat) : ∀ d e, a ≤ e → a + rmN f a d e ≤ e + d
  | 0, e, h => by unfold rmN; omega
  | d + 1, e, h => by
    unfold rmN
    split
    · have := rmN_le f a d (e + 1) (by omega); omega
    · omega
theorem rmany_le {f : Nat → Nat} {a : Nat} (ha : a < f 0) : a + rmany f a ≤ f 0 := by
  have := rmN_le f a (f 0 - a) a (by omega)
  unfold rmany
  omega

