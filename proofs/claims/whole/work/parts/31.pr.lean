
/-- nothing else is changed than the n cells from a -/
def Fr (a n : Nat) (h h' : PH) : Prop := ∀ i, i < a ∨ a + n ≤ i → h' i = h i
theorem Fr.rf {a n : Nat} {h : PH} : Fr a n h h := fun _ _ => rfl
theorem Fr.tr {a n : Nat} {h h1 h2 : PH} (x : Fr a n h h1) (y : Fr a n h1 h2) : Fr a n h h2 := fun i hi => (y i hi).trans (x i hi)
theorem Fr.sub {a n b m : Nat} {h g : PH} (x : Fr a n h g) (h1 : b ≤ a) (h2 : a + n ≤ b + m) : Fr b m h g := fun i hi => x i (by omega)
theorem Fr.u {a n : Nat} {h g : PH} (F : Fr a n h g) (k j : Nat) (x : Int32) (e : a ≤ k ∧ k < a + n) : Fr a n h (up2 g k j x) := fun i hi => (up2_o i (by omega)).trans (F i hi)
theorem Fr.up {k j : Nat} {x : Int32} {h : PH} : Fr k 1 h (up2 h k j x) := fun i hi => up2_o i (by omega)
theorem up2_at {k j : Nat} {x : Int32} {h : PH} : up2 h k j x k j = x := by rw [up2_s]; exact pk_us
theorem up2_ne {k j i : Nat} {x : Int32} {h : PH} (e : i ≠ j) : up2 h k j x k i = h k i := by rw [up2_s]; exact pk_un e
theorem Re.fr {k : Nat} {f : Nat → Nat} {h h' : PH} {a n : Nat} (x : Re k f h) (y : Fr a n h h') (d : k + 1 < a ∨ a + n ≤ k) : Re k f h' :=
  ⟨x.1, by rw [y k (by omega)]; exact x.2.1, fun c hc => by rw [y (k + 1) (by omega)]; exact x.2.2 c hc⟩
theorem Lo.fr {k : Nat} {f : Nat → Nat} {h h' : PH} {a n : Nat} (x : Lo k f h) (y : Fr a n h h') (d : k + 2 < a ∨ a + n ≤ k) : Lo k f h' := by
  obtain ⟨x1, x2, x3, x4, x5, x6, x7, x8, x9, x10⟩ := x
  have e := y k (by omega)
  have e1 := y (k + 1) (by omega)
  have e2 := y (k + 2) (by omega)
  exact ⟨x1, x2, by rw [e]; exact x3, by rw [e]; exact x4, by rw [e]; exact x5, by rw [e]; exact x6, by rw [e]; exact x7, by rw [e]; exact x8, fun c hc => by rw [e1]; exact x9 c hc, fun c hc => by rw [e2]; exact x10 c hc⟩
theorem Re.cong {k : Nat} {f g : Nat → Nat} {h : PH} (x : Re k f h) (e0 : f 0 = g 0) (e : ∀ c, c < f 0 → f (1 + c) = g (1 + c)) : Re k g h :=
  ⟨x.1, by rw [x.2.1, e0], fun c hc => by rw [x.2.2 c (by omega), e c (by omega)]⟩
theorem cp2_at {h : PH} {s d n j : Nat} (hn : n < 2 ^ 31) (hj : j < n) : cp2 h s 0 d 0 (nI n) d j = h s j := by
  unfold cp2
  rw [if_pos rfl, nI_clamp hn]
  have e : (0 : Int32).toNatClampNeg = 0 := by decide
  rw [e, pk_cpy_in (by omega) (by omega)]
  rw [show 0 + (j - 0) = j by omega]
theorem cp2_fo {h : PH} {s d n i : Nat} (hi : i ≠ d) : cp2 h s 0 d 0 (nI n) i = h i := by
  funext j
  unfold cp2
  rw [if_neg hi]
theorem ok_copyRow {s d n A : Nat} {h : PH} {Q : PH → Prop} (hs : al s = A) (hd : al d = A) (hA : A < 2 ^ 31) (hn : n ≤ A) (q : ∀ h', Fr d 1 h h' → (∀ j, j < n → h' d j = h s j) → Q h') : wp_X7_copyRow s d (nI n) h Q := by
  unfold wp_X7_copyRow
  rw [hs, hd]
  refine min_n hA hA (min_n (by omega) (by omega) ?_)
  rw [li_0]
  refine max_n (by omega) (by omega) ?_
  have e1 : min n (min A A) = n := by omega
  have e2 : max 0 n = n := by omega
  rw [e1, e2, nI_clamp (by omega : n < 2 ^ 31), nI_clamp (by omega : 0 < 2 ^ 31)]
  refine ⟨⟨nI_pos (by omega), nI_pos (by omega), nI_pos (by omega), by omega, by omega⟩, ?_⟩
  rintro h8 rfl
  rw [← li_0]
  exact q _ (fun i hi => cp2_fo (by omega)) (fun j hj => cp2_at (by omega) hj)
section
variable {k : Nat} {f : Nat → Nat} {h : PH}
theorem ok_hasCell {Q : Int32 → PH → Prop} {c : Nat} (hR : Re k f h) (hI : IR f) (hc : c < f 0) (q : Q 1 h) : wp_X3_hasCell k (nI c) h Q := by
  unfold wp_X3_hasCell
  rw [hR.2.1]
  have := hI.1
  exact cnt_in hc (by omega) (bt' rfl q)
theorem ok_hasCellN {Q : Int32 → PH → Prop} {x : Int32} (hR : Re k f h) (hI : IR f) (hc : ¬ inB x 0 (f 0)) (q : Q 0 h) : wp_X3_hasCell k x h Q := by
  unfold wp_X3_hasCell
  rw [hR.2.1]
  have := hI.1
  exact cnt_out hc (by omega) (bf' (by decide) q)
theorem ok_hasPlace {Q : Int32 → PH → Prop} {c : Nat} (hR : Re k f h) (hI : IR f) (hc : c ≤ f 0) (q : Q 1 h) : wp_X3_hasPlace k (nI c) h Q := by
  unfold wp_X3_hasPlace
  rw [hR.2.1, li_0]
  have := hI.1
  exact out_in (by omega) hc (by omega) (bt' rfl q)
theorem ok_hasPlaceN {Q : Int32 → PH → Prop} {x : Int32} (hR : Re k f h) (hI : IR f) (hc : ¬ inB x 0 (f 0 + 1)) (q : Q 0 h) : wp_X3_hasPlace k x h Q := by
  unfold wp_X3_hasPlace
  rw [hR.2.1, li_0]
  have := hI.1
  exact out_out hc (by omega) (by omega) (bf' (by decide) q)
theorem ok_firstQuiet {Q : Int32 → PH → Prop} {a : Nat} (hR : Re k f h) (hI : IR f) (ha : a < f 0) (q : Q (fsI (quN f) (rmany f a + 1) a) h) : wp_X3_firstQuiet k (nI a) h Q := by
  unfold wp_X3_firstQuiet
  have h60 := hI.1
  have hm := rmany_le ha
  refine ok_rowLength hR hI ha ?_
  rintro x rfl
  rw [nI_add]
  refine ⟨rmany f a + 2, ?_⟩
  suffices H : ∀ d i, a ≤ i → i + d = a + rmany f a + 1 → Q (fsI (quN f) d i) h → wp_X3_firstQuiet_b10 k (nI (a + rmany f a)) Q (d + 1) (nI i) h from H (rmany f a + 1) a (by omega) (by omega) q
  intro d
  induction d with
  | zero =>
    intro i hn hi q
    unfold wp_X3_firstQuiet_b10
    exact bt (nI_lt (by omega) (by omega)) q
  | succ d ih =>
    intro i hn hi q
    unfold wp_X3_firstQuiet_b10
    refine bf (nI_nlt (by omega) (by omega)) (ok_isQuiet hR hI (by omega) ?_)
    unfold fsI at q
    cases e : quN f i with
    | true => rw [e] at q; exact bf (by decide) q
    | false =>
      rw [e] at q
      refine bt rfl ?_
      rintro y rfl
      rw [nI_1]
      exact ih (i + 1) (by omega) (by omega) q
theorem ok_greatestSound {Q : Int32 → PH → Prop} {a : Nat} (hR : Re k f h) (hI : IR f) (ha : a < f 0) (q : Q (nI (fl (fun c g => max g (f (1 + c))) (rmany f a) a 0)) h) : wp_X3_greatestSound k (nI a) h Q := by
  unfold wp_X3_greatestSound
  have h60 := hI.1
  have hm := rmany_le ha
  refine ok_rowLength hR hI ha ?_
  rintro x rfl
  rw [nI_add]
  refine ⟨rmany f a + 1, ?_⟩
  suffices H : ∀ d i g, a ≤ i → g ≤ 9 → i + d = a + rmany f a → Q (nI (fl (fun c g => max g (f (1 + c))) d i g)) h → wp_X3_greatestSound_b13 k (nI (a + rmany f a)) Q (d + 1) (nI g) (nI i) h from H (rmany f a) a 0 (by omega) (by omega) (by omega) q
  intro d
  induction d with
  | zero =>
    intro i g hn hg hi q
    unfold wp_X3_greatestSound_b13
    exact bt (nI_le (by omega) (by omega)) q
  | succ d ih =>
    intro i g hn hg hi q
    unfold wp_X3_greatestSound_b13
    have b1 := hI.2 i (by omega)
    refine bf (nI_ge (by omega) (by omega)) (Re_get hR hI (by omega) (max_n (by omega) (by omega) ?_))
    rintro y rfl
    rw [nI_1]
    exact ih (i + 1) _ (by omega) (by omega) (by omega) q
theorem ok_longestSilence {Q : Int32 → PH → Prop} (hR : Re k f h) (hI : IR f) (q : Q (nI (fl (fun c g => if begN f true c then max g (rmany f c) else g) (f 0) 0 0)) h) : wp_X3_longestSilence k h Q := by
  unfold wp_X3_longestSilence
  have h60 := hI.1
  refine ⟨f 0 + 1, ?_⟩
  suffices H : ∀ d i g, g ≤ 60 → i + d = f 0 → Q (nI (fl (fun c g => if begN f true c then max g (rmany f c) else g) d i g)) h → wp_X3_longestSilence_b4 k Q (d + 1) (nI g) (nI i) h from H (f 0) 0 0 (by omega) (by omega) q
  intro d
  induction d with
  | zero =>
    intro i g hg hi q
    unfold wp_X3_longestSilence_b4
    rw [hR.2.1]
    exact bt (nI_le (by omega) (by omega)) q
  | succ d ih =>
    intro i g hg hi q
    unfold wp_X3_longestSilence_b4
    rw [hR.2.1]
    have hm := rmany_le (f := f) (a := i) (by omega)
    refine bf (nI_ge (by omega) (by omega)) (ok_startsRow (s := true) hR hI (by omega) ?_)
    unfold fl at q
    cases e : begN f true i with
    | true =>
      rw [e] at q
      refine bf (by decide) (ok_rowLength hR hI (by omega) (max_n (by omega) (by omega) ?_))
      rintro y rfl
      rw [nI_1]
      exact ih (i + 1) _ (by omega) (by omega) q
    | false =>
      rw [e] at q
      refine bt rfl ?_
      rintro y rfl
      rw [nI_1]
      exact ih (i + 1) _ (by omega) (by omega) q
theorem ok_sumOfSounds {Q : Int32 → PH → Prop} (hR : Re k f h) (hI : IR f) (q : Q (nI (fl (fun c g => g + f (1 + c)) (f 0) 0 0)) h) : wp_X3_sumOfSounds k h Q := by
  unfold wp_X3_sumOfSounds
  have h60 := hI.1
  refine ⟨f 0 + 1, ?_⟩
  suffices H : ∀ d i g, i + d = f 0 → Q (nI (fl (fun c g => g + f (1 + c)) d i g)) h → wp_X3_sumOfSounds_b4 k Q (d + 1) (nI g) (nI i) h from H (f 0) 0 0 (by omega) q
  intro d
  induction d with
  | zero =>
    intro i g hi q
    unfold wp_X3_sumOfSounds_b4
    rw [hR.2.1]
    exact bt (nI_le (by omega) (by omega)) q
  | succ d ih =>
    intro i g hi q
    unfold wp_X3_sumOfSounds_b4
    rw [hR.2.1]
    refine bf (nI_ge (by omega) (by omega)) (Re_get hR hI (by omega) ?_)
    rintro y rfl z rfl
    rw [nI_1, nI_add]
    exact ih (i + 1) _ (by omega) q
/-- paint: from a to b the sound v -/
def paN (f : Nat → Nat) (a b v : Nat) : Nat → Nat := fun j => if 1 + a ≤ j ∧ j < 1 + b then v else f j
def paC (f : Nat → Nat) (a b v : Nat) : Nat := fl (fun c n => if f (1 + c) = v then n else n + 1) (b - a) a 0
theorem ok_lay {Q : Int32 → PH → Prop} {a b v : Nat} (hR : Re k f h) (hI : IR f) (hab : a ≤ b) (hb : b < f 0) (hv : v ≤ 9) (q : ∀ h', Fr k 2 h h' → Re k (paN f a (b + 1) v) h' → Q (nI (paC f a (b + 1) v)) h') : wp_X3_lay k (nI a) (nI b) (nI v) h Q := by
  unfold wp_X3_lay
  have h60 := hI.1
  refine ⟨b + 1 - a + 1, ?_⟩
  suffices H : ∀ d i n g, a ≤ i → i + d = b + 1 → Fr k 2 h g → Re k (paN f a i v) g → (∀ h', Fr k 2 h h' → Re k (paN f a (b + 1) v) h' → Q (nI (fl (fun c n => if f (1 + c) = v then n else n + 1) d i n)) h') → wp_X3_lay_b6 k (nI b) (nI v) Q (d + 1) (nI n) (nI i) g by
    refine H (b + 1 - a) a 0 h (by omega) (by omega) Fr.rf (hR.cong ?_ ?_) q
    · unfold paN; rw [if_neg (by omega)]
    · intro c hc; unfold paN; rw [if_neg (by omega)]
  intro d
  induction d with
  | zero =>
    intro i n g hn hi hF hR q
    unfold wp_X3_lay_b6
    refine bt (nI_lt (by omega) (by omega)) (q g hF ?_)
    rw [show b + 1 = i by omega]
    exact hR
  | succ d ih =>
    intro i n g hn hi hF hR q
    unfold wp_X3_lay_b6
    have e0 : paN f a i v 0 = f 0 := by unfold paN; rw [if_neg (by omega)]
    have ei : paN f a i v (1 + i) = f (1 + i) := by unfold paN; rw [if_neg (by omega)]
    have b1 := hI.2 i (by omega)
    refine bf (nI_nlt (by omega) (by omega)) ?_
    refine get_in hR.1 (by decide) (by omega) ?_
    rw [hR.2.2 i (by rw [e0]; omega), ei, nI_eq (by omega) (by omega)]
    unfold fl at q
    by_cases e : f (1 + i) = v
    · refine bt e ?_
      rintro y rfl
      rw [nI_1]
      refine ih (i + 1) n g (by omega) (by omega) hF (hR.cong ?_ ?_) (by simpa [e] using q)
      · unfold paN; rw [if_neg (by omega), if_neg (by omega)]
      · intro c hc
        unfold paN
        by_cases ec : c = i
        · subst ec; rw [if_neg (by omega), if_pos (by omega), e]
        · by_cases ec2 : 1 + a ≤ 1 + c ∧ 1 + c < 1 + i
          · rw [if_pos ec2, if_pos (by omega)]
          · rw [if_neg ec2, if_neg (by omega)]
    · refine bf e (put_in hR.1 (by decide) (by omega) ?_)
      rintro y rfl z rfl
      rw [nI_1, nI_1]
      refine ih (i + 1) (n + 1) _ (by omega) (by omega) (hF.u (k + 1) i (nI v) (by omega)) ⟨hR.1, ?_, ?_⟩ (by simpa [e] using q)
      · rw [up2_o k (by omega), hR.2.1, e0]; unfold paN; rw [if_neg (by omega)]
      · intro c hc
        have e0' : paN f a (i + 1) v 0 = f 0 := by unfold paN; rw [if_neg (by omega)]
        by_cases ec : c = i
        · subst ec; rw [up2_at]; unfold paN; rw [if_pos (by omega)]
        · rw [up2_ne ec, hR.2.2 c (by omega)]
          unfold paN
          by_cases ec2 : 1 + a ≤ 1 + c ∧ 1 + c < 1 + i
          · rw [if_pos ec2, if_pos (by omega)]
          · rw [if_neg ec2, if_neg (by omega)]
def newR (n : Nat) : Nat → Nat := fun j => if j = 0 then n else 0
theorem ok_begin {Q : PH → Prop} {n : Nat} (hk : al (k + 1) = 60) (hn : n ≤ 60) (q : ∀ h', Fr k 2 h h' → Re k (newR n) h' → Q h') : wp_X3_begin k (nI n) h Q := by
  unfold wp_X3_begin
  rintro h1 rfl
  refine ⟨61, ?_⟩
  suffices H : ∀ d i g, i + d = 60 → Fr k 2 h g → g k 1 = nI n → (∀ c, c < i → g (k + 1) c = 0) → wp_X3_begin_b7 k Q (d + 1) (nI i) g by
    exact H 60 0 _ (by omega) (Fr.rf.u k 1 (nI n) (by omega)) up2_at (fun c hc => by omega)
  intro d
  induction d with
  | zero =>
    intro i g hi hF h1 h2
    unfold wp_X3_begin_b7
    rw [hk]
    refine bt (nI_le (by omega) (by omega)) (q g hF ⟨hk, ?_, ?_⟩)
    · rw [h1]; rfl
    · intro c hc
      have : newR n 0 = n := rfl
      rw [h2 c (by omega)]; unfold newR; rw [if_neg (by omega)]; rfl
  | succ d ih =>
    intro i g hi hF h1 h2
    unfold wp_X3_begin_b7
    rw [hk]
    refine bf (nI_ge (by omega) (by omega)) ⟨vp_in_nI (by omega) (by omega), ?_⟩
    rintro h4 rfl x rfl
    rw [nI_1, nI_clamp (by omega)]
    refine ih (i + 1) _ (by omega) (hF.u (k + 1) i 0 (by omega)) (by rw [up2_o k (by omega)]; exact h1) ?_
    intro c hc
    by_cases e : c = i
    · subst e; exact up2_at
    · rw [up2_ne e]; exact h2 c (by omega)
theorem ok_copyReel {Q : PH → Prop} {k' : Nat} (hk : al (k + 1) = 60) (hR : Re k' f h) (hI : IR f) (hd : k' + 1 < k ∨ k + 1 < k') (q : ∀ h', Fr k 2 h h' → Re k f h' → Q h') : wp_X3_copyFrom k k' h Q := by
  unfold wp_X3_copyFrom
  rintro h1 rfl
  have h60 := hI.1
  rw [show up2 h k 1 (h k' 1) k' 1 = h k' 1 by rw [up2_o k' (by omega)], hR.2.1]
  refine ok_copyRow hR.1 hk (by decide) h60 ?_
  intro h2 hF hc
  refine q h2 ((Fr.rf.u k 1 _ (by omega)).tr (hF.sub (by omega) (by omega))) ⟨hk, ?_, ?_⟩
  · rw [hF k (by omega)]; exact up2_at
  · intro c hcf
    rw [hc c hcf, up2_o (k' + 1) (by omega)]
    exact hR.2.2 c hcf
end
/-! the reference's reels -/
section
variable {a r : Nat} {f : Nat → Nat} {h : PH} {Q : Int32 → PH → Prop}
theorem mo_cells (ha : al a = 427) (hM : Mr (h a) r f) (hr : r < 3) (q : Q (nI (f 0)) h) : wp_X8_cells a (nI r) h Q := by
  unfold wp_X8_cells
  rw [ha, li_4, li_61, pk_mul, nI_add]
  refine ⟨vp_in_nI (by omega) (by omega), ?_⟩
  rw [nI_clamp (by omega), hM.1]
  exact q
theorem mo_soundAt {c : Nat} (ha : al a = 427) (hM : Mr (h a) r f) (hr : r < 3) (hc : c < 60) (q : Q (nI (f (1 + c))) h) : wp_X8_soundAt a (nI r) (nI c) h Q := by
  unfold wp_X8_soundAt
  rw [ha, li_4, li_61, li_1, pk_mul, nI_add, nI_add, nI_add]
  refine ⟨vp_in_nI (by omega) (by omega), ?_⟩
  rw [nI_clamp (by omega), hM.2 c hc]
  exact q
theorem mo_isQuiet {c : Nat} (ha : al a = 427) (hM : Mr (h a) r f) (hr : r < 3) (hI : IR f) (hc : c ≤ f 0) (q : Q (bi (quN f c)) h) : wp_X8_isQuiet a (nI r) (nI c) h Q := by
  unfold wp_X8_isQuiet
  have h60 := hI.1
  unfold quN at q
  by_cases e : c = 0
  · subst e; exact bt rfl (by simpa [bi] using q)
  · refine bf (by rw [z0 (by omega)]; exact e) (mo_cells ha hM hr ?_)
    rw [nI_eq (by omega) (by omega)]
    by_cases e2 : c = f 0
    · exact bt e2 (by simpa [bi, e2] using q)
    · refine bf e2 ?_
      obtain ⟨m, rfl⟩ : ∃ m, c = m + 1 := ⟨c - 1, by omega⟩
      rw [nI_pred]
      have b1 := hI.2 m (by omega)
      have b2 := hI.2 (m + 1) (by omega)
      refine mo_soundAt ha hM hr (by omega) ?_
      rw [z0 (by omega)]
      rw [show 1 + m = m + 1 by omega] at *
      by_cases e3 : f (m + 1) = 0
      · refine bt' e3 (mo_soundAt ha hM hr (by omega) ?_)
        rw [z0 (by omega)]
        by_cases e4 : f (1 + (m + 1)) = 0
        · exact bt' e4 (by simpa [bi, e3, e4] using q)
        · exact bf' e4 (by simpa [bi, e, e2, e3, e4] using q)
      · exact bf' e3 (by simpa [bi, e, e2, e3] using q)
theorem mo_begins {c : Nat} {s : Bool} (ha : al a = 427) (hM : Mr (h a) r f) (hr : r < 3) (hI : IR f) (hc : c < f 0) (q : Q (bi (begN f s c)) h) : wp_X8_begins a (nI r) (nI c) (bi s) h Q := by
  unfold wp_X8_begins
  have h60 := hI.1
  have b1 := hI.2 c (by omega)
  unfold begN at q
  refine mo_soundAt ha hM hr (by omega) ?_
  have d0 : ((0 : Int32) = bi s) = (s = false) := by cases s <;> decide
  have d1 : ((1 : Int32) = bi s) = (s = true) := by cases s <;> decide
  rw [z0 (by omega), d0, d1]
  have T : ∀ P : Prop, (c = 0 → P) → (∀ m, c = m + 1 → P) → P := fun P p1 p2 => by
    rcases Nat.eq_zero_or_pos c with e | e
    · exact p1 e
    · exact p2 (c - 1) (by omega)
  have S : ∀ Q' : Int32 → PH → Prop, ∀ m, c = m + 1 → Q' (nI (f c)) h → wp_X8_soundAt a (nI r) (nI c - 1) h Q' := by
    rintro Q' m rfl q'
    rw [nI_pred]
    refine mo_soundAt ha hM hr (by omega) ?_
    rw [show 1 + m = m + 1 by omega]
    exact q'
  have Z : ∀ m, c = m + 1 → (nI (f c) = 0) = (f c = 0) := by
    rintro m rfl
    have := hI.2 m (by omega)
    rw [show 1 + m = m + 1 by omega] at this
    exact z0 (by omega)
  refine T _ ?_ ?_
  · intro e
    subst e
    have zz : (nI 0 = 0) = True := by decide
    rw [zz]
    by_cases e1 : f (1 + 0) = 0 <;> cases s <;> simp_all [bi]
  · intro m e
    have hc0 : ¬ c = 0 := by omega
    have zz : (nI c = 0) = False := by rw [z0 (by omega)]; simp; omega
    rw [zz]
    by_cases e1 : f (1 + c) = 0
    · refine bt' e1 ?_
      cases s with
      | false => exact bf' (by decide) (by simpa [bi, e1] using q)
      | true =>
        refine bt' rfl (bf not_false (S _ m e ?_))
        rw [Z m e]
        by_cases e2 : f c = 0
        · exact bt' e2 (bt rfl (by simpa [bi, e1, e2, hc0] using q))
        · exact bf' e2 (bf (by decide) (by simpa [bi, e1, e2, hc0] using q))
    · refine bf' e1 ?_
      cases s with
      | true => exact bf' (by decide) (by simpa [bi, e1] using q)
      | false =>
        refine bt' rfl (bf not_false (S _ m e ?_))
        rw [Z m e]
        by_cases e2 : f c = 0
        · exact bt' e2 (bf (by decide) (by simpa [bi, e1, e2, hc0] using q))
        · exact bf' e2 (bt rfl (by simpa [bi, e1, e2, hc0] using q))
theorem mo_rows {s : Bool} (ha : al a = 427) (hM : Mr (h a) r f) (hr : r < 3) (hI : IR f) (q : Q (nI (rowsN f s)) h) : wp_X8_rows a (nI r) (bi s) h Q := by
  have h60 := hI.1
  refine ⟨f 0 + 1, ?_⟩
  suffices H : ∀ d i n, i + d = f 0 → Q (nI (fl (fun c n => if begN f s c then n + 1 else n) d i n)) h → wp_X8_rows_b5 a (nI r) (bi s) Q (d + 1) (nI n) (nI i) h from H (f 0) 0 0 (by omega) q
  intro d
  induction d with
  | zero =>
    intro i n hi q
    unfold wp_X8_rows_b5
    exact mo_cells ha hM hr (bt (nI_le (by omega) (by omega)) q)
  | succ d ih =>
    intro i n hi q
    unfold wp_X8_rows_b5
    refine mo_cells ha hM hr (bf (nI_ge (by omega) (by omega)) (mo_begins ha hM hr hI (by omega) ?_))
    unfold fl at q
    cases e : begN f s i with
    | true =>
      rw [e] at q
      refine bf (by decide) ?_
      rintro x rfl y rfl
      rw [nI_1, nI_1]
      exact ih (i + 1) (n + 1) (by omega) q
    | false =>
      rw [e] at q
      refine bt rfl ?_
      rintro x rfl y rfl
      rw [nI_1, li_0, nI_add]
      exact ih (i + 1) n (by omega) q
theorem mo_rowFirst {s : Bool} {j : Nat} (hj : j < 2 ^ 31) (ha : al a = 427) (hM : Mr (h a) r f) (hr : r < 3) (hI : IR f) (q : Q (rfN f s j (f 0) 0 0) h) : wp_X8_rowFirst a (nI r) (nI j) (bi s) h Q := by
  have h60 := hI.1
  refine ⟨f 0 + 1, ?_⟩
  suffices H : ∀ d i n, n ≤ j → i + d = f 0 → Q (rfN f s j d i n) h → wp_X8_rowFirst_b6 a (nI r) (bi s) Q (d + 1) (nI (j - n)) (nI i) h from H (f 0) 0 0 (by omega) (by omega) q
  intro d
  induction d with
  | zero =>
    intro i n hn hi q
    unfold wp_X8_rowFirst_b6
    exact mo_cells ha hM hr (bt (nI_le (by omega) (by omega)) q)
  | succ d ih =>
    intro i n hn hi q
    unfold wp_X8_rowFirst_b6
    refine mo_cells ha hM hr (bf (nI_ge (by omega) (by omega)) (mo_begins ha hM hr hI (by omega) ?_))
    unfold rfN at q
    cases e : begN f s i with
    | true =>
      rw [e] at q
      refine bf (by decide) ?_
      rw [z0 (by omega)]
      by_cases e2 : n = j
      · exact bt' (by omega) (by simpa [e2] using q)
      · refine bf' (by omega) ?_
        rintro x rfl y rfl
        rw [nI_1, show j - n = (j - (n + 1)) + 1 by omega, pk_m1]
        exact ih (i + 1) (n + 1) (by omega) (by omega) (by simpa [e2] using q)
    | false =>
      rw [e] at q
      refine bt rfl ?_
      rintro y rfl
      rw [nI_1]
      exact ih (i + 1) n (by omega) (by omega) q
theorem mo_rowMany {i0 : Nat} (ha : al a = 427) (hM : Mr (h a) r f) (hr : r < 3) (hI : IR f) (hi0 : i0 < f 0) (q : Q (nI (rmany f i0)) h) : wp_X8_rowMany a (nI r) (nI i0) h Q := by
  have h60 := hI.1
  have b0 := hI.2 i0 hi0
  refine ⟨f 0 - i0 + 1, ?_⟩
  suffices H : ∀ d i, i0 ≤ i → i + d = f 0 → Q (nI (rmN f i0 d i)) h → wp_X8_rowMany_b2 a (nI r) (nI i0) Q (d + 1) (nI i) h from H (f 0 - i0) i0 (by omega) (by omega) q
  intro d
  induction d with
  | zero =>
    intro i hn hi q
    unfold wp_X8_rowMany_b2
    refine mo_cells ha hM hr (bt (nI_le (by omega) (by omega)) ?_)
    rw [pk_sub hn]
    exact q
  | succ d ih =>
    intro i hn hi q
    unfold wp_X8_rowMany_b2
    have b1 := hI.2 i (by omega)
    refine mo_cells ha hM hr (bf (nI_ge (by omega) (by omega)) (mo_soundAt ha hM hr (by omega) ?_))
    rw [z0 (by omega)]
    unfold rmN at q
    by_cases e : f (1 + i) = 0
    · refine bt' e (mo_soundAt ha hM hr (by omega) ?_)
      rw [z0 (by omega)]
      by_cases e2 : f (1 + i0) = 0
      · refine bt' e2 ?_
        rintro x rfl
        rw [nI_1]
        exact ih (i + 1) (by omega) (by omega) (by simpa [e, e2] using q)
      · refine bf' e2 ?_
        rw [pk_sub hn]
        simpa [e, e2] using q
    · refine bf' e (mo_soundAt ha hM hr (by omega) ?_)
      rw [z0 (by omega)]
      by_cases e2 : f (1 + i0) = 0
      · refine bt' e2 ?_
        rw [pk_sub hn]
        simpa [e, e2] using q
      · refine bf' e2 ?_
        rintro x rfl
        rw [nI_1]
        exact ih (i + 1) (by omega) (by omega) (by simpa [e, e2] using q)
end

