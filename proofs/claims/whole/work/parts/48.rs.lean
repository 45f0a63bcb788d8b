def cmS (N : Nat → Nat → Nat) (how six : Nat) : Bool × (Nat → Nat → Nat) :=
  if how = 1 then (if 1 ≤ six ∧ six ≤ 999 then (true, gnN N six) else (false, N))
  else if how = 2 then (if six / 100000 < N 0 1 ∧ six / 10000 % 10 < N 0 0 ∧ six / 100 % 100 ≤ N (1 + six / 10000 % 10) 0 ∧ six % 100 ≤ N (1 + six / 10000 % 10) 0 then (if rsN N (six / 100000) (six / 10000 % 10) (six / 100 % 100) (six % 100) = 0 then (true, jnS N (six / 100000) (six / 10000 % 10) (six / 100 % 100) (six % 100)) else (false, reF N)) else (false, N))
  else if how = 3 then (if six % 1000 = 0 ∧ six / 100000 < N 0 1 ∧ 0 < six / 10000 % 10 ∧ 0 < six / 1000 % 10 then (true, spS N (six / 100000) (six / 10000 % 10) (six / 1000 % 10)) else (false, N))
  else if how = 4 then (if six % 100000 < 2 ∧ six / 100000 < N 0 1 then (true, muS N (six / 100000) (decide (six % 10 = 1)).toNat) else (false, N))
  else if how = 5 then (if six % 100000 < 100 ∧ six / 100000 < N 0 0 ∧ 1 ≤ six % 100 ∧ six % 100 ≤ N (1 + six / 100000) 0 then (true, rcS N (six / 100000) (six % 100)) else (false, N))
  else if how = 6 then (if six < 100 ∧ six ≤ sndN N 0 then (true, N) else (false, N))
  else if how = 7 then (if six % 100000 < 1000 ∧ six / 100000 < N 0 1 ∧ N (4 + six / 100000) 3 = six % 100000 then (true, N) else (false, N))
  else if how = 8 then (if six % 10000 = 0 ∧ six / 100000 < N 0 1 ∧ six / 10000 % 10 < N 0 1 ∧ 0 < N (4 + six / 100000) 0 ∧ 0 < N (4 + six / 10000 % 10) 0 ∧ N (4 + six / 100000) 3 + N (4 + six / 10000 % 10) 3 = 0 then (true, N) else (false, N))
  else if how = 9 then (if six % 100000 < 1000 ∧ six / 100000 < N 0 0 ∧ six % 100000 / 10 < N (1 + six / 100000) 0 ∧ N (1 + six / 100000) (1 + six % 100000 / 10) = six % 10 then (true, N) else (false, N))
  else (false, N)
theorem cs_1 {N : Nat → Nat → Nat} {six : Nat} : cmS N 1 six = (if 1 ≤ six ∧ six ≤ 999 then (true, gnN N six) else (false, N)) := by unfold cmS; rw [if_pos rfl]
theorem cs_2 {N : Nat → Nat → Nat} {six : Nat} : cmS N 2 six = (if six / 100000 < N 0 1 ∧ six / 10000 % 10 < N 0 0 ∧ six / 100 % 100 ≤ N (1 + six / 10000 % 10) 0 ∧ six % 100 ≤ N (1 + six / 10000 % 10) 0 then (if rsN N (six / 100000) (six / 10000 % 10) (six / 100 % 100) (six % 100) = 0 then (true, jnS N (six / 100000) (six / 10000 % 10) (six / 100 % 100) (six % 100)) else (false, reF N)) else (false, N)) := by unfold cmS; rw [if_neg (by decide), if_pos rfl]
theorem cs_3 {N : Nat → Nat → Nat} {six : Nat} : cmS N 3 six = (if six % 1000 = 0 ∧ six / 100000 < N 0 1 ∧ 0 < six / 10000 % 10 ∧ 0 < six / 1000 % 10 then (true, spS N (six / 100000) (six / 10000 % 10) (six / 1000 % 10)) else (false, N)) := by unfold cmS; rw [if_neg (by decide), if_neg (by decide), if_pos rfl]
theorem cs_4 {N : Nat → Nat → Nat} {six : Nat} : cmS N 4 six = (if six % 100000 < 2 ∧ six / 100000 < N 0 1 then (true, muS N (six / 100000) (decide (six % 10 = 1)).toNat) else (false, N)) := by unfold cmS; rw [if_neg (by decide), if_neg (by decide), if_neg (by decide), if_pos rfl]
theorem cs_5 {N : Nat → Nat → Nat} {six : Nat} : cmS N 5 six = (if six % 100000 < 100 ∧ six / 100000 < N 0 0 ∧ 1 ≤ six % 100 ∧ six % 100 ≤ N (1 + six / 100000) 0 then (true, rcS N (six / 100000) (six % 100)) else (false, N)) := by unfold cmS; rw [if_neg (by decide), if_neg (by decide), if_neg (by decide), if_neg (by decide), if_pos rfl]
theorem cs_6 {N : Nat → Nat → Nat} {six : Nat} : cmS N 6 six = (if six < 100 ∧ six ≤ sndN N 0 then (true, N) else (false, N)) := by unfold cmS; rw [if_neg (by decide), if_neg (by decide), if_neg (by decide), if_neg (by decide), if_neg (by decide), if_pos rfl]
theorem cs_7 {N : Nat → Nat → Nat} {six : Nat} : cmS N 7 six = (if six % 100000 < 1000 ∧ six / 100000 < N 0 1 ∧ N (4 + six / 100000) 3 = six % 100000 then (true, N) else (false, N)) := by unfold cmS; rw [if_neg (by decide), if_neg (by decide), if_neg (by decide), if_neg (by decide), if_neg (by decide), if_neg (by decide), if_pos rfl]
theorem cs_8 {N : Nat → Nat → Nat} {six : Nat} : cmS N 8 six = (if six % 10000 = 0 ∧ six / 100000 < N 0 1 ∧ six / 10000 % 10 < N 0 1 ∧ 0 < N (4 + six / 100000) 0 ∧ 0 < N (4 + six / 10000 % 10) 0 ∧ N (4 + six / 100000) 3 + N (4 + six / 10000 % 10) 3 = 0 then (true, N) else (false, N)) := by unfold cmS; rw [if_neg (by decide), if_neg (by decide), if_neg (by decide), if_neg (by decide), if_neg (by decide), if_neg (by decide), if_neg (by decide), if_pos rfl]
theorem cs_9 {N : Nat → Nat → Nat} {six : Nat} : cmS N 9 six = (if six % 100000 < 1000 ∧ six / 100000 < N 0 0 ∧ six % 100000 / 10 < N (1 + six / 100000) 0 ∧ N (1 + six / 100000) (1 + six % 100000 / 10) = six % 10 then (true, N) else (false, N)) := by unfold cmS; rw [if_neg (by decide), if_neg (by decide), if_neg (by decide), if_neg (by decide), if_neg (by decide), if_neg (by decide), if_neg (by decide), if_neg (by decide), if_pos rfl]
theorem cs_0 {N : Nat → Nat → Nat} {six : Nat} : cmS N 0 six = (false, N) := by unfold cmS; rw [if_neg (by decide), if_neg (by decide), if_neg (by decide), if_neg (by decide), if_neg (by decide), if_neg (by decide), if_neg (by decide), if_neg (by decide), if_neg (by decide)]

theorem Rl.ref {b : Nat} {N : Nat → Nat → Nat} {h : PH} (x : Rl b N h) : Rl b (reF N) h := by
  obtain ⟨y1, y2, y3, y4, y5, y6, y7⟩ := x
  refine ⟨y1, y2, ?_, ?_, ?_, fun r hr => ?_, fun l hl => ?_⟩
  · show h b 2 = nI (setO N 0 (ufn (N 0) 3 (N 0 3 + 1)) 0 0)
    rw [setO_s, ufn_n (by decide)]; exact y3
  · show h b 3 = nI (setO N 0 (ufn (N 0) 3 (N 0 3 + 1)) 0 1)
    rw [setO_s, ufn_n (by decide)]; exact y4
  · show h b 4 = nI (setO N 0 (ufn (N 0) 3 (N 0 3 + 1)) 0 2)
    rw [setO_s, ufn_n (by decide)]; exact y5
  · rw [show reF N (1 + r) = N (1 + r) from setO_n (by omega)]
    refine y6 r ?_
    have e : reF N 0 0 = N 0 0 := by show setO N 0 (ufn (N 0) 3 (N 0 3 + 1)) 0 0 = _; rw [setO_s, ufn_n (by decide)]
    omega
  · rw [show reF N (4 + l) = N (4 + l) from setO_n (by omega)]
    refine y7 l ?_
    have e : reF N 0 1 = N 0 1 := by show setO N 0 (ufn (N 0) 3 (N 0 3 + 1)) 0 1 = _; rw [setO_s, ufn_n (by decide)]
    omega
theorem Inv.rf {N : Nat → Nat → Nat} (h : Inv N) : Inv (reF N) := h.set0 (by decide) (by decide)
theorem jn_inv {N : Nat → Nat → Nat} {l r x y : Nat} (hI : Inv N) (hl : l < N 0 1) (hr : r < N 0 0) (hy : y ≤ N (1 + r) 0) (e : rsN N l r x y = 0) : Inv (jnS N l r x y) := by
  obtain ⟨h1, h2, h3⟩ := rsN_0 e
  have il := hI.il hl
  have i6 := il.2.2.2.2.1
  exact hI.setL hl (il.jn (hI.ir hr) h1 hy h2 (by omega))
theorem cm_inv {N : Nat → Nat → Nat} {how six : Nat} (hI : Inv N) : Inv (cmS N how six).2 := by
  rcases (by omega : how = 1 ∨ how = 2 ∨ how = 3 ∨ how = 4 ∨ how = 5 ∨ how = 6 ∨ how = 7 ∨ how = 8 ∨ how = 9 ∨ (how = 0 ∨ 10 ≤ how)) with rfl | rfl | rfl | rfl | rfl | rfl | rfl | rfl | rfl | hh
  · rw [cs_1]
    split
    · exact hI.go
    · exact hI
  · rw [cs_2]
    split
    · rename_i c
      split
      · rename_i e
        exact jn_inv hI c.1 c.2.1 c.2.2.2 e
      · exact hI.rf
    · exact hI
  · rw [cs_3]
    split
    · rename_i c
      exact hI.setL c.2.1 ((hI.il c.2.1).sp (by omega) (by omega))
    · exact hI
  · rw [cs_4]
    split
    · rename_i c
      exact hI.setL c.2 ((hI.il c.2).mu (by cases decide (six % 10 = 1) <;> decide))
    · exact hI
  · rw [cs_5]
    split
    · rename_i c
      exact hI.rc c.2.1
    · exact hI
  · rw [cs_6]; split <;> exact hI
  · rw [cs_7]; split <;> exact hI
  · rw [cs_8]; split <;> exact hI
  · rw [cs_9]; split <;> exact hI
  · have : cmS N how six = (false, N) := by
      unfold cmS
      rw [if_neg (by omega), if_neg (by omega), if_neg (by omega), if_neg (by omega), if_neg (by omega), if_neg (by omega), if_neg (by omega), if_neg (by omega), if_neg (by omega)]
    rw [this]
    exact hI
theorem ok_hasPhase {b l u : Nat} {N : Nat → Nat → Nat} {h : PH} {Q : Int32 → PH → Prop} (hR : Rl b N h) (hI : Inv N) (hl : l < N 0 1) (hu : u < 2 ^ 31) (q : Q (bi (decide (N (4 + l) 3 = u))) h) : wp_X5_hasPhase (some (b + 8 + 1 + 3 * l)) (nI u) h Q := by
  unfold wp_X5_hasPhase
  have il := hI.il hl
  have p := il.ph
  refine sm_t ?_
  rw [show h (b + 8 + 1 + 3 * l) 6 = nI (N (4 + l) 3) from (hR.lo hl).2.2.2.2.2.2.1, nI_eq (by omega) hu]
  by_cases c : N (4 + l) 3 = u
  · rw [decide_eq_true c] at q; exact bt' c q
  · rw [decide_eq_false c] at q; exact bf' c q
theorem ok_isAtZero {b l : Nat} {N : Nat → Nat → Nat} {h : PH} {Q : Int32 → PH → Prop} (hR : Rl b N h) (hI : Inv N) (hl : l < N 0 1) (q : Q (bi (decide (0 < N (4 + l) 0) && decide (N (4 + l) 3 = 0))) h) : wp_X5_isAtZero (some (b + 8 + 1 + 3 * l)) h Q := by
  unfold wp_X5_isAtZero
  have il := hI.il hl
  have p := il.ph
  refine sm_t (ok_isEmpty (hR.lo hl) il ?_)
  by_cases c : N (4 + l) 0 = 0
  · rw [decide_eq_false (by omega)] at q
    exact bf' (bi_t (decide_eq_true c)) q
  · rw [decide_eq_true (by omega), Bool.true_and] at q
    refine bt' (bi_f (decide_eq_false c)) ?_
    rw [show h (b + 8 + 1 + 3 * l) 6 = nI (N (4 + l) 3) from (hR.lo hl).2.2.2.2.2.2.1, z0 (by omega)]
    by_cases c2 : N (4 + l) 3 = 0
    · rw [decide_eq_true c2] at q; exact bt' c2 q
    · rw [decide_eq_false c2] at q; exact bf' c2 q
theorem ok_hasSound {b r c v : Nat} {N : Nat → Nat → Nat} {h : PH} {Q : Int32 → PH → Prop} (hR : Rl b N h) (hI : Inv N) (hr : r < N 0 0) (hc : c < 2 ^ 31) (hv : v < 2 ^ 31) (q : Q (bi (decide (c < N (1 + r) 0) && decide (N (1 + r) (1 + c) = v))) h) : wp_X5_hasSound (some (b + 1 + 1 + 2 * r)) (nI c) (nI v) h Q := by
  unfold wp_X5_hasSound
  have ir := hI.ir hr
  have i60 := ir.1
  refine sm_t ?_
  by_cases c1 : c < N (1 + r) 0
  · rw [decide_eq_true c1, Bool.true_and] at q
    refine ok_hasCell (hR.re hr) ir c1 (bf (by decide) (Re_get (hR.re hr) ir c1 ?_))
    have := ir.2 c c1
    rw [nI_eq (by omega) hv]
    by_cases c2 : N (1 + r) (1 + c) = v
    · rw [decide_eq_true c2] at q; exact bt' c2 q
    · rw [decide_eq_false c2] at q; exact bf' c2 q
  · rw [decide_eq_false c1] at q
    exact ok_hasCellN (hR.re hr) ir (by rw [inB_n hc (by omega)]; omega) (bt rfl q)

theorem ok_obeys {b G how six : Nat} {N : Nat → Nat → Nat} {h : PH} {Q : Int32 → PH → Prop} (hS : SB b) (hR : Rl b N h) (hI : Inv N) (hh : how ≤ 9) (hs : six < 1000000) (hG : G = how * 1000000 + six) (q : ∀ h', Fr b 21 h h' → Rl b (cmS N how six).2 h' → Q (bi (cmS N how six).1) h') : wp_X5_obeys b (nI G) h Q := by
  have i3 := hI.1
  have i4 := hI.2.1
  have g0 : jirem (nI G / 100000) 10 = nI (six / 100000) := (show jirem (nI G / 100000) 10 = nI (G / 100000 % 10) by rw [show (100000 : Int32) = nI 100000 from rfl, pk_div (by omega) (by omega) (by omega), show (10 : Int32) = nI 10 from rfl, jirem_n (by omega) (by omega) (by omega)]).trans (congrArg nI (by omega))
  have g1 : jirem (nI G / 10000) 10 = nI (six / 10000 % 10) := (show jirem (nI G / 10000) 10 = nI (G / 10000 % 10) by rw [show (10000 : Int32) = nI 10000 from rfl, pk_div (by omega) (by omega) (by omega), show (10 : Int32) = nI 10 from rfl, jirem_n (by omega) (by omega) (by omega)]).trans (congrArg nI (by omega))
  have g2 : jirem (nI G / 1000) 10 = nI (six / 1000 % 10) := (show jirem (nI G / 1000) 10 = nI (G / 1000 % 10) by rw [show (1000 : Int32) = nI 1000 from rfl, pk_div (by omega) (by omega) (by omega), show (10 : Int32) = nI 10 from rfl, jirem_n (by omega) (by omega) (by omega)]).trans (congrArg nI (by omega))
  have g3 : nI G / 1000000 = nI (how) := (show nI G / 1000000 = nI (G / 1000000) by rw [show (1000000 : Int32) = nI 1000000 from rfl, pk_div (by omega) (by omega) (by omega)]).trans (congrArg nI (by omega))
  have g4 : jirem (nI G / 1000) 1000 = nI (six / 1000) := (show jirem (nI G / 1000) 1000 = nI (G / 1000 % 1000) by rw [show (1000 : Int32) = nI 1000 from rfl, pk_div (by omega) (by omega) (by omega), jirem_n (by omega) (by omega) (by omega)]).trans (congrArg nI (by omega))
  have g5 : jirem (nI G) 1000 = nI (six % 1000) := (show jirem (nI G) 1000 = nI (G % 1000) by rw [show (1000 : Int32) = nI 1000 from rfl, jirem_n (by omega) (by omega) (by omega)]).trans (congrArg nI (by omega))
  have g6 : jirem (nI G / 100) 100 = nI (six / 100 % 100) := (show jirem (nI G / 100) 100 = nI (G / 100 % 100) by rw [show (100 : Int32) = nI 100 from rfl, pk_div (by omega) (by omega) (by omega), jirem_n (by omega) (by omega) (by omega)]).trans (congrArg nI (by omega))
  have g7 : jirem (nI G) 100 = nI (six % 100) := (show jirem (nI G) 100 = nI (G % 100) by rw [show (100 : Int32) = nI 100 from rfl, jirem_n (by omega) (by omega) (by omega)]).trans (congrArg nI (by omega))
  have g8 : jirem (nI G / 10) 10000 = nI (six / 10 % 10000) := (show jirem (nI G / 10) 10000 = nI (G / 10 % 10000) by rw [show (10 : Int32) = nI 10 from rfl, pk_div (by omega) (by omega) (by omega), show (10000 : Int32) = nI 10000 from rfl, jirem_n (by omega) (by omega) (by omega)]).trans (congrArg nI (by omega))
  have g9 : jirem (nI G) 10 = nI (six % 10) := (show jirem (nI G) 10 = nI (G % 10) by rw [show (10 : Int32) = nI 10 from rfl, jirem_n (by omega) (by omega) (by omega)]).trans (congrArg nI (by omega))
  have g10 : jirem (nI G / 100) 1000 = nI (six / 100 % 1000) := (show jirem (nI G / 100) 1000 = nI (G / 100 % 1000) by rw [show (100 : Int32) = nI 100 from rfl, pk_div (by omega) (by omega) (by omega), show (1000 : Int32) = nI 1000 from rfl, jirem_n (by omega) (by omega) (by omega)]).trans (congrArg nI (by omega))
  have g11 : jirem (nI G / 100) 10000 = nI (six / 100) := (show jirem (nI G / 100) 10000 = nI (G / 100 % 10000) by rw [show (100 : Int32) = nI 100 from rfl, pk_div (by omega) (by omega) (by omega), show (10000 : Int32) = nI 10000 from rfl, jirem_n (by omega) (by omega) (by omega)]).trans (congrArg nI (by omega))
  have g12 : jirem (nI G / 1000) 100 = nI (six / 1000 % 100) := (show jirem (nI G / 1000) 100 = nI (G / 1000 % 100) by rw [show (1000 : Int32) = nI 1000 from rfl, pk_div (by omega) (by omega) (by omega), show (100 : Int32) = nI 100 from rfl, jirem_n (by omega) (by omega) (by omega)]).trans (congrArg nI (by omega))
  have g13 : jirem (nI G) 10000 = nI (six % 10000) := (show jirem (nI G) 10000 = nI (G % 10000) by rw [show (10000 : Int32) = nI 10000 from rfl, jirem_n (by omega) (by omega) (by omega)]).trans (congrArg nI (by omega))
  have g14 : jirem (nI G / 10) 100 = nI (six / 10 % 100) := (show jirem (nI G / 10) 100 = nI (G / 10 % 100) by rw [show (10 : Int32) = nI 10 from rfl, pk_div (by omega) (by omega) (by omega), show (100 : Int32) = nI 100 from rfl, jirem_n (by omega) (by omega) (by omega)]).trans (congrArg nI (by omega))
  unfold wp_X5_obeys
  rintro x1 rfl x2 rfl x3 rfl x4 rfl
  rw [g0, g1, g2, g3, g4, g5, g6, g7, g8, g9, g10, g11, g12, g13, g14]
  clear g0 g1 g2 g3 g4 g5 g6 g7 g8 g9 g10 g11 g12 g13 g14
  subst hG
  have qF : (cmS N how six) = (false, N) → Q 0 h := fun e => by rw [e] at q; exact q h Fr.rf hR
  have qT : (cmS N how six) = (true, N) → Q 1 h := fun e => by rw [e] at q; exact q h Fr.rf hR
  have qD : ∀ N' h', (cmS N how six) = (true, N') → Dn b N' h h' → Q 1 h' := fun N' h' e D => by rw [e] at q; exact q h' D.1 D.2.2
  rcases (by omega : how = 0 ∨ how = 1 ∨ how = 2 ∨ how = 3 ∨ how = 4 ∨ how = 5 ∨ how = 6 ∨ how = 7 ∨ how = 8 ∨ how = 9) with rfl | rfl | rfl | rfl | rfl | rfl | rfl | rfl | rfl | rfl
  · exact ⟨fun z => absurd z (by decide), fun z => absurd z (by decide), fun z => absurd z (by decide), fun z => absurd z (by decide), fun z => absurd z (by decide), fun z => absurd z (by decide), fun z => absurd z (by decide), fun z => absurd z (by decide), fun z => absurd z (by decide), fun _ _ _ _ _ _ _ _ _ => qF cs_0⟩
  · refine ⟨fun _ => ?_, fun z => absurd z (by decide), fun z => absurd z (by decide), fun z => absurd z (by decide), fun z => absurd z (by decide), fun z => absurd z (by decide), fun z => absurd z (by decide), fun z => absurd z (by decide), fun z => absurd z (by decide), by intros; contradiction⟩
    rw [z0 (by omega)]
    by_cases c : six / 1000 = 0
    · refine bt' c (pe_ticks hR hI (by omega) (fun z h' D => bf (by decide) (qD _ h' ?_ D)) (fun z => bt rfl (qF ?_)))
      · rw [cs_1, if_pos (by omega), show six % 1000 = six by omega]
      · rw [cs_1, if_neg (by omega)]
    · exact bf' c (qF (by rw [cs_1, if_neg (by omega)]))
  · refine ⟨fun z => absurd z (by decide), fun _ => ?_, fun z => absurd z (by decide), fun z => absurd z (by decide), fun z => absurd z (by decide), fun z => absurd z (by decide), fun z => absurd z (by decide), fun z => absurd z (by decide), fun z => absurd z (by decide), by intros; contradiction⟩
    by_cases c : six / 100000 < N 0 1 ∧ six / 10000 % 10 < N 0 0 ∧ six / 100 % 100 ≤ N (1 + six / 10000 % 10) 0 ∧ six % 100 ≤ N (1 + six / 10000 % 10) 0
    · refine pe_splice hR hI (by omega) (by omega) (by omega) (by omega) (fun z h' D => ⟨Or.inr rfl, qD _ h' ?_ D⟩) (fun z => ⟨Or.inl rfl, ?_⟩)
      · rw [cs_2, if_pos c, if_pos z.2.2.2.2]
      · have e : cmS N 2 six = (false, reF N) := by rw [cs_2, if_pos c, if_neg (fun w => z ⟨c.1, c.2.1, c.2.2.1, c.2.2.2, w⟩)]
        rw [e] at q
        exact q h Fr.rf hR.ref
    · refine pe_splice hR hI (by omega) (by omega) (by omega) (by omega) (fun z h' D => absurd ⟨z.1, z.2.1, z.2.2.1, z.2.2.2.1⟩ c) (fun z => ⟨Or.inl rfl, qF ?_⟩)
      rw [cs_2, if_neg c]
  · refine ⟨fun z => absurd z (by decide), fun z => absurd z (by decide), fun _ => ?_, fun z => absurd z (by decide), fun z => absurd z (by decide), fun z => absurd z (by decide), fun z => absurd z (by decide), fun z => absurd z (by decide), fun z => absurd z (by decide), by intros; contradiction⟩
    rw [z0 (by omega)]
    by_cases c : six % 1000 = 0
    · refine bt' c (pe_speed hR hI (by omega) (by omega) (by omega) (fun z h' D => bf (by decide) (qD _ h' ?_ D)) (fun z => bt rfl (qF ?_)))
      · rw [cs_3, if_pos ⟨c, z.1, z.2.1.1, z.2.2.1⟩]
      · rw [cs_3, if_neg (fun w => z ⟨w.2.1, ⟨w.2.2.1, by omega⟩, w.2.2.2, by omega⟩)]
    · exact bf' c (qF (by rw [cs_3, if_neg (fun w => c w.1)]))
  · refine ⟨fun z => absurd z (by decide), fun z => absurd z (by decide), fun z => absurd z (by decide), fun _ => ?_, fun z => absurd z (by decide), fun z => absurd z (by decide), fun z => absurd z (by decide), fun z => absurd z (by decide), fun z => absurd z (by decide), by intros; contradiction⟩
    rw [z0 (by omega)]
    by_cases c : six / 10 % 10000 = 0
    · refine bt' c ?_
      rw [li_1, nI_ltI (by omega) (by omega)]
      by_cases c2 : 1 < six % 10
      · exact bt c2 (qF (by rw [cs_4, if_neg (by omega)]))
      · refine bf c2 ?_
        rw [bi_n (by omega : six % 10 ≤ 1)]
        refine pe_mute hR hI (by omega) (fun z h' D => bf (by decide) (qD _ h' ?_ D)) (fun z => bt rfl (qF ?_))
        · rw [cs_4, if_pos ⟨by omega, z⟩]
        · rw [cs_4, if_neg (fun w => z w.2)]
    · exact bf' c (qF (by rw [cs_4, if_neg (by omega)]))
  · refine ⟨fun z => absurd z (by decide), fun z => absurd z (by decide), fun z => absurd z (by decide), fun z => absurd z (by decide), fun _ => ?_, fun z => absurd z (by decide), fun z => absurd z (by decide), fun z => absurd z (by decide), fun z => absurd z (by decide), by intros; contradiction⟩
    rw [z0 (by omega)]
    by_cases c : six / 100 % 1000 = 0
    · refine bt' c (pe_record hR hI (by omega) (by omega) (fun z h' D => bf (by decide) (qD _ h' ?_ D)) (fun z => bt rfl (qF ?_)))
      · rw [cs_5, if_pos ⟨by omega, z⟩]
      · rw [cs_5, if_neg (fun w => z w.2)]
    · exact bf' c (qF (by rw [cs_5, if_neg (by omega)]))
  · refine ⟨fun z => absurd z (by decide), fun z => absurd z (by decide), fun z => absurd z (by decide), fun z => absurd z (by decide), fun z => absurd z (by decide), fun _ => ?_, fun z => absurd z (by decide), fun z => absurd z (by decide), fun z => absurd z (by decide), by intros; contradiction⟩
    rw [z0 (by omega)]
    by_cases c : six / 100 = 0
    · refine bt' c (ok_soundBehind (n := 0) hR hI (by omega) ?_)
      have := snd_le (n := 0) hI
      rw [nI_ltI (by omega) (by omega)]
      by_cases c2 : sndN N 0 < six % 100
      · exact bt c2 (qF (by rw [cs_6, if_neg (by omega)]))
      · exact bf c2 (qT (by rw [cs_6, if_pos (by omega)]))
    · exact bf' c (qF (by rw [cs_6, if_neg (by omega)]))
  · refine ⟨fun z => absurd z (by decide), fun z => absurd z (by decide), fun z => absurd z (by decide), fun z => absurd z (by decide), fun z => absurd z (by decide), fun z => absurd z (by decide), fun _ => ?_, fun z => absurd z (by decide), fun z => absurd z (by decide), by intros; contradiction⟩
    rw [z0 (by omega)]
    by_cases c : six / 1000 % 100 = 0
    · refine bt' c ?_
      by_cases c1 : six / 100000 < N 0 1
      · refine ok_loopAt hR hI c1 (ok_hasPhase hR hI c1 (by omega) ?_)
        by_cases c2 : N (4 + six / 100000) 3 = six % 1000
        · rw [decide_eq_true c2]
          exact bf (by decide) (qT (by rw [cs_7, if_pos ⟨by omega, c1, by omega⟩]))
        · rw [decide_eq_false c2]
          exact bt rfl (qF (by rw [cs_7, if_neg (fun w => c2 (by omega))]))
      · refine ok_loopAtN hR hI (by rw [inB_n (by omega) (by omega)]; omega) ?_
        unfold wp_X5_hasPhase
        exact sm_n (bt rfl (qF (by rw [cs_7, if_neg (fun w => c1 w.2.1)])))
    · exact bf' c (qF (by rw [cs_7, if_neg (by omega)]))
  · refine ⟨fun z => absurd z (by decide), fun z => absurd z (by decide), fun z => absurd z (by decide), fun z => absurd z (by decide), fun z => absurd z (by decide), fun z => absurd z (by decide), fun z => absurd z (by decide), fun _ => ?_, fun z => absurd z (by decide), by intros; contradiction⟩
    rw [z0 (by omega)]
    by_cases c : six % 10000 = 0
    · refine bt' c ?_
      by_cases c1 : six / 100000 < N 0 1
      · refine ok_loopAt hR hI c1 (ok_isAtZero hR hI c1 ?_)
        cases e1 : (decide (0 < N (4 + six / 100000) 0) && decide (N (4 + six / 100000) 3 = 0)) with
        | false =>
          refine bt rfl (qF ?_)
          rw [cs_8, if_neg (fun w => ?_)]
          rw [decide_eq_true w.2.2.2.1, decide_eq_true (by omega)] at e1
          cases e1
        | true =>
          rw [Bool.and_eq_true, decide_eq_true_eq, decide_eq_true_eq] at e1
          refine bf (by decide) ?_
          by_cases c2 : six / 10000 % 10 < N 0 1
          · refine ok_loopAt hR hI c2 (ok_isAtZero hR hI c2 ?_)
            cases e2 : (decide (0 < N (4 + six / 10000 % 10) 0) && decide (N (4 + six / 10000 % 10) 3 = 0)) with
            | false =>
              refine bt rfl (qF ?_)
              rw [cs_8, if_neg (fun w => ?_)]
              rw [decide_eq_true w.2.2.2.2.1, decide_eq_true (by omega)] at e2
              cases e2
            | true =>
              rw [Bool.and_eq_true, decide_eq_true_eq, decide_eq_true_eq] at e2
              refine bf (by decide) (qT ?_)
              rw [cs_8, if_pos ⟨c, c1, c2, e1.1, e2.1, by omega⟩]
          · refine ok_loopAtN hR hI (by rw [inB_n (by omega) (by omega)]; omega) ?_
            unfold wp_X5_isAtZero
            exact sm_n (bt rfl (qF (by rw [cs_8, if_neg (fun w => c2 w.2.2.1)])))
      · refine ok_loopAtN hR hI (by rw [inB_n (by omega) (by omega)]; omega) ?_
        unfold wp_X5_isAtZero
        exact sm_n (bt rfl (qF (by rw [cs_8, if_neg (fun w => c1 w.2.1)])))
    · exact bf' c (qF (by rw [cs_8, if_neg (fun w => c w.1)]))
  · refine ⟨fun z => absurd z (by decide), fun z => absurd z (by decide), fun z => absurd z (by decide), fun z => absurd z (by decide), fun z => absurd z (by decide), fun z => absurd z (by decide), fun z => absurd z (by decide), fun z => absurd z (by decide), fun _ => ?_, by intros; contradiction⟩
    rw [z0 (by omega)]
    by_cases c : six / 1000 % 100 = 0
    · refine bt' c ?_
      have e10 : six / 10 % 100 = six % 100000 / 10 := by omega
      by_cases c1 : six / 100000 < N 0 0
      · refine ok_reelAt hR hI c1 (ok_hasSound hR hI c1 (by omega) (by omega) ?_)
        rw [e10]
        cases e1 : (decide (six % 100000 / 10 < N (1 + six / 100000) 0) && decide (N (1 + six / 100000) (1 + six % 100000 / 10) = six % 10)) with
        | false =>
          refine bt rfl (qF ?_)
          rw [cs_9, if_neg (fun w => ?_)]
          rw [decide_eq_true w.2.2.1, decide_eq_true w.2.2.2] at e1
          cases e1
        | true =>
          rw [Bool.and_eq_true, decide_eq_true_eq, decide_eq_true_eq] at e1
          exact bf (by decide) (qT (by rw [cs_9, if_pos ⟨by omega, c1, e1.1, e1.2⟩]))
      · refine ok_reelAtN hR hI (by rw [inB_n (by omega) (by omega)]; omega) ?_
        unfold wp_X5_hasSound
        exact sm_n (bt rfl (qF (by rw [cs_9, if_neg (fun w => c1 w.2.1)])))
    · exact bf' c (qF (by rw [cs_9, if_neg (by omega)]))
theorem mo_command {how six : Nat} {N : Nat → Nat → Nat} {h : PH} {Q : Int32 → PH → Prop} (hM : Mw (h 347) N) (hI : Inv N) (hh : how ≤ 9) (hs : six < 1000000) (q : ∀ h', Fr 347 1 h h' → Mw (h' 347) (cmS N how six).2 → Q (bi (cmS N how six).1) h') : wp_X8_command 344 (nI how) (nI six) h Q := by
  have i3 := hI.1
  have i4 := hI.2.1
  have g0 : nI six / 100000 = nI (six / 100000) := (show nI six / 100000 = nI (six / 100000) by rw [show (100000 : Int32) = nI 100000 from rfl, pk_div (by omega) (by omega) (by omega)]).trans (congrArg nI (by omega))
  have g1 : jirem (nI six / 10000) 10 = nI (six / 10000 % 10) := (show jirem (nI six / 10000) 10 = nI (six / 10000 % 10) by rw [show (10000 : Int32) = nI 10000 from rfl, pk_div (by omega) (by omega) (by omega), show (10 : Int32) = nI 10 from rfl, jirem_n (by omega) (by omega) (by omega)]).trans (congrArg nI (by omega))
  have g2 : jirem (nI six / 1000) 10 = nI (six / 1000 % 10) := (show jirem (nI six / 1000) 10 = nI (six / 1000 % 10) by rw [show (1000 : Int32) = nI 1000 from rfl, pk_div (by omega) (by omega) (by omega), show (10 : Int32) = nI 10 from rfl, jirem_n (by omega) (by omega) (by omega)]).trans (congrArg nI (by omega))
  have g3 : jirem (nI six) 1000 = nI (six % 1000) := (show jirem (nI six) 1000 = nI (six % 1000) by rw [show (1000 : Int32) = nI 1000 from rfl, jirem_n (by omega) (by omega) (by omega)]).trans (congrArg nI (by omega))
  have g4 : jirem (nI six / 100) 100 = nI (six / 100 % 100) := (show jirem (nI six / 100) 100 = nI (six / 100 % 100) by rw [show (100 : Int32) = nI 100 from rfl, pk_div (by omega) (by omega) (by omega), jirem_n (by omega) (by omega) (by omega)]).trans (congrArg nI (by omega))
  have g5 : jirem (nI six) 100 = nI (six % 100) := (show jirem (nI six) 100 = nI (six % 100) by rw [show (100 : Int32) = nI 100 from rfl, jirem_n (by omega) (by omega) (by omega)]).trans (congrArg nI (by omega))
  have g6 : jirem (nI six) 10 = nI (six % 10) := (show jirem (nI six) 10 = nI (six % 10) by rw [show (10 : Int32) = nI 10 from rfl, jirem_n (by omega) (by omega) (by omega)]).trans (congrArg nI (by omega))
  have g7 : jirem (nI six) 100000 = nI (six % 100000) := (show jirem (nI six) 100000 = nI (six % 100000) by rw [show (100000 : Int32) = nI 100000 from rfl, jirem_n (by omega) (by omega) (by omega)]).trans (congrArg nI (by omega))
  have g8 : jirem (nI six) 10000 = nI (six % 10000) := (show jirem (nI six) 10000 = nI (six % 10000) by rw [show (10000 : Int32) = nI 10000 from rfl, jirem_n (by omega) (by omega) (by omega)]).trans (congrArg nI (by omega))
  have g9 : nI (six % 100000) / 10 = nI (six % 100000 / 10) := by rw [show (10 : Int32) = nI 10 from rfl, pk_div (by omega) (by omega) (by omega)]
  unfold wp_X8_command
  rintro x1 rfl x2 rfl x3 rfl x4 rfl x5 rfl x6 rfl x7 rfl x8 rfl
  rw [g0, g1, g2, g3, g4, g5, g6, g7, g8, g9]
  clear g0 g1 g2 g3 g4 g5 g6 g7 g8 g9
  have qF : (cmS N how six) = (false, N) → Q 0 h := fun e => by rw [e] at q; exact q h Fr.rf hM
  have qT : (cmS N how six) = (true, N) → Q 1 h := fun e => by rw [e] at q; exact q h Fr.rf hM
  have qD : ∀ N' h', (cmS N how six) = (true, N') → Fr 347 1 h h' → Mw (h' 347) N' → Q 1 h' := fun N' h' e F M => by rw [e] at q; exact q h' F M
  rcases (by omega : how = 0 ∨ how = 1 ∨ how = 2 ∨ how = 3 ∨ how = 4 ∨ how = 5 ∨ how = 6 ∨ how = 7 ∨ how = 8 ∨ how = 9) with rfl | rfl | rfl | rfl | rfl | rfl | rfl | rfl | rfl | rfl
  · exact ⟨fun z => absurd z (by decide), fun z => absurd z (by decide), fun z => absurd z (by decide), fun z => absurd z (by decide), fun z => absurd z (by decide), fun z => absurd z (by decide), fun z => absurd z (by decide), fun z => absurd z (by decide), fun z => absurd z (by decide), fun _ _ _ _ _ _ _ _ _ => qF cs_0⟩
  · refine ⟨fun _ => ?_, fun z => absurd z (by decide), fun z => absurd z (by decide), fun z => absurd z (by decide), fun z => absurd z (by decide), fun z => absurd z (by decide), fun z => absurd z (by decide), fun z => absurd z (by decide), fun z => absurd z (by decide), by intros; contradiction⟩
    by_cases c : 1 ≤ six ∧ six ≤ 999
    · exact in_in (lo := 1) (hi := 999) c.1 c.2 (by omega) (bf (by decide) (mo_goOn al_347 hM hI c.2 (fun h' F M => bf (nI_pos (by have := snd_le (N := gnN N six) (n := 0) hI.go; omega)) (qD _ h' (by rw [cs_1, if_pos c]) F M))))
    · exact in_out (lo := 1) (hi := 999) (by rw [inB_n (by omega) (by omega)]; omega) (by omega) (by omega) (bt rfl (qF (by rw [cs_1, if_neg c])))
  · refine ⟨fun z => absurd z (by decide), fun _ => ?_, fun z => absurd z (by decide), fun z => absurd z (by decide), fun z => absurd z (by decide), fun z => absurd z (by decide), fun z => absurd z (by decide), fun z => absurd z (by decide), fun z => absurd z (by decide), by intros; contradiction⟩
    by_cases c1 : six / 100000 < N 0 1
    · refine mo_isLoop al_347 hM hI c1 (bf (by decide) ?_)
      by_cases c2 : six / 10000 % 10 < N 0 0
      · have i60 := (hI.ir c2).1
        by_cases c3 : six / 100 % 100 ≤ N (1 + six / 10000 % 10) 0
        · refine mo_isPlace al_347 hM hI c2 c3 (bf (by decide) ?_)
          by_cases c4 : six % 100 ≤ N (1 + six / 10000 % 10) 0
          · refine mo_isPlace al_347 hM hI c2 c4 (bf (by decide) ?_)
            have r6 := rsN_lt (N := N) (l := six / 100000) (r := six / 10000 % 10) (x := six / 100 % 100) (y := six % 100)
            refine mo_spliceOn al_347 hM hI c1 c2 c3 c4 (fun e h' F M => bt' rfl (qD _ h' ?_ F M)) (fun e h' F M => bf' ?_ ?_)
            · rw [cs_2, if_pos ⟨c1, c2, c3, c4⟩, if_pos e]
            · rw [z0 (by omega)]; exact e
            · have ee : cmS N 2 six = (false, reF N) := by rw [cs_2, if_pos ⟨c1, c2, c3, c4⟩, if_neg e]
              rw [ee] at q
              exact q h' F M
          · exact mo_isPlaceN2 al_347 hM hI c2 (by rw [inB_n (by omega) (by omega)]; omega) (bt rfl (qF (by rw [cs_2, if_neg (fun w => c4 w.2.2.2)])))
        · exact mo_isPlaceN2 al_347 hM hI c2 (by rw [inB_n (by omega) (by omega)]; omega) (bt rfl (qF (by rw [cs_2, if_neg (fun w => c3 w.2.2.1)])))
      · exact mo_isPlaceN1 al_347 hM hI (by rw [inB_n (by omega) (by omega)]; omega) (bt rfl (qF (by rw [cs_2, if_neg (fun w => c2 w.2.1)])))
    · exact mo_isLoopN al_347 hM hI (by rw [inB_n (by omega) (by omega)]; omega) (bt rfl (qF (by rw [cs_2, if_neg (fun w => c1 w.1)])))
  · refine ⟨fun z => absurd z (by decide), fun z => absurd z (by decide), fun _ => ?_, fun z => absurd z (by decide), fun z => absurd z (by decide), fun z => absurd z (by decide), fun z => absurd z (by decide), fun z => absurd z (by decide), fun z => absurd z (by decide), by intros; contradiction⟩
    rw [z0 (by omega)]
    by_cases c : six % 1000 = 0
    · refine bt' c ?_
      by_cases c1 : six / 100000 < N 0 1
      · refine mo_isLoop al_347 hM hI c1 (bf (by decide) ?_)
        rw [li_0, nI_leI (by omega) (by omega), nI_leI (by omega) (by omega)]
        by_cases c2 : six / 10000 % 10 ≤ 0
        · exact bt c2 (qF (by rw [cs_3, if_neg (fun w => by omega)]))
        · refine bf c2 ?_
          by_cases c3 : six / 1000 % 10 ≤ 0
          · exact bt c3 (qF (by rw [cs_3, if_neg (fun w => by omega)]))
          · have p1 := (hI.il c1).ph
            have pd : N (4 + six / 100000) 3 / N (4 + six / 100000) 2 * (six / 1000 % 10) ≤ 432 * 9 := Nat.mul_le_mul (Nat.le_trans (Nat.div_le_self _ _) p1) (by omega)
            exact bf c3 (mo_speedOn al_347 hM hI c1 (by omega) (fun h' F M => bf (nI_pos (by omega)) (qD _ h' (by rw [cs_3, if_pos ⟨c, c1, by omega, by omega⟩]) F M)))
      · exact mo_isLoopN al_347 hM hI (by rw [inB_n (by omega) (by omega)]; omega) (bt rfl (qF (by rw [cs_3, if_neg (fun w => c1 w.2.1)])))
    · exact bf' c (qF (by rw [cs_3, if_neg (fun w => c w.1)]))
  · refine ⟨fun z => absurd z (by decide), fun z => absurd z (by decide), fun z => absurd z (by decide), fun _ => ?_, fun z => absurd z (by decide), fun z => absurd z (by decide), fun z => absurd z (by decide), fun z => absurd z (by decide), fun z => absurd z (by decide), by intros; contradiction⟩
    rw [li_2, nI_leI (by omega) (by omega)]
    by_cases c : 2 ≤ six % 100000
    · exact bt c (qF (by rw [cs_4, if_neg (by omega)]))
    · refine bf c ?_
      by_cases c1 : six / 100000 < N 0 1
      · refine mo_isLoop al_347 hM hI c1 (bf (by decide) ?_)
        rw [z1 (by omega)]
        by_cases c2 : six % 10 = 1
        · refine bt' c2 (mo_muteOn (m := true) al_347 hM hI c1 (fun h' F M => bf (nI_pos (by have := snd_le (N := muS N (six / 100000) true.toNat) (n := 0) (hI.setL c1 ((hI.il c1).mu (by decide))); omega)) (qD _ h' ?_ F M)))
          rw [cs_4, if_pos ⟨by omega, c1⟩, decide_eq_true c2]
        · refine bf' c2 (mo_muteOn (m := false) al_347 hM hI c1 (fun h' F M => bf (nI_pos (by have := snd_le (N := muS N (six / 100000) false.toNat) (n := 0) (hI.setL c1 ((hI.il c1).mu (by decide))); omega)) (qD _ h' ?_ F M)))
          rw [cs_4, if_pos ⟨by omega, c1⟩, decide_eq_false c2]
      · exact mo_isLoopN al_347 hM hI (by rw [inB_n (by omega) (by omega)]; omega) (bt rfl (qF (by rw [cs_4, if_neg (fun w => c1 w.2)])))
  · refine ⟨fun z => absurd z (by decide), fun z => absurd z (by decide), fun z => absurd z (by decide), fun z => absurd z (by decide), fun _ => ?_, fun z => absurd z (by decide), fun z => absurd z (by decide), fun z => absurd z (by decide), fun z => absurd z (by decide), by intros; contradiction⟩
    rw [show (100 : Int32) = nI 100 from rfl, nI_leI (by omega) (by omega)]
    by_cases c : 100 ≤ six % 100000
    · exact bt c (qF (by rw [cs_5, if_neg (by omega)]))
    · refine bf c ?_
      by_cases c1 : six / 100000 < N 0 0
      · have i60 := (hI.ir c1).1
        refine mo_isReel al_347 hM hI c1 (bf (by decide) (mo_cells al_347 (hM.r (by omega)) (by omega) ?_))
        rw [nI_l (by omega : N (1 + six / 100000) 0 < 2 ^ 31)]
        by_cases c2 : 1 ≤ six % 100 ∧ six % 100 ≤ N (1 + six / 100000) 0
        · have rl := rcV_le (N := N) (n := six % 100) (r := six / 100000) hI c1 c2.2
          exact in_in (lo := 1) c2.1 c2.2 (by omega) (bf (by decide) (mo_recordOn al_347 hM hI c1 c2.2 (fun h' F M => bf (nI_pos (by omega)) (qD _ h' (by rw [cs_5, if_pos ⟨by omega, c1, c2⟩]) F M))))
        · exact in_out (lo := 1) (by rw [inB_n (by omega) (by omega)]; omega) (by omega) (by omega) (bt rfl (qF (by rw [cs_5, if_neg (fun w => c2 w.2.2)])))
      · exact mo_isReelN al_347 hM hI (by rw [inB_n (by omega) (by omega)]; omega) (bt rfl (qF (by rw [cs_5, if_neg (fun w => c1 w.2.1)])))
  · refine ⟨fun z => absurd z (by decide), fun z => absurd z (by decide), fun z => absurd z (by decide), fun z => absurd z (by decide), fun z => absurd z (by decide), fun _ => ?_, fun z => absurd z (by decide), fun z => absurd z (by decide), fun z => absurd z (by decide), by intros; contradiction⟩
    rw [show (100 : Int32) = nI 100 from rfl, nI_leI (by omega) (by omega)]
    by_cases c : 100 ≤ six
    · exact bt c (qF (by rw [cs_6, if_neg (by omega)]))
    · refine bf c (mo_soundLater (n := 0) al_347 hM hI (by omega) ?_)
      have := snd_le (n := 0) hI
      rw [nI_ltI (by omega) (by omega)]
      by_cases c2 : sndN N 0 < six
      · exact bt c2 (qF (by rw [cs_6, if_neg (by omega)]))
      · exact bf c2 (qT (by rw [cs_6, if_pos (by omega)]))
  · refine ⟨fun z => absurd z (by decide), fun z => absurd z (by decide), fun z => absurd z (by decide), fun z => absurd z (by decide), fun z => absurd z (by decide), fun z => absurd z (by decide), fun _ => ?_, fun z => absurd z (by decide), fun z => absurd z (by decide), by intros; contradiction⟩
    rw [show (1000 : Int32) = nI 1000 from rfl, nI_leI (by omega) (by omega)]
    by_cases c : 1000 ≤ six % 100000
    · exact bt c (qF (by rw [cs_7, if_neg (by omega)]))
    · refine bf c ?_
      by_cases c1 : six / 100000 < N 0 1
      · have p1 := (hI.il c1).ph
        refine mo_isLoop al_347 hM hI c1 (bf (by decide) (mo_of (u := 3) al_347 (hM.l (by omega)) (by omega) (by omega) ?_))
        rw [nI_eq (by omega) (by omega)]
        by_cases c2 : N (4 + six / 100000) 3 = six % 100000
        · exact bt' c2 (qT (by rw [cs_7, if_pos ⟨by omega, c1, c2⟩]))
        · exact bf' c2 (qF (by rw [cs_7, if_neg (fun w => c2 w.2.2)]))
      · exact mo_isLoopN al_347 hM hI (by rw [inB_n (by omega) (by omega)]; omega) (bt rfl (qF (by rw [cs_7, if_neg (fun w => c1 w.2.1)])))
  · refine ⟨fun z => absurd z (by decide), fun z => absurd z (by decide), fun z => absurd z (by decide), fun z => absurd z (by decide), fun z => absurd z (by decide), fun z => absurd z (by decide), fun z => absurd z (by decide), fun _ => ?_, fun z => absurd z (by decide), by intros; contradiction⟩
    rw [z0 (by omega)]
    by_cases c : six % 10000 = 0
    · refine bt' c ?_
      unfold wp_X8_meetNow
      by_cases c1 : six / 100000 < N 0 1
      · have a1 := (hI.il c1).1
        have a2 := (hI.il c1).ph
        refine mo_isLoop al_347 hM hI c1 (bf (by decide) ?_)
        by_cases c2 : six / 10000 % 10 < N 0 1
        · have a3 := (hI.il c2).1
          have a4 := (hI.il c2).ph
          refine mo_isLoop al_347 hM hI c2 (bf (by decide) (mo_of (u := 0) al_347 (hM.l (by omega)) (by omega) (by omega) ?_))
          rw [li_0, nI_leI (by omega) (by omega)]
          by_cases c3 : N (4 + six / 100000) 0 ≤ 0
          · exact bt c3 (bt rfl (qF (by rw [cs_8, if_neg (fun w => by omega)])))
          · refine bf c3 (mo_of (u := 0) al_347 (hM.l (by omega)) (by omega) (by omega) ?_)
            rw [nI_leI (by omega) (by omega)]
            by_cases c4 : N (4 + six / 10000 % 10) 0 ≤ 0
            · exact bt c4 (bt rfl (qF (by rw [cs_8, if_neg (fun w => by omega)])))
            · refine bf c4 (mo_of (u := 3) al_347 (hM.l (by omega)) (by omega) (by omega) (mo_of (u := 3) al_347 (hM.l (by omega)) (by omega) (by omega) ?_))
              rw [nI_add, nI_eq (by omega) (by omega)]
              by_cases c5 : N (4 + six / 100000) 3 + N (4 + six / 10000 % 10) 3 = 0
              · exact bt' c5 (bf (by decide) (qT (by rw [cs_8, if_pos ⟨c, c1, c2, by omega, by omega, c5⟩])))
              · exact bf' c5 (bt rfl (qF (by rw [cs_8, if_neg (fun w => c5 w.2.2.2.2.2)])))
        · exact mo_isLoopN al_347 hM hI (by rw [inB_n (by omega) (by omega)]; omega) (bt rfl (bt rfl (qF (by rw [cs_8, if_neg (fun w => c2 w.2.2.1)]))))
      · exact mo_isLoopN al_347 hM hI (by rw [inB_n (by omega) (by omega)]; omega) (bt rfl (bt rfl (qF (by rw [cs_8, if_neg (fun w => c1 w.2.1)]))))
    · exact bf' c (qF (by rw [cs_8, if_neg (fun w => c w.1)]))
  · refine ⟨fun z => absurd z (by decide), fun z => absurd z (by decide), fun z => absurd z (by decide), fun z => absurd z (by decide), fun z => absurd z (by decide), fun z => absurd z (by decide), fun z => absurd z (by decide), fun z => absurd z (by decide), fun _ => ?_, by intros; contradiction⟩
    rw [show (1000 : Int32) = nI 1000 from rfl, nI_leI (by omega) (by omega)]
    by_cases c : 1000 ≤ six % 100000
    · exact bt c (qF (by rw [cs_9, if_neg (by omega)]))
    · refine bf c ?_
      by_cases c1 : six / 100000 < N 0 0
      · have i60 := (hI.ir c1).1
        by_cases c2 : six % 100000 / 10 < N (1 + six / 100000) 0
        · have i9 := (hI.ir c1).2 _ c2
          refine mo_isCell al_347 hM hI c1 c2 (bf (by decide) (mo_soundAt al_347 (hM.r (by omega)) (by omega) (by omega) ?_))
          rw [nI_eq (by omega) (by omega)]
          by_cases c3 : N (1 + six / 100000) (1 + six % 100000 / 10) = six % 10
          · exact bt' c3 (qT (by rw [cs_9, if_pos ⟨by omega, c1, c2, c3⟩]))
          · exact bf' c3 (qF (by rw [cs_9, if_neg (fun w => c3 w.2.2.2)]))
        · exact mo_isCellN2 al_347 hM hI c1 (by rw [inB_n (by omega) (by omega)]; omega) (bt rfl (qF (by rw [cs_9, if_neg (fun w => c2 w.2.2.1)])))
      · exact mo_isCellN1 al_347 hM hI (by rw [inB_n (by omega) (by omega)]; omega) (bt rfl (qF (by rw [cs_9, if_neg (fun w => c1 w.2.1)])))
