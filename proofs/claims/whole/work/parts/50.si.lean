def tnS (N : Nat → Nat → Nat) (how q : Nat) : Nat → Nat → Nat :=
  if how = 0 then (if N 0 0 < 3 then adR N (2 + q % 59) else N)
  else if how = 1 then (if N 0 1 < 4 then adL N else N)
  else if how < 5 then (if q % 3 < N 0 0 ∧ q / 4 % 60 < N (1 + q % 3) 0 ∧ q / 4 % 60 + q / 256 % 8 < N (1 + q % 3) 0 then paS N (q % 3) (q / 4 % 60) (q / 4 % 60 + q / 256 % 8) (q / 2048 % 10) else N)
  else if how < 9 then (if q % 4 < N 0 1 ∧ q / 4 % 3 < N 0 0 ∧ q / 16 % 61 ≤ N (1 + q / 4 % 3) 0 ∧ q / 16 % 61 + 1 + q / 1024 % 20 ≤ N (1 + q / 4 % 3) 0 then (if rsN N (q % 4) (q / 4 % 3) (q / 16 % 61) (q / 16 % 61 + 1 + q / 1024 % 20) = 0 then jnS N (q % 4) (q / 4 % 3) (q / 16 % 61) (q / 16 % 61 + 1 + q / 1024 % 20) else reF N) else N)
  else if how = 9 then (if q % 4 < N 0 1 then spS N (q % 4) (1 + q / 4 % 9) (1 + q / 64 % 9) else N)
  else if how = 10 then (if q % 4 < N 0 1 then (if q / 8 % 2 = 0 then muS N (q % 4) (decide (q / 4 % 2 = 1)).toNat else if N (4 + q % 4) 0 = 0 then N else toS N (q % 4)) else N)
  else if how = 11 then (if q % 3 < N 0 0 ∧ 1 + q / 4 % 40 ≤ N (1 + q % 3) 0 then rcS N (q % 3) (1 + q / 4 % 40) else N)
  else (gnN N (1 + q % 50))
theorem ts_0 {N : Nat → Nat → Nat} {how q : Nat} (h : how = 0) : tnS N how q = (if N 0 0 < 3 then adR N (2 + q % 59) else N) := by unfold tnS; rw [if_pos (by omega)]
theorem ts_1 {N : Nat → Nat → Nat} {how q : Nat} (h : how = 1) : tnS N how q = (if N 0 1 < 4 then adL N else N) := by unfold tnS; rw [if_neg (by omega), if_pos (by omega)]
theorem ts_p {N : Nat → Nat → Nat} {how q : Nat} (h : 1 < how ∧ how < 5) : tnS N how q = (if q % 3 < N 0 0 ∧ q / 4 % 60 < N (1 + q % 3) 0 ∧ q / 4 % 60 + q / 256 % 8 < N (1 + q % 3) 0 then paS N (q % 3) (q / 4 % 60) (q / 4 % 60 + q / 256 % 8) (q / 2048 % 10) else N) := by unfold tnS; rw [if_neg (by omega), if_neg (by omega), if_pos (by omega)]
theorem ts_c {N : Nat → Nat → Nat} {how q : Nat} (h : 4 < how ∧ how < 9) : tnS N how q = (if q % 4 < N 0 1 ∧ q / 4 % 3 < N 0 0 ∧ q / 16 % 61 ≤ N (1 + q / 4 % 3) 0 ∧ q / 16 % 61 + 1 + q / 1024 % 20 ≤ N (1 + q / 4 % 3) 0 then (if rsN N (q % 4) (q / 4 % 3) (q / 16 % 61) (q / 16 % 61 + 1 + q / 1024 % 20) = 0 then jnS N (q % 4) (q / 4 % 3) (q / 16 % 61) (q / 16 % 61 + 1 + q / 1024 % 20) else reF N) else N) := by unfold tnS; rw [if_neg (by omega), if_neg (by omega), if_neg (by omega), if_pos (by omega)]
theorem ts_9 {N : Nat → Nat → Nat} {how q : Nat} (h : how = 9) : tnS N how q = (if q % 4 < N 0 1 then spS N (q % 4) (1 + q / 4 % 9) (1 + q / 64 % 9) else N) := by unfold tnS; rw [if_neg (by omega), if_neg (by omega), if_neg (by omega), if_neg (by omega), if_pos (by omega)]
theorem ts_10 {N : Nat → Nat → Nat} {how q : Nat} (h : how = 10) : tnS N how q = (if q % 4 < N 0 1 then (if q / 8 % 2 = 0 then muS N (q % 4) (decide (q / 4 % 2 = 1)).toNat else if N (4 + q % 4) 0 = 0 then N else toS N (q % 4)) else N) := by unfold tnS; rw [if_neg (by omega), if_neg (by omega), if_neg (by omega), if_neg (by omega), if_neg (by omega), if_pos (by omega)]
theorem ts_11 {N : Nat → Nat → Nat} {how q : Nat} (h : how = 11) : tnS N how q = (if q % 3 < N 0 0 ∧ 1 + q / 4 % 40 ≤ N (1 + q % 3) 0 then rcS N (q % 3) (1 + q / 4 % 40) else N) := by unfold tnS; rw [if_neg (by omega), if_neg (by omega), if_neg (by omega), if_neg (by omega), if_neg (by omega), if_neg (by omega), if_pos (by omega)]
theorem ts_t {N : Nat → Nat → Nat} {how q : Nat} (h : 11 < how) : tnS N how q = (gnN N (1 + q % 50)) := by unfold tnS; rw [if_neg (by omega), if_neg (by omega), if_neg (by omega), if_neg (by omega), if_neg (by omega), if_neg (by omega), if_neg (by omega)]

theorem ts_inv {N : Nat → Nat → Nat} {how q : Nat} (hI : Inv N) : Inv (tnS N how q) := by
  rcases (by omega : how = 0 ∨ how = 1 ∨ (1 < how ∧ how < 5) ∨ (4 < how ∧ how < 9) ∨ how = 9 ∨ how = 10 ∨ how = 11 ∨ 11 < how) with h | h | h | h | h | h | h | h
  · rw [ts_0 h]
    split
    · rename_i c; exact hI.adR c (by omega)
    · exact hI
  · rw [ts_1 h]
    split
    · rename_i c; exact hI.adL c
    · exact hI
  · rw [ts_p h]
    split
    · rename_i c; exact hI.setR c.1 ((hI.ir c.1).pa (by omega))
    · exact hI
  · rw [ts_c h]
    split
    · rename_i c
      split
      · rename_i e; exact jn_inv hI c.1 c.2.1 c.2.2.2 e
      · exact hI.rf
    · exact hI
  · rw [ts_9 h]
    split
    · rename_i c; exact hI.setL c ((hI.il c).sp (by omega) (by omega))
    · exact hI
  · rw [ts_10 h]
    split
    · rename_i c
      split
      · exact hI.setL c ((hI.il c).mu (by cases decide (q / 4 % 2 = 1) <;> decide))
      · split
        · exact hI
        · rename_i e
          exact hI.setL c ((hI.il c).to ((hI.il c).some (by omega)))
    · exact hI
  · rw [ts_11 h]
    split
    · rename_i c; exact hI.rc c.1
    · exact hI
  · rw [ts_t h]; exact hI.go

theorem ok_turn {R how q : Nat} {N : Nat → Nat → Nat} {h : PH} {Q : PH → Prop} (hR : Rl 22 N h) (hI : Inv N) (hq : q < 134217728) (hh : how < 16) (hG : R = q * 16 + how) (k : ∀ h', Fr 22 21 h h' → Rl 22 (tnS N how q) h' → Q h') : wp_X7_takeTurn 0 (nI R) h Q := by
  have i3 := hI.1
  have i4 := hI.2.1
  have g0 : jirem (nI q) 59 = nI (q % 59) := (show jirem (nI q) 59 = nI (q % 59) by rw [show (59 : Int32) = nI 59 from rfl, jirem_n (by omega) (by omega) (by omega)]).trans (congrArg nI (by omega))
  have g1 : jirem (nI q) 3 = nI (q % 3) := (show jirem (nI q) 3 = nI (q % 3) by rw [show (3 : Int32) = nI 3 from rfl, jirem_n (by omega) (by omega) (by omega)]).trans (congrArg nI (by omega))
  have g2 : jirem (nI q / 4) 60 = nI (q / 4 % 60) := (show jirem (nI q / 4) 60 = nI (q / 4 % 60) by rw [show (4 : Int32) = nI 4 from rfl, pk_div (by omega) (by omega) (by omega), show (60 : Int32) = nI 60 from rfl, jirem_n (by omega) (by omega) (by omega)]).trans (congrArg nI (by omega))
  have g3 : jirem (nI q / 256) 8 = nI (q / 256 % 8) := (show jirem (nI q / 256) 8 = nI (q / 256 % 8) by rw [show (256 : Int32) = nI 256 from rfl, pk_div (by omega) (by omega) (by omega), show (8 : Int32) = nI 8 from rfl, jirem_n (by omega) (by omega) (by omega)]).trans (congrArg nI (by omega))
  have g4 : jirem (nI q / 2048) 10 = nI (q / 2048 % 10) := (show jirem (nI q / 2048) 10 = nI (q / 2048 % 10) by rw [show (2048 : Int32) = nI 2048 from rfl, pk_div (by omega) (by omega) (by omega), show (10 : Int32) = nI 10 from rfl, jirem_n (by omega) (by omega) (by omega)]).trans (congrArg nI (by omega))
  have g5 : jirem (nI q) 4 = nI (q % 4) := (show jirem (nI q) 4 = nI (q % 4) by rw [show (4 : Int32) = nI 4 from rfl, jirem_n (by omega) (by omega) (by omega)]).trans (congrArg nI (by omega))
  have g6 : jirem (nI q / 4) 3 = nI (q / 4 % 3) := (show jirem (nI q / 4) 3 = nI (q / 4 % 3) by rw [show (4 : Int32) = nI 4 from rfl, pk_div (by omega) (by omega) (by omega), show (3 : Int32) = nI 3 from rfl, jirem_n (by omega) (by omega) (by omega)]).trans (congrArg nI (by omega))
  have g7 : jirem (nI q / 16) 61 = nI (q / 16 % 61) := (show jirem (nI q / 16) 61 = nI (q / 16 % 61) by rw [show (16 : Int32) = nI 16 from rfl, pk_div (by omega) (by omega) (by omega), show (61 : Int32) = nI 61 from rfl, jirem_n (by omega) (by omega) (by omega)]).trans (congrArg nI (by omega))
  have g8 : jirem (nI q / 1024) 20 = nI (q / 1024 % 20) := (show jirem (nI q / 1024) 20 = nI (q / 1024 % 20) by rw [show (1024 : Int32) = nI 1024 from rfl, pk_div (by omega) (by omega) (by omega), show (20 : Int32) = nI 20 from rfl, jirem_n (by omega) (by omega) (by omega)]).trans (congrArg nI (by omega))
  have g9 : jirem (nI q / 4) 9 = nI (q / 4 % 9) := (show jirem (nI q / 4) 9 = nI (q / 4 % 9) by rw [show (4 : Int32) = nI 4 from rfl, pk_div (by omega) (by omega) (by omega), show (9 : Int32) = nI 9 from rfl, jirem_n (by omega) (by omega) (by omega)]).trans (congrArg nI (by omega))
  have g10 : jirem (nI q / 64) 9 = nI (q / 64 % 9) := (show jirem (nI q / 64) 9 = nI (q / 64 % 9) by rw [show (64 : Int32) = nI 64 from rfl, pk_div (by omega) (by omega) (by omega), show (9 : Int32) = nI 9 from rfl, jirem_n (by omega) (by omega) (by omega)]).trans (congrArg nI (by omega))
  have g11 : jirem (nI q / 8) 2 = nI (q / 8 % 2) := (show jirem (nI q / 8) 2 = nI (q / 8 % 2) by rw [show (8 : Int32) = nI 8 from rfl, pk_div (by omega) (by omega) (by omega), show (2 : Int32) = nI 2 from rfl, jirem_n (by omega) (by omega) (by omega)]).trans (congrArg nI (by omega))
  have g12 : jirem (nI q / 4) 2 = nI (q / 4 % 2) := (show jirem (nI q / 4) 2 = nI (q / 4 % 2) by rw [show (4 : Int32) = nI 4 from rfl, pk_div (by omega) (by omega) (by omega), show (2 : Int32) = nI 2 from rfl, jirem_n (by omega) (by omega) (by omega)]).trans (congrArg nI (by omega))
  have g13 : jirem (nI q / 4) 40 = nI (q / 4 % 40) := (show jirem (nI q / 4) 40 = nI (q / 4 % 40) by rw [show (4 : Int32) = nI 4 from rfl, pk_div (by omega) (by omega) (by omega), show (40 : Int32) = nI 40 from rfl, jirem_n (by omega) (by omega) (by omega)]).trans (congrArg nI (by omega))
  have g14 : jirem (nI q) 50 = nI (q % 50) := (show jirem (nI q) 50 = nI (q % 50) by rw [show (50 : Int32) = nI 50 from rfl, jirem_n (by omega) (by omega) (by omega)]).trans (congrArg nI (by omega))
  unfold wp_X7_takeTurn
  rintro x1 rfl x2 rfl
  rw [show nI R / 16 = nI q from (show nI R / 16 = nI (R / 16) by rw [show (16 : Int32) = nI 16 from rfl, pk_div (by omega) (by omega) (by omega)]).trans (congrArg nI (by omega)), show jirem (nI R) 16 = nI how from (show jirem (nI R) 16 = nI (R % 16) by rw [show (16 : Int32) = nI 16 from rfl, jirem_n (by omega) (by omega) (by omega)]).trans (congrArg nI (by omega))]
  rw [g0, g1, g2, g3, g4, g5, g6, g7, g8, g9, g10, g11, g12, g13, g14, show (2 : Int32) + nI (q % 59) = nI (2 + q % 59) from nI_add 2 _, show nI (q / 4 % 60) + nI (q / 256 % 8) = nI (q / 4 % 60 + q / 256 % 8) from nI_add _ _, show nI (q / 16 % 61) + 1 + nI (q / 1024 % 20) = nI (q / 16 % 61 + 1 + q / 1024 % 20) from by rw [nI_1, nI_add], show (1 : Int32) + nI (q / 4 % 9) = nI (1 + q / 4 % 9) from nI_add 1 _, show (1 : Int32) + nI (q / 64 % 9) = nI (1 + q / 64 % 9) from nI_add 1 _, show (1 : Int32) + nI (q / 4 % 40) = nI (1 + q / 4 % 40) from nI_add 1 _, show (1 : Int32) + nI (q % 50) = nI (1 + q % 50) from nI_add 1 _]
  clear g0 g1 g2 g3 g4 g5 g6 g7 g8 g9 g10 g11 g12 g13 g14
  have kN : tnS N how q = N → Q h := fun e => by rw [e] at k; exact k h Fr.rf hR
  have kF : tnS N how q = reF N → Q h := fun e => by rw [e] at k; exact k h Fr.rf hR.ref
  have kD : ∀ N' h', tnS N how q = N' → Dn 22 N' h h' → Q h' := fun N' h' e D => by rw [e] at k; exact k h' D.1 D.2.2
  rcases (by omega : how = 0 ∨ how = 1 ∨ how = 2 ∨ how = 3 ∨ how = 4 ∨ how = 5 ∨ how = 6 ∨ how = 7 ∨ how = 8 ∨ how = 9 ∨ how = 10 ∨ how = 11 ∨ how = 12 ∨ how = 13 ∨ how = 14 ∨ how = 15) with rfl | rfl | rfl | rfl | rfl | rfl | rfl | rfl | rfl | rfl | rfl | rfl | rfl | rfl | rfl | rfl
  · refine ⟨fun _ => ?_, fun z => absurd z (by decide), fun z => absurd z (by decide), fun z => absurd z (by decide), fun z => absurd z (by decide), fun z => absurd z (by decide), fun z => absurd z (by decide), by intros; contradiction⟩
    refine pe_reel SB_22 hR hI (by omega) (fun z h' D => kD _ h' ?_ D) (fun z => kN ?_)
    · rw [ts_0 rfl, if_pos z.2.2]
    · rw [ts_0 rfl, if_neg (by omega)]
  · refine ⟨fun z => absurd z (by decide), fun _ => ?_, fun z => absurd z (by decide), fun z => absurd z (by decide), fun z => absurd z (by decide), fun z => absurd z (by decide), fun z => absurd z (by decide), by intros; contradiction⟩
    refine pe_loop SB_22 hR hI (fun z h' D => kD _ h' ?_ D) (fun z => kN ?_)
    · rw [ts_1 rfl, if_pos z]
    · rw [ts_1 rfl, if_neg z]
  · refine ⟨fun z => absurd z (by decide), fun z => absurd z (by decide), fun _ => ?_, fun z => absurd z (by decide), fun z => absurd z (by decide), fun z => absurd z (by decide), fun z => absurd z (by decide), by intros; contradiction⟩
    refine pe_paint hR hI (by omega) (by omega) (by omega) (by omega) (fun z h' D => kD _ h' ?_ D) (fun z => kN ?_)
    · rw [ts_p (by omega), if_pos ⟨z.1, z.2.1, z.2.2.1⟩]
    · rw [ts_p (by omega), if_neg (fun w => z ⟨w.1, w.2.1, w.2.2, by omega, by omega⟩)]
  · refine ⟨fun z => absurd z (by decide), fun z => absurd z (by decide), fun _ => ?_, fun z => absurd z (by decide), fun z => absurd z (by decide), fun z => absurd z (by decide), fun z => absurd z (by decide), by intros; contradiction⟩
    refine pe_paint hR hI (by omega) (by omega) (by omega) (by omega) (fun z h' D => kD _ h' ?_ D) (fun z => kN ?_)
    · rw [ts_p (by omega), if_pos ⟨z.1, z.2.1, z.2.2.1⟩]
    · rw [ts_p (by omega), if_neg (fun w => z ⟨w.1, w.2.1, w.2.2, by omega, by omega⟩)]
  · refine ⟨fun z => absurd z (by decide), fun z => absurd z (by decide), fun _ => ?_, fun z => absurd z (by decide), fun z => absurd z (by decide), fun z => absurd z (by decide), fun z => absurd z (by decide), by intros; contradiction⟩
    refine pe_paint hR hI (by omega) (by omega) (by omega) (by omega) (fun z h' D => kD _ h' ?_ D) (fun z => kN ?_)
    · rw [ts_p (by omega), if_pos ⟨z.1, z.2.1, z.2.2.1⟩]
    · rw [ts_p (by omega), if_neg (fun w => z ⟨w.1, w.2.1, w.2.2, by omega, by omega⟩)]
  · refine ⟨fun z => absurd z (by decide), fun z => absurd z (by decide), fun z => absurd z (by decide), fun _ => ?_, fun z => absurd z (by decide), fun z => absurd z (by decide), fun z => absurd z (by decide), by intros; contradiction⟩
    by_cases c : q % 4 < N 0 1 ∧ q / 4 % 3 < N 0 0 ∧ q / 16 % 61 ≤ N (1 + q / 4 % 3) 0 ∧ q / 16 % 61 + 1 + q / 1024 % 20 ≤ N (1 + q / 4 % 3) 0
    · refine pe_splice hR hI (by omega) (by omega) (by omega) (by omega) (fun z h' D => kD _ h' ?_ D) (fun z => kF ?_)
      · rw [ts_c (by omega), if_pos c, if_pos z.2.2.2.2]
      · rw [ts_c (by omega), if_pos c, if_neg (fun w => z ⟨c.1, c.2.1, c.2.2.1, c.2.2.2, w⟩)]
    · refine pe_splice hR hI (by omega) (by omega) (by omega) (by omega) (fun z h' D => absurd ⟨z.1, z.2.1, z.2.2.1, z.2.2.2.1⟩ c) (fun z => kN ?_)
      rw [ts_c (by omega), if_neg c]
  · refine ⟨fun z => absurd z (by decide), fun z => absurd z (by decide), fun z => absurd z (by decide), fun _ => ?_, fun z => absurd z (by decide), fun z => absurd z (by decide), fun z => absurd z (by decide), by intros; contradiction⟩
    by_cases c : q % 4 < N 0 1 ∧ q / 4 % 3 < N 0 0 ∧ q / 16 % 61 ≤ N (1 + q / 4 % 3) 0 ∧ q / 16 % 61 + 1 + q / 1024 % 20 ≤ N (1 + q / 4 % 3) 0
    · refine pe_splice hR hI (by omega) (by omega) (by omega) (by omega) (fun z h' D => kD _ h' ?_ D) (fun z => kF ?_)
      · rw [ts_c (by omega), if_pos c, if_pos z.2.2.2.2]
      · rw [ts_c (by omega), if_pos c, if_neg (fun w => z ⟨c.1, c.2.1, c.2.2.1, c.2.2.2, w⟩)]
    · refine pe_splice hR hI (by omega) (by omega) (by omega) (by omega) (fun z h' D => absurd ⟨z.1, z.2.1, z.2.2.1, z.2.2.2.1⟩ c) (fun z => kN ?_)
      rw [ts_c (by omega), if_neg c]
  · refine ⟨fun z => absurd z (by decide), fun z => absurd z (by decide), fun z => absurd z (by decide), fun _ => ?_, fun z => absurd z (by decide), fun z => absurd z (by decide), fun z => absurd z (by decide), by intros; contradiction⟩
    by_cases c : q % 4 < N 0 1 ∧ q / 4 % 3 < N 0 0 ∧ q / 16 % 61 ≤ N (1 + q / 4 % 3) 0 ∧ q / 16 % 61 + 1 + q / 1024 % 20 ≤ N (1 + q / 4 % 3) 0
    · refine pe_splice hR hI (by omega) (by omega) (by omega) (by omega) (fun z h' D => kD _ h' ?_ D) (fun z => kF ?_)
      · rw [ts_c (by omega), if_pos c, if_pos z.2.2.2.2]
      · rw [ts_c (by omega), if_pos c, if_neg (fun w => z ⟨c.1, c.2.1, c.2.2.1, c.2.2.2, w⟩)]
    · refine pe_splice hR hI (by omega) (by omega) (by omega) (by omega) (fun z h' D => absurd ⟨z.1, z.2.1, z.2.2.1, z.2.2.2.1⟩ c) (fun z => kN ?_)
      rw [ts_c (by omega), if_neg c]
  · refine ⟨fun z => absurd z (by decide), fun z => absurd z (by decide), fun z => absurd z (by decide), fun _ => ?_, fun z => absurd z (by decide), fun z => absurd z (by decide), fun z => absurd z (by decide), by intros; contradiction⟩
    by_cases c : q % 4 < N 0 1 ∧ q / 4 % 3 < N 0 0 ∧ q / 16 % 61 ≤ N (1 + q / 4 % 3) 0 ∧ q / 16 % 61 + 1 + q / 1024 % 20 ≤ N (1 + q / 4 % 3) 0
    · refine pe_splice hR hI (by omega) (by omega) (by omega) (by omega) (fun z h' D => kD _ h' ?_ D) (fun z => kF ?_)
      · rw [ts_c (by omega), if_pos c, if_pos z.2.2.2.2]
      · rw [ts_c (by omega), if_pos c, if_neg (fun w => z ⟨c.1, c.2.1, c.2.2.1, c.2.2.2, w⟩)]
    · refine pe_splice hR hI (by omega) (by omega) (by omega) (by omega) (fun z h' D => absurd ⟨z.1, z.2.1, z.2.2.1, z.2.2.2.1⟩ c) (fun z => kN ?_)
      rw [ts_c (by omega), if_neg c]
  · refine ⟨fun z => absurd z (by decide), fun z => absurd z (by decide), fun z => absurd z (by decide), fun z => absurd z (by decide), fun _ => ?_, fun z => absurd z (by decide), fun z => absurd z (by decide), by intros; contradiction⟩
    refine pe_speed hR hI (by omega) (by omega) (by omega) (fun z h' D => kD _ h' ?_ D) (fun z => kN ?_)
    · rw [ts_9 rfl, if_pos z.1]
    · rw [ts_9 rfl, if_neg (fun w => z ⟨w, by omega, by omega⟩)]
  · refine ⟨fun z => absurd z (by decide), fun z => absurd z (by decide), fun z => absurd z (by decide), fun z => absurd z (by decide), fun z => absurd z (by decide), fun _ => ?_, fun z => absurd z (by decide), by intros; contradiction⟩
    rw [z0 (by omega)]
    by_cases c : q / 8 % 2 = 0
    · refine bt' c ?_
      rw [bi_n (by omega : q / 4 % 2 ≤ 1)]
      refine pe_mute hR hI (by omega) (fun z h' D => kD _ h' ?_ D) (fun z => kN ?_)
      · rw [ts_10 rfl, if_pos z, if_pos c]
      · rw [ts_10 rfl, if_neg z]
    · refine bf' c (pe_unsplice hR hI (by omega) (fun z h' D => kD _ h' ?_ D) (fun z => kN ?_))
      · rw [ts_10 rfl, if_pos z.1, if_neg c, if_neg z.2]
      · rw [ts_10 rfl]
        by_cases c1 : q % 4 < N 0 1
        · rw [if_pos c1, if_neg c, if_pos (by omega)]
        · rw [if_neg c1]
  · refine ⟨fun z => absurd z (by decide), fun z => absurd z (by decide), fun z => absurd z (by decide), fun z => absurd z (by decide), fun z => absurd z (by decide), fun z => absurd z (by decide), fun _ => ?_, by intros; contradiction⟩
    refine pe_record hR hI (by omega) (by omega) (fun z h' D => kD _ h' ?_ D) (fun z => kN ?_)
    · rw [ts_11 rfl, if_pos ⟨z.1, z.2.2⟩]
    · rw [ts_11 rfl, if_neg (fun w => z ⟨w.1, by omega, w.2⟩)]
  · refine ⟨fun z => absurd z (by decide), fun z => absurd z (by decide), fun z => absurd z (by decide), fun z => absurd z (by decide), fun z => absurd z (by decide), fun z => absurd z (by decide), fun z => absurd z (by decide), fun _ _ _ _ _ _ _ _ _ _ _ _ => ?_⟩
    refine pe_ticks hR hI (by omega) (fun z h' D => kD _ h' ?_ D) (fun z => absurd z (by omega))
    rw [ts_t (by omega)]
  · refine ⟨fun z => absurd z (by decide), fun z => absurd z (by decide), fun z => absurd z (by decide), fun z => absurd z (by decide), fun z => absurd z (by decide), fun z => absurd z (by decide), fun z => absurd z (by decide), fun _ _ _ _ _ _ _ _ _ _ _ _ => ?_⟩
    refine pe_ticks hR hI (by omega) (fun z h' D => kD _ h' ?_ D) (fun z => absurd z (by omega))
    rw [ts_t (by omega)]
  · refine ⟨fun z => absurd z (by decide), fun z => absurd z (by decide), fun z => absurd z (by decide), fun z => absurd z (by decide), fun z => absurd z (by decide), fun z => absurd z (by decide), fun z => absurd z (by decide), fun _ _ _ _ _ _ _ _ _ _ _ _ => ?_⟩
    refine pe_ticks hR hI (by omega) (fun z h' D => kD _ h' ?_ D) (fun z => absurd z (by omega))
    rw [ts_t (by omega)]
  · refine ⟨fun z => absurd z (by decide), fun z => absurd z (by decide), fun z => absurd z (by decide), fun z => absurd z (by decide), fun z => absurd z (by decide), fun z => absurd z (by decide), fun z => absurd z (by decide), fun _ _ _ _ _ _ _ _ _ _ _ _ => ?_⟩
    refine pe_ticks hR hI (by omega) (fun z h' D => kD _ h' ?_ D) (fun z => absurd z (by omega))
    rw [ts_t (by omega)]
theorem mo_turnReel {how q : Nat} {N : Nat → Nat → Nat} {h : PH} {Q : PH → Prop} (hM : Mw (h 347) N) (hI : Inv N) (hq : q < 134217728) (hh : how < 9) (k : ∀ h', Fr 347 1 h h' → Mw (h' 347) (tnS N how q) → Q h') : wp_X8_turnReel 347 (nI how) (nI q) h Q := by
  have i3 := hI.1
  have i4 := hI.2.1
  have g0 : jirem (nI q) 59 = nI (q % 59) := (show jirem (nI q) 59 = nI (q % 59) by rw [show (59 : Int32) = nI 59 from rfl, jirem_n (by omega) (by omega) (by omega)]).trans (congrArg nI (by omega))
  have g1 : jirem (nI q) 3 = nI (q % 3) := (show jirem (nI q) 3 = nI (q % 3) by rw [show (3 : Int32) = nI 3 from rfl, jirem_n (by omega) (by omega) (by omega)]).trans (congrArg nI (by omega))
  have g2 : jirem (nI q / 4) 60 = nI (q / 4 % 60) := (show jirem (nI q / 4) 60 = nI (q / 4 % 60) by rw [show (4 : Int32) = nI 4 from rfl, pk_div (by omega) (by omega) (by omega), show (60 : Int32) = nI 60 from rfl, jirem_n (by omega) (by omega) (by omega)]).trans (congrArg nI (by omega))
  have g3 : jirem (nI q / 256) 8 = nI (q / 256 % 8) := (show jirem (nI q / 256) 8 = nI (q / 256 % 8) by rw [show (256 : Int32) = nI 256 from rfl, pk_div (by omega) (by omega) (by omega), show (8 : Int32) = nI 8 from rfl, jirem_n (by omega) (by omega) (by omega)]).trans (congrArg nI (by omega))
  have g4 : jirem (nI q / 2048) 10 = nI (q / 2048 % 10) := (show jirem (nI q / 2048) 10 = nI (q / 2048 % 10) by rw [show (2048 : Int32) = nI 2048 from rfl, pk_div (by omega) (by omega) (by omega), show (10 : Int32) = nI 10 from rfl, jirem_n (by omega) (by omega) (by omega)]).trans (congrArg nI (by omega))
  have g5 : jirem (nI q) 4 = nI (q % 4) := (show jirem (nI q) 4 = nI (q % 4) by rw [show (4 : Int32) = nI 4 from rfl, jirem_n (by omega) (by omega) (by omega)]).trans (congrArg nI (by omega))
  have g6 : jirem (nI q / 4) 3 = nI (q / 4 % 3) := (show jirem (nI q / 4) 3 = nI (q / 4 % 3) by rw [show (4 : Int32) = nI 4 from rfl, pk_div (by omega) (by omega) (by omega), show (3 : Int32) = nI 3 from rfl, jirem_n (by omega) (by omega) (by omega)]).trans (congrArg nI (by omega))
  have g7 : jirem (nI q / 16) 61 = nI (q / 16 % 61) := (show jirem (nI q / 16) 61 = nI (q / 16 % 61) by rw [show (16 : Int32) = nI 16 from rfl, pk_div (by omega) (by omega) (by omega), show (61 : Int32) = nI 61 from rfl, jirem_n (by omega) (by omega) (by omega)]).trans (congrArg nI (by omega))
  have g8 : jirem (nI q / 1024) 20 = nI (q / 1024 % 20) := (show jirem (nI q / 1024) 20 = nI (q / 1024 % 20) by rw [show (1024 : Int32) = nI 1024 from rfl, pk_div (by omega) (by omega) (by omega), show (20 : Int32) = nI 20 from rfl, jirem_n (by omega) (by omega) (by omega)]).trans (congrArg nI (by omega))
  unfold wp_X8_turnReel
  have kN : tnS N how q = N → Q h := fun e => by rw [e] at k; exact k h Fr.rf hM
  have kD : ∀ N' h', tnS N how q = N' → Fr 347 1 h h' → Mw (h' 347) N' → Q h' := fun N' h' e F M => by rw [e] at k; exact k h' F M
  rw [z0 (by omega), z1 (by omega), show (5 : Int32) = nI 5 from rfl, show (9 : Int32) = nI 9 from rfl, nI_leI (by omega) (by omega), nI_leI (by omega) (by omega)]
  have c0 : (0 : Int32).toNatClampNeg = 0 := by decide
  have c1 : (1 : Int32).toNatClampNeg = 1 := by decide
  by_cases h0 : how = 0
  · refine bt' h0 ?_
    rw [c0, show h 347 0 = nI (N 0 0) from hM.g (by omega), li_3, g0, show (2 : Int32) + nI (q % 59) = nI (2 + q % 59) from nI_add 2 _]
    refine ⟨by rw [al_347, li_0]; exact vp_in_nI (by omega) (by omega), ?_⟩
    by_cases c : N 0 0 < 3
    · exact bf (nI_ge c (by omega)) (mo_reelOn al_347 hM c (fun h' F M => kD _ h' (by rw [ts_0 h0, if_pos c]) F M))
    · exact bt (nI_le (by omega) (by omega)) (kN (by rw [ts_0 h0, if_neg c]))
  · refine bf' h0 ?_
    by_cases h1 : how = 1
    · refine bt' h1 ?_
      rw [c1, show h 347 1 = nI (N 0 1) from hM.g (by omega), li_4]
      refine ⟨by rw [al_347, li_1]; exact vp_in_nI (by omega) (by omega), ?_⟩
      by_cases c : N 0 1 < 4
      · exact bf (nI_ge c (by omega)) (mo_loopOn al_347 hM c (fun h' F M => kD _ h' (by rw [ts_1 h1, if_pos c]) F M))
      · exact bt (nI_le (by omega) (by omega)) (kN (by rw [ts_1 h1, if_neg c]))
    · refine bf' h1 ?_
      by_cases h5 : 5 ≤ how
      · refine bt h5 (bf (by omega) ?_)
        rintro x5 rfl x6 rfl
        rw [g7, g8, g5, g6, show nI (q / 16 % 61) + 1 + nI (q / 1024 % 20) = nI (q / 16 % 61 + 1 + q / 1024 % 20) from by rw [nI_1, nI_add]]
        by_cases a1 : q % 4 < N 0 1
        · refine mo_isLoop al_347 hM hI a1 (bf (by decide) ?_)
          by_cases a2 : q / 4 % 3 < N 0 0
          · have i60 := (hI.ir a2).1
            by_cases a3 : q / 16 % 61 ≤ N (1 + q / 4 % 3) 0
            · refine mo_isPlace al_347 hM hI a2 a3 (bf (by decide) ?_)
              by_cases a4 : q / 16 % 61 + 1 + q / 1024 % 20 ≤ N (1 + q / 4 % 3) 0
              · refine mo_isPlace al_347 hM hI a2 a4 (bf (by decide) (mo_spliceOn al_347 hM hI a1 a2 a3 a4 (fun e h' F M => kD _ h' ?_ F M) (fun e h' F M => kD _ h' ?_ F M)))
                · rw [ts_c (by omega), if_pos ⟨a1, a2, a3, a4⟩, if_pos e]
                · rw [ts_c (by omega), if_pos ⟨a1, a2, a3, a4⟩, if_neg e]
              · exact mo_isPlaceN2 al_347 hM hI a2 (by rw [inB_n (by omega) (by omega)]; omega) (bt rfl (kN (by rw [ts_c (by omega), if_neg (fun w => a4 w.2.2.2)])))
            · exact mo_isPlaceN2 al_347 hM hI a2 (by rw [inB_n (by omega) (by omega)]; omega) (bt rfl (kN (by rw [ts_c (by omega), if_neg (fun w => a3 w.2.2.1)])))
          · exact mo_isPlaceN1 al_347 hM hI (by rw [inB_n (by omega) (by omega)]; omega) (bt rfl (kN (by rw [ts_c (by omega), if_neg (fun w => a2 w.2.1)])))
        · exact mo_isLoopN al_347 hM hI (by rw [inB_n (by omega) (by omega)]; omega) (bt rfl (kN (by rw [ts_c (by omega), if_neg (fun w => a1 w.1)])))
      · refine bf h5 ?_
        rintro x18 rfl x19 rfl
        rw [g2, g3, g1, g4, show nI (q / 4 % 60) + nI (q / 256 % 8) = nI (q / 4 % 60 + q / 256 % 8) from nI_add _ _]
        by_cases a1 : q % 3 < N 0 0
        · have i60 := (hI.ir a1).1
          by_cases a2 : q / 4 % 60 < N (1 + q % 3) 0
          · refine mo_isCell al_347 hM hI a1 a2 (bf (by decide) ?_)
            by_cases a3 : q / 4 % 60 + q / 256 % 8 < N (1 + q % 3) 0
            · exact mo_isCell al_347 hM hI a1 a3 (bf (by decide) (mo_paintOn al_347 hM hI a1 (by omega) a3 (by omega) (fun h' F M => kD _ h' (by rw [ts_p (by omega), if_pos ⟨a1, a2, a3⟩]) F M)))
            · exact mo_isCellN2 al_347 hM hI a1 (by rw [inB_n (by omega) (by omega)]; omega) (bt rfl (kN (by rw [ts_p (by omega), if_neg (fun w => a3 w.2.2)])))
          · exact mo_isCellN2 al_347 hM hI a1 (by rw [inB_n (by omega) (by omega)]; omega) (bt rfl (kN (by rw [ts_p (by omega), if_neg (fun w => a2 w.2.1)])))
        · exact mo_isCellN1 al_347 hM hI (by rw [inB_n (by omega) (by omega)]; omega) (bt rfl (kN (by rw [ts_p (by omega), if_neg (fun w => a1 w.1)])))
theorem mo_turnLoop {how q : Nat} {N : Nat → Nat → Nat} {h : PH} {Q : PH → Prop} (hM : Mw (h 347) N) (hI : Inv N) (hq : q < 134217728) (h9 : 9 ≤ how) (hh : how < 12) (k : ∀ h', Fr 347 1 h h' → Mw (h' 347) (tnS N how q) → Q h') : wp_X8_turnLoop 347 (nI how) (nI q) h Q := by
  have i3 := hI.1
  have i4 := hI.2.1
  have g0 : jirem (nI q) 4 = nI (q % 4) := (show jirem (nI q) 4 = nI (q % 4) by rw [show (4 : Int32) = nI 4 from rfl, jirem_n (by omega) (by omega) (by omega)]).trans (congrArg nI (by omega))
  have g1 : jirem (nI q / 8) 2 = nI (q / 8 % 2) := (show jirem (nI q / 8) 2 = nI (q / 8 % 2) by rw [show (8 : Int32) = nI 8 from rfl, pk_div (by omega) (by omega) (by omega), show (2 : Int32) = nI 2 from rfl, jirem_n (by omega) (by omega) (by omega)]).trans (congrArg nI (by omega))
  have g2 : jirem (nI q / 4) 2 = nI (q / 4 % 2) := (show jirem (nI q / 4) 2 = nI (q / 4 % 2) by rw [show (4 : Int32) = nI 4 from rfl, pk_div (by omega) (by omega) (by omega), show (2 : Int32) = nI 2 from rfl, jirem_n (by omega) (by omega) (by omega)]).trans (congrArg nI (by omega))
  have g3 : jirem (nI q / 4) 9 = nI (q / 4 % 9) := (show jirem (nI q / 4) 9 = nI (q / 4 % 9) by rw [show (4 : Int32) = nI 4 from rfl, pk_div (by omega) (by omega) (by omega), show (9 : Int32) = nI 9 from rfl, jirem_n (by omega) (by omega) (by omega)]).trans (congrArg nI (by omega))
  have g4 : jirem (nI q / 64) 9 = nI (q / 64 % 9) := (show jirem (nI q / 64) 9 = nI (q / 64 % 9) by rw [show (64 : Int32) = nI 64 from rfl, pk_div (by omega) (by omega) (by omega), show (9 : Int32) = nI 9 from rfl, jirem_n (by omega) (by omega) (by omega)]).trans (congrArg nI (by omega))
  have g5 : jirem (nI q) 3 = nI (q % 3) := (show jirem (nI q) 3 = nI (q % 3) by rw [show (3 : Int32) = nI 3 from rfl, jirem_n (by omega) (by omega) (by omega)]).trans (congrArg nI (by omega))
  have g6 : jirem (nI q / 4) 40 = nI (q / 4 % 40) := (show jirem (nI q / 4) 40 = nI (q / 4 % 40) by rw [show (4 : Int32) = nI 4 from rfl, pk_div (by omega) (by omega) (by omega), show (40 : Int32) = nI 40 from rfl, jirem_n (by omega) (by omega) (by omega)]).trans (congrArg nI (by omega))
  unfold wp_X8_turnLoop
  rintro x1 rfl
  have kN : tnS N how q = N → Q h := fun e => by rw [e] at k; exact k h Fr.rf hM
  have kD : ∀ N' h', tnS N how q = N' → Fr 347 1 h h' → Mw (h' 347) N' → Q h' := fun N' h' e F M => by rw [e] at k; exact k h' F M
  rw [g0, g1, g2, g3, g4, g5, g6, show (1 : Int32) + nI (q / 4 % 9) = nI (1 + q / 4 % 9) from nI_add 1 _, show (1 : Int32) + nI (q / 64 % 9) = nI (1 + q / 64 % 9) from nI_add 1 _, show (1 : Int32) + nI (q / 4 % 40) = nI (1 + q / 4 % 40) from nI_add 1 _, show (11 : Int32) = nI 11 from rfl, show (9 : Int32) = nI 9 from rfl, nI_eq (by omega) (by omega), nI_eq (by omega) (by omega), z0 (by omega), z1 (by omega)]
  clear g0 g1 g2 g3 g4 g5 g6
  by_cases h11 : how = 11
  · refine bt' h11 ?_
    by_cases a1 : q % 3 < N 0 0
    · have i60 := (hI.ir a1).1
      refine mo_isReel al_347 hM hI a1 (bf (by decide) (mo_cells al_347 (hM.r (by omega)) (by omega) ?_))
      by_cases a2 : 1 + q / 4 % 40 ≤ N (1 + q % 3) 0
      · exact bf (nI_nlt a2 (by omega)) (mo_recordOn al_347 hM hI a1 a2 (fun h' F M => kD _ h' (by rw [ts_11 h11, if_pos ⟨a1, a2⟩]) F M))
      · exact bt (nI_lt (by omega) (by omega)) (kN (by rw [ts_11 h11, if_neg (fun w => a2 w.2)]))
    · exact mo_isReelN al_347 hM hI (by rw [inB_n (by omega) (by omega)]; omega) (bt rfl (kN (by rw [ts_11 h11, if_neg (fun w => a1 w.1)])))
  · refine bf' h11 ?_
    by_cases a1 : q % 4 < N 0 1
    · have il := hI.il a1
      have a48 := il.1
      refine mo_isLoop al_347 hM hI a1 (bf' (by decide) ?_)
      by_cases h9' : how = 9
      · exact bt' h9' (mo_speedOn al_347 hM hI a1 (by omega) (fun h' F M => kD _ h' (by rw [ts_9 h9', if_pos a1]) F M))
      · refine bf' h9' ?_
        have h10 : how = 10 := by omega
        by_cases c : q / 8 % 2 = 0
        · refine bt' c ?_
          by_cases c2 : q / 4 % 2 = 1
          · exact bt' c2 (mo_muteOn (m := true) al_347 hM hI a1 (fun h' F M => kD _ h' (by rw [ts_10 h10, if_pos a1, if_pos c, decide_eq_true c2]) F M))
          · exact bf' c2 (mo_muteOn (m := false) al_347 hM hI a1 (fun h' F M => kD _ h' (by rw [ts_10 h10, if_pos a1, if_pos c, decide_eq_false c2]) F M))
        · refine bf' c (mo_of (u := 0) al_347 (hM.l (by omega)) (by omega) (by omega) ?_)
          rw [li_0, nI_leI (by omega) (by omega)]
          by_cases c3 : N (4 + q % 4) 0 ≤ 0
          · exact bt c3 (kN (by rw [ts_10 h10, if_pos a1, if_neg c, if_pos (by omega)]))
          · exact bf c3 (mo_unspliceOn al_347 hM hI a1 (by omega) (fun h' F M => kD _ h' (by rw [ts_10 h10, if_pos a1, if_neg c, if_neg (by omega)]) F M))
    · refine mo_isLoopN al_347 hM hI (by rw [inB_n (by omega) (by omega)]; omega) (bt' rfl (kN ?_))
      rcases (by omega : how = 9 ∨ how = 10) with e | e
      · rw [ts_9 e, if_neg a1]
      · rw [ts_10 e, if_neg a1]

theorem lush (x : Int64) : ∃ R : Nat, R < 2 ^ 31 ∧ (jlushr x 33).toInt32 = nI R := by
  have e : jlushr x 33 = lN (x.toUInt64.toNat / 2 ^ 33) := by
    have d : ((33 : Int32).toInt64.toUInt64 &&& Int64.toUInt64 63) = 33 := by decide
    unfold jlushr
    rw [d]
    apply Int64.toBitVec_inj.mp
    show (x.toUInt64 >>> 33).toBitVec = BitVec.ofNat 64 (x.toUInt64.toNat / 2 ^ 33)
    apply BitVec.eq_of_toNat_eq
    show (x.toUInt64 >>> 33).toNat = (BitVec.ofNat 64 (x.toUInt64.toNat / 2 ^ 33)).toNat
    rw [UInt64.toNat_shiftRight, BitVec.toNat_ofNat]
    have l := x.toUInt64.toNat_lt
    have s : (33 : UInt64).toNat % 64 = 33 := by decide
    rw [s, Nat.shiftRight_eq_div_pow, Nat.mod_eq_of_lt (by omega)]
  refine ⟨x.toUInt64.toNat / 2 ^ 33, ?_, by rw [e, lN_i]⟩
  have l := x.toUInt64.toNat_lt
  omega
def rnd (x : Int64) : Nat := ((jlushr x 33).toInt32).toNatClampNeg
theorem rnd_s (x : Int64) : rnd x < 2 ^ 31 ∧ (jlushr x 33).toInt32 = nI (rnd x) := by
  obtain ⟨R, h1, h2⟩ := lush x
  have e : rnd x = R := by unfold rnd; rw [h2, nI_clamp h1]
  rw [e]
  exact ⟨h1, h2⟩
def nxt (x : Int64) : Int64 := x * 6364136223846793005 + 1442695040888963407
def simG (f : Int64 → Int64) (r : Int64 → Nat) (T : (Nat → Nat → Nat) → Nat → Nat → Nat → Nat → Nat) : Nat → Int64 → (Nat → Nat → Nat) → Nat → Nat → Nat
  | 0, _, N => N
  | d + 1, x, N => simG f r T d (f x) (T N (r (f x) % 16) (r (f x) / 16))
theorem simG_0 {f : Int64 → Int64} {r : Int64 → Nat} {T : (Nat → Nat → Nat) → Nat → Nat → Nat → Nat → Nat} {x : Int64} {N : Nat → Nat → Nat} : simG f r T 0 x N = N := rfl
theorem simG_s {f : Int64 → Int64} {r : Int64 → Nat} {T : (Nat → Nat → Nat) → Nat → Nat → Nat → Nat → Nat} {d : Nat} {x : Int64} {N : Nat → Nat → Nat} : simG f r T (d + 1) x N = simG f r T d (f x) (T N (r (f x) % 16) (r (f x) / 16)) := rfl
theorem ok_sim {m : Nat} {Q : Int32 → PH → Prop} {X : String → PH → Prop} (hm : m ≤ 60) : ∀ d i x N h, i + d = m → Rl 22 N h → Inv N → (∀ h', Fr 22 21 h h' → Q (nI (1000 * celN (simG nxt rnd tnS d x N) + sndN (simG nxt rnd tnS d x N) 0)) h') → wp_X7_simulate_b38 0 (nI m) Q X (d + 1) x (nI i) h := by
  intro d
  induction d with
  | zero =>
    intro i x N h hi hR hI q
    rw [simG_0] at q
    unfold wp_X7_simulate_b38
    refine bt (nI_le (by omega) (by omega)) (ok_loopCells hR hI (ok_soundBehind (n := 0) hR hI (by omega) ?_))
    have e : (1000 : Int32) * nI (celN N) + nI (sndN N 0) = nI (1000 * celN N + sndN N 0) := by rw [show (1000 : Int32) = nI 1000 from rfl, pk_mul, nI_add]
    rw [e]
    exact q h Fr.rf
  | succ d ih =>
    intro i x N h hi hR hI q
    rw [simG_s] at q
    unfold wp_X7_simulate_b38
    refine bf (nI_ge (by omega) (by omega)) ?_
    rintro x10 rfl
    obtain ⟨r1, r2⟩ := rnd_s (nxt x)
    show wp_X7_takeTurn 0 ((jlushr (nxt x) 33).toInt32) h _
    rw [r2]
    refine ok_turn (how := rnd (nxt x) % 16) (q := rnd (nxt x) / 16) hR hI (by omega) (by omega) (by omega) ?_
    intro h1 F1 R1
    rintro x12 rfl
    rw [nI_1]
    exact ih (i + 1) (nxt x) _ h1 (by omega) R1 (ts_inv hI) (fun h' F => q h' (F1.tr F))
theorem mo_sim {m : Nat} {Q : Int32 → PH → Prop} (hm : m ≤ 60) : ∀ d i x N h, i + d = m → Mw (h 347) N → Inv N → (∀ h', Fr 347 1 h h' → Q (nI (1000 * celN (simG nxt rnd tnS d x N) + sndN (simG nxt rnd tnS d x N) 0)) h') → wp_X8_simulate_b45 344 (nI m) Q (d + 1) x (nI i) h := by
  intro d
  induction d with
  | zero =>
    intro i x N h hi hM hI q
    rw [simG_0] at q
    unfold wp_X8_simulate_b45
    refine bt (nI_le (by omega) (by omega)) (mo_allCells al_347 hM hI (mo_soundLater (n := 0) al_347 hM hI (by omega) ?_))
    have e : (1000 : Int32) * nI (celN N) + nI (sndN N 0) = nI (1000 * celN N + sndN N 0) := by rw [show (1000 : Int32) = nI 1000 from rfl, pk_mul, nI_add]
    rw [e]
    exact q h Fr.rf
  | succ d ih =>
    intro i x N h hi hM hI q
    rw [simG_s] at q
    unfold wp_X8_simulate_b45
    refine bf (nI_ge (by omega) (by omega)) ?_
    obtain ⟨r1, r2⟩ := rnd_s (nxt x)
    rintro x13 rfl x14 e14 x15 rfl x16 rfl
    have e14' : x14 = nI (rnd (nxt x)) := e14.trans r2
    subst e14'
    have q1 : nI (rnd (nxt x)) / 16 = nI (rnd (nxt x) / 16) := by rw [show (16 : Int32) = nI 16 from rfl, pk_div (by omega) (by omega) (by omega)]
    have q2 : jirem (nI (rnd (nxt x))) 16 = nI (rnd (nxt x) % 16) := by rw [show (16 : Int32) = nI 16 from rfl, jirem_n (by omega) (by omega) (by omega)]
    rw [q1, q2]
    have go : ∀ h1, Fr 347 1 h h1 → Mw (h1 347) (tnS N (rnd (nxt x) % 16) (rnd (nxt x) / 16)) → ∀ y : Int32, y = nI i + 1 → wp_X8_simulate_b45 344 (nI m) Q (d + 1) (nxt x) y h1 := by
      rintro h1 F1 M1 y rfl
      rw [nI_1]
      exact ih (i + 1) (nxt x) _ h1 (by omega) M1 (ts_inv hI) (fun h' F => q h' (F1.tr F))
    generalize hw : rnd (nxt x) % 16 = how at *
    generalize hv : rnd (nxt x) / 16 = p at *
    have hw16 : how < 16 := by omega
    have hp : p < 134217728 := by omega
    rw [show (9 : Int32) = nI 9 from rfl, show (12 : Int32) = nI 12 from rfl, nI_leI (by omega) (by omega), nI_leI (by omega) (by omega)]
    by_cases c9 : 9 ≤ how
    · refine bt c9 ?_
      by_cases c12 : 12 ≤ how
      · refine bt c12 ?_
        have e50 : (1 : Int32) + jirem (nI p) 50 = nI (1 + p % 50) := by rw [show (50 : Int32) = nI 50 from rfl, jirem_n (by omega) (by omega) (by omega)]; exact nI_add 1 _
        rw [e50]
        refine mo_goOn al_347 hM hI (by omega) (fun h1 F1 M1 => ?_)
        rw [ts_t (by omega)] at go
        exact go h1 F1 M1
      · exact bf c12 (mo_turnLoop hM hI hp c9 (by omega) (fun h1 F1 M1 => go h1 F1 M1))
    · exact bf c9 (mo_turnReel hM hI hp (by omega) (fun h1 F1 M1 => go h1 F1 M1))

theorem S_simulate {h : PH} (I : II h) {Q2 : Int32 → Int32 → PH → Prop} (hQ : HQ Q2) (x : Int64) (m : Int32) : wp_L_simulate 0 x m 351 h (fun r7 h6 => wp_X8_simulate 344 x m h6 (fun r10 h9 => Q2 r7 r10 h9)) := by
  obtain ⟨N, D, A, nx, K, kb, s, t, x⟩ := id I
  have x' : PreI h N D A nx K kb s t := x
  obtain ⟨⟨hI, hR, hM⟩, ⟨b1, b2, b3⟩, ⟨c1, c2, c3⟩, d1, d2, d3⟩ := x
  have i3 := hI.1
  have i4 := hI.2.1
  have R := hR.1
  unfold wp_L_simulate wp_X7_simulate
  by_cases hm : inB m 1 61
  · obtain ⟨m, hm1, hm2, rfl⟩ := hm
    refine out_in (lo := 1) (hi := 60) hm1 (by omega) (by omega) (bt rfl (ok_copyStudio SB_22 R hI (by omega) ?_))
    intro h1 F1 _ R1
    refine ⟨m + 1, ok_sim (m := m) (by omega) m 0 x N h1 (by omega) R1 hI ?_⟩
    intro h2 F2
    have F12 := F1.tr F2
    refine wr ?_
    generalize hv : nI (1000 * celN (simG nxt rnd tnS m x N) + sndN (simG nxt rnd tnS m x N) 0) = v
    unfold wp_X8_simulate
    have m0 : Mw (up2 (up2 h2 351 0 v) 344 0 0 346) N := by rw [up2_o 346 (by decide), up2_o 346 (by decide), F12 346 (by omega)]; exact hM
    refine in_in (lo := 1) (hi := 60) hm1 (by omega) (by omega) (bf (by decide) (refu_0 (bt rfl (mo_copyState (s := 346) (t := 347) (o := 0) (u := 0) al_346 al_347 (by omega) (by omega) (by omega) (by omega) (by decide) ?_))))
    intro h3 F3 c3 _
    refine ⟨m + 1, mo_sim (m := m) (by omega) m 0 x N h3 (by omega) (cp_347 m0 c3) hI ?_⟩
    intro h4 F4
    rw [hv]
    have F34 := F3.tr F4
    refine hQ.yes I (((Eqv.trial (h2 := h2) F12).tr (Eqv.rfu (by decide) (by decide))).tr (Eqv.fr F34 (Or.inr (Or.inr (Or.inl ⟨rfl, rfl⟩))))) ?_ ?_
    · rw [F34 344 (by omega)]; exact up2_at
    · rw [F34 351 (by omega), up2_o 351 (by decide)]; exact up2_at
  · refine out_out (lo := 1) (hi := 60) hm (by omega) (by omega) (bf (by decide) ?_)
    refine ⟨fun _ => ?_, fun z => absurd rfl z⟩
    unfold wp_X8_simulate
    exact in_out (lo := 1) (hi := 60) hm (by omega) (by omega) (bt rfl (refu_1 (bf (by decide) (hQ.no I (by decide)))))

