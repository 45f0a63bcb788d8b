def wp_J9_max_7cf53 (a0 : Int32) (a1 : Int32) (h : PH) (Q : Int32 → PH → Prop) : Prop := ((a0 < a1) → Q a1 h) ∧ ((¬ (a0 < a1)) → Q a0 h)
def wp_J9_min_7cf53 (a0 : Int32) (a1 : Int32) (h : PH) (Q : Int32 → PH → Prop) : Prop := ((a1 < a0) → Q a1 h) ∧ ((¬ (a1 < a0)) → Q a0 h)
def wp_X7_copyRow (a0 : Nat) (a1 : Nat) (a2 : Int32) (h : PH) (Q : PH → Prop) : Prop := wp_J9_min_7cf53 (nI (al a0)) (nI (al a1)) h (fun r2 h1 => wp_J9_min_7cf53 a2 r2 h1 (fun r4 h3 => wp_J9_max_7cf53 0 r4 h3 (fun r6 h5 => (¬ (0 : Int32) < 0 ∧ ¬ (0 : Int32) < 0 ∧ ¬ r6 < 0 ∧ (0 : Int32).toNatClampNeg + r6.toNatClampNeg ≤ al a0 ∧ (0 : Int32).toNatClampNeg + r6.toNatClampNeg ≤ al a1) ∧ (Q (cp2 h5 a0 0 a1 0 r6)))))
def wp_X7_get (a0 : Nat) (a1 : Int32) (h : PH) (Q : Int32 → PH → Prop) : Prop := ((a1 < 0) → Q 0 h) ∧ ((¬ (a1 < 0)) → ((a1 < (nI (al a0))) → (vp_in a1 (al a0)) ∧ (Q (h a0 a1.toNatClampNeg) h)) ∧ ((¬ (a1 < (nI (al a0)))) → Q 0 h))
def wp_X7_put (a0 : Nat) (a1 : Int32) (a2 : Int32) (h : PH) (Q : PH → Prop) : Prop := ((a1 < 0) → Q h) ∧ ((¬ (a1 < 0)) → (((nI (al a0)) ≤ a1) → Q h) ∧ ((¬ ((nI (al a0)) ≤ a1)) → (vp_in a1 (al a0)) ∧ (Q (up2 h a0 a1.toNatClampNeg a2))))
def wp_J9_floorMod_7cf53 (a0 : Int32) (a1 : Int32) (h : PH) (Q : Int32 → PH → Prop) : Prop := (¬ a1 = 0) ∧ (∀ x2 : Int32, x2 = jirem a0 a1 → ((0 ≤ (a0 ^^^ a1)) → Q x2 h) ∧ ((¬ (0 ≤ (a0 ^^^ a1))) → ((x2 = 0) → Q x2 h) ∧ ((¬ (x2 = 0)) → Q (x2 + a1) h)))
def wp_X7_outside (a0 : Int32) (a1 : Int32) (a2 : Int32) (h : PH) (Q : Int32 → PH → Prop) : Prop := ((a0 < a1) → Q 1 h) ∧ ((¬ (a0 < a1)) → ((a0 ≤ a2) → Q 0 h) ∧ ((¬ (a0 ≤ a2)) → Q 1 h))
def wp_X3_copyFrom (a0 : Nat) (a1 : Nat) (h : PH) (Q : PH → Prop) : Prop := wp_X7_copyRow (a1 + 1) (a0 + 1) ((up2 h a0 1 (h a1 1)) a1 1) (up2 h a0 1 (h a1 1)) (fun h1 => Q h1)
def wp_X3_begin_b7 (b0 : Nat) (Q : PH → Prop) : Nat → Int32 → PH → Prop
  | 0, _, _ => False
  | n + 1, b2, h => (((nI (al (b0 + 1))) ≤ b2) → Q h) ∧ ((¬ ((nI (al (b0 + 1))) ≤ b2)) → (vp_in b2 (al (b0 + 1))) ∧ (∀ x3 : Int32, x3 = b2 + 1 → wp_X3_begin_b7 b0 Q n x3 (up2 h (b0 + 1) b2.toNatClampNeg 0)))
def wp_X3_begin (a0 : Nat) (a1 : Int32) (h : PH) (Q : PH → Prop) : Prop := ∃ n4 : Nat, wp_X3_begin_b7 a0 Q n4 0 (up2 h a0 1 a1)
def wp_X3_hasCell (a0 : Nat) (a1 : Int32) (h : PH) (Q : Int32 → PH → Prop) : Prop := wp_X7_outside a1 0 ((h a0 1) - 1) h (fun r2 h1 => ((¬ r2 = 0) → Q 0 h1) ∧ ((r2 = 0) → Q 1 h1))
def wp_X3_hasPlace (a0 : Nat) (a1 : Int32) (h : PH) (Q : Int32 → PH → Prop) : Prop := wp_X7_outside a1 0 (h a0 1) h (fun r2 h1 => ((¬ r2 = 0) → Q 0 h1) ∧ ((r2 = 0) → Q 1 h1))
def wp_X3_isSilent (a0 : Nat) (a1 : Int32) (h : PH) (Q : Int32 → PH → Prop) : Prop := wp_X7_get (a0 + 1) a1 h (fun r2 h1 => ((¬ r2 = 0) → Q 0 h1) ∧ ((r2 = 0) → Q 1 h1))
def wp_X3_isQuiet (a0 : Nat) (a1 : Int32) (h : PH) (Q : Int32 → PH → Prop) : Prop := ((a1 = 0) → Q 1 h) ∧ ((¬ (a1 = 0)) → ((a1 = (h a0 1)) → Q 1 h) ∧ ((¬ (a1 = (h a0 1))) → wp_X7_get (a0 + 1) (a1 - 1) h (fun r4 h3 => ((¬ r4 = 0) → Q 0 h3) ∧ ((r4 = 0) → wp_X7_get (a0 + 1) a1 h3 (fun r7 h6 => ((¬ r7 = 0) → Q 0 h6) ∧ ((r7 = 0) → Q 1 h6))))))
def wp_X3_startsRow (a0 : Nat) (a1 : Int32) (a2 : Int32) (h : PH) (Q : Int32 → PH → Prop) : Prop := wp_X3_isSilent a0 a1 h (fun r2 h1 => ((¬ r2 = a2) → Q 0 h1) ∧ ((r2 = a2) → ((a1 = 0) → Q 1 h1) ∧ ((¬ (a1 = 0)) → wp_X3_isSilent a0 (a1 - 1) h1 (fun r6 h5 => ((r6 = a2) → Q 0 h5) ∧ ((¬ (r6 = a2)) → Q 1 h5)))))
def wp_X3_countRows_b4 (b0 : Nat) (b1 : Int32) (Q : Int32 → PH → Prop) : Nat → Int32 → Int32 → PH → Prop
  | 0, _, _, _ => False
  | n + 1, b2, b3, h => (((h b0 1) ≤ b3) → Q b2 h) ∧ ((¬ ((h b0 1) ≤ b3)) → wp_X3_startsRow b0 b3 b1 h (fun r3 h2 => ((r3 = 0) → ∀ x5 : Int32, x5 = b3 + 1 → wp_X3_countRows_b4 b0 b1 Q n b2 x5 h2) ∧ ((¬ (r3 = 0)) → ∀ x6 : Int32, x6 = b2 + 1 → ∀ x7 : Int32, x7 = b3 + 1 → wp_X3_countRows_b4 b0 b1 Q n x6 x7 h2)))
def wp_X3_countRows (a0 : Nat) (a1 : Int32) (h : PH) (Q : Int32 → PH → Prop) : Prop := ∃ n8 : Nat, wp_X3_countRows_b4 a0 a1 Q n8 0 0 h
def wp_X3_startOfRow_b5 (b0 : Nat) (b1 : Int32) (b2 : Int32) (Q : Int32 → PH → Prop) : Nat → Int32 → Int32 → PH → Prop
  | 0, _, _, _ => False
  | n + 1, b3, b4, h => (((h b0 1) ≤ b4) → Q (-1) h) ∧ ((¬ ((h b0 1) ≤ b4)) → wp_X3_startsRow b0 b4 b2 h (fun r3 h2 => ((r3 = 0) → ∀ x5 : Int32, x5 = b4 + 1 → wp_X3_startOfRow_b5 b0 b1 b2 Q n b3 x5 h2) ∧ ((¬ (r3 = 0)) → ((¬ b3 = b1) → ∀ x7 : Int32, x7 = b3 + 1 → ∀ x8 : Int32, x8 = b4 + 1 → wp_X3_startOfRow_b5 b0 b1 b2 Q n x7 x8 h2) ∧ ((b3 = b1) → Q b4 h2))))
def wp_X3_startOfRow (a0 : Nat) (a1 : Int32) (a2 : Int32) (h : PH) (Q : Int32 → PH → Prop) : Prop := ∃ n9 : Nat, wp_X3_startOfRow_b5 a0 a1 a2 Q n9 0 0 h
def wp_X3_rowLength_b2 (b0 : Nat) (b1 : Int32) (Q : Int32 → PH → Prop) : Nat → Int32 → PH → Prop
  | 0, _, _ => False
  | n + 1, b2, h => (((h b0 1) ≤ b2) → Q (b2 - b1) h) ∧ ((¬ ((h b0 1) ≤ b2)) → wp_X3_isSilent b0 b2 h (fun r3 h2 => wp_X3_isSilent b0 b1 h2 (fun r5 h4 => ((¬ r3 = r5) → Q (b2 - b1) h4) ∧ ((r3 = r5) → ∀ x7 : Int32, x7 = b2 + 1 → wp_X3_rowLength_b2 b0 b1 Q n x7 h4))))
def wp_X3_rowLength (a0 : Nat) (a1 : Int32) (h : PH) (Q : Int32 → PH → Prop) : Prop := ∃ n8 : Nat, wp_X3_rowLength_b2 a0 a1 Q n8 a1 h
def wp_X3_firstQuiet_b10 (b0 : Nat) (b2 : Int32) (Q : Int32 → PH → Prop) : Nat → Int32 → PH → Prop
  | 0, _, _ => False
  | n + 1, b3, h => ((b2 < b3) → Q (-1) h) ∧ ((¬ (b2 < b3)) → wp_X3_isQuiet b0 b3 h (fun r6 h5 => ((r6 = 0) → ∀ x8 : Int32, x8 = b3 + 1 → wp_X3_firstQuiet_b10 b0 b2 Q n x8 h5) ∧ ((¬ (r6 = 0)) → Q b3 h5)))
def wp_X3_firstQuiet (a0 : Nat) (a1 : Int32) (h : PH) (Q : Int32 → PH → Prop) : Prop := wp_X3_rowLength a0 a1 h (fun r2 h1 => ∀ x3 : Int32, x3 = a1 + r2 → ∃ n9 : Nat, wp_X3_firstQuiet_b10 a0 x3 Q n9 a1 h1)
def wp_X3_greatestSound_b13 (b0 : Nat) (b2 : Int32) (Q : Int32 → PH → Prop) : Nat → Int32 → Int32 → PH → Prop
  | 0, _, _, _ => False
  | n + 1, b3, b4, h => ((b2 ≤ b4) → Q b3 h) ∧ ((¬ (b2 ≤ b4)) → wp_X7_get (b0 + 1) b4 h (fun r6 h5 => wp_J9_max_7cf53 b3 r6 h5 (fun r8 h7 => ∀ x9 : Int32, x9 = b4 + 1 → wp_X3_greatestSound_b13 b0 b2 Q n r8 x9 h7)))
def wp_X3_greatestSound (a0 : Nat) (a1 : Int32) (h : PH) (Q : Int32 → PH → Prop) : Prop := wp_X3_rowLength a0 a1 h (fun r2 h1 => ∀ x3 : Int32, x3 = a1 + r2 → ∃ n10 : Nat, wp_X3_greatestSound_b13 a0 x3 Q n10 0 a1 h1)
def wp_X3_longestSilence_b4 (b0 : Nat) (Q : Int32 → PH → Prop) : Nat → Int32 → Int32 → PH → Prop
  | 0, _, _, _ => False
  | n + 1, b1, b2, h => (((h b0 1) ≤ b2) → Q b1 h) ∧ ((¬ ((h b0 1) ≤ b2)) → wp_X3_startsRow b0 b2 1 h (fun r3 h2 => ((r3 = 0) → ∀ x5 : Int32, x5 = b2 + 1 → wp_X3_longestSilence_b4 b0 Q n b1 x5 h2) ∧ ((¬ (r3 = 0)) → wp_X3_rowLength b0 b2 h2 (fun r7 h6 => wp_J9_max_7cf53 b1 r7 h6 (fun r9 h8 => ∀ x10 : Int32, x10 = b2 + 1 → wp_X3_longestSilence_b4 b0 Q n r9 x10 h8)))))
def wp_X3_longestSilence (a0 : Nat) (h : PH) (Q : Int32 → PH → Prop) : Prop := ∃ n11 : Nat, wp_X3_longestSilence_b4 a0 Q n11 0 0 h
def wp_X3_sumOfSounds_b4 (b0 : Nat) (Q : Int32 → PH → Prop) : Nat → Int32 → Int32 → PH → Prop
  | 0, _, _, _ => False
  | n + 1, b1, b2, h => (((h b0 1) ≤ b2) → Q b1 h) ∧ ((¬ ((h b0 1) ≤ b2)) → wp_X7_get (b0 + 1) b2 h (fun r3 h2 => ∀ x4 : Int32, x4 = b1 + r3 → ∀ x5 : Int32, x5 = b2 + 1 → wp_X3_sumOfSounds_b4 b0 Q n x4 x5 h2))
def wp_X3_sumOfSounds (a0 : Nat) (h : PH) (Q : Int32 → PH → Prop) : Prop := ∃ n6 : Nat, wp_X3_sumOfSounds_b4 a0 Q n6 0 0 h
def wp_X3_lay_b6 (b0 : Nat) (b2 : Int32) (b3 : Int32) (Q : Int32 → PH → Prop) : Nat → Int32 → Int32 → PH → Prop
  | 0, _, _, _ => False
  | n + 1, b4, b5, h => ((b2 < b5) → Q b4 h) ∧ ((¬ (b2 < b5)) → wp_X7_get (b0 + 1) b5 h (fun r3 h2 => ((r3 = b3) → ∀ x5 : Int32, x5 = b5 + 1 → wp_X3_lay_b6 b0 b2 b3 Q n b4 x5 h2) ∧ ((¬ (r3 = b3)) → wp_X7_put (b0 + 1) b5 b3 h2 (fun h6 => ∀ x7 : Int32, x7 = b4 + 1 → ∀ x8 : Int32, x8 = b5 + 1 → wp_X3_lay_b6 b0 b2 b3 Q n x7 x8 h6))))
def wp_X3_lay (a0 : Nat) (a1 : Int32) (a2 : Int32) (a3 : Int32) (h : PH) (Q : Int32 → PH → Prop) : Prop := ∃ n9 : Nat, wp_X3_lay_b6 a0 a2 a3 Q n9 0 a1 h
