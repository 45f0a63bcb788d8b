
theorem inB_n {x lo hi : Nat} (h : x < 2 ^ 31) (hh : hi ≤ 2 ^ 31) : inB (nI x) lo hi ↔ lo ≤ x ∧ x < hi := by
  refine ⟨fun ⟨j, a, c, e⟩ => ?_, fun q => ⟨x, q.1, q.2, rfl⟩⟩
  have := (nI_eq h (by omega)).mp e
  omega
section
variable {b : Nat} {N : Nat → Nat → Nat} {h : PH} {Q : Int32 → PH → Prop}
theorem pe_reel {x : Nat} {u v y : Int32} (hS : SB b) (hR : Rl b N h) (hI : Inv N) (hx : x < 2 ^ 31) (q1 : 2 ≤ x ∧ x ≤ 60 ∧ N 0 0 < 3 → ∀ h', Dn b (adR N x) h h' → Q 1 h') (q0 : ¬ (2 ≤ x ∧ x ≤ 60 ∧ N 0 0 < 3) → Q 0 h) : wp_X5_perform b 114 (nI x) u v y h Q := by
  unfold wp_X5_perform
  by_cases c : 2 ≤ x ∧ x ≤ 60 ∧ N 0 0 < 3
  · exact wn_reel_0 hR hI c.1 c.2.1 c.2.2 (bt rfl (bf' (by decide) (co_reel hS hR hI c.2.1 c.2.2 (fun h' D => q1 c h' D))))
  · by_cases c2 : 2 ≤ x ∧ x ≤ 60
    · exact wn_reel_3 hR hI c2.1 c2.2 (by omega) (bf (by decide) (q0 c))
    · exact wn_reel_2 (by rw [inB_n hx (by omega)]; omega) (bf (by decide) (q0 c))
theorem pe_loop {x u v y : Int32} (hS : SB b) (hR : Rl b N h) (hI : Inv N) (q1 : N 0 1 < 4 → ∀ h', Dn b (adL N) h h' → Q 1 h') (q0 : ¬ N 0 1 < 4 → Q 0 h) : wp_X5_perform b 108 x u v y h Q := by
  unfold wp_X5_perform
  by_cases c : N 0 1 < 4
  · exact wn_loop_0 hR hI c (bt rfl (bf' (by decide) (co_loop hS hR hI c (fun h' D => q1 c h' D))))
  · exact wn_loop_3 hR hI (by omega) (bf (by decide) (q0 c))
theorem pe_paint {r x y v : Nat} (hR : Rl b N h) (hI : Inv N) (hr : r < 2 ^ 31) (hx : x < 2 ^ 31) (hy : y < 2 ^ 31) (hv : v < 2 ^ 31) (q1 : r < N 0 0 ∧ x < N (1 + r) 0 ∧ y < N (1 + r) 0 ∧ x ≤ y ∧ v ≤ 9 → ∀ h', Dn b (paS N r x y v) h h' → Q 1 h') (q0 : ¬ (r < N 0 0 ∧ x < N (1 + r) 0 ∧ y < N (1 + r) 0 ∧ x ≤ y ∧ v ≤ 9) → Q 0 h) : wp_X5_perform b 112 (nI r) (nI x) (nI y) (nI v) h Q := by
  unfold wp_X5_perform
  have i3 := hI.1
  by_cases c : r < N 0 0 ∧ x < N (1 + r) 0 ∧ y < N (1 + r) 0 ∧ x ≤ y ∧ v ≤ 9
  · exact wn_paint_0 hR hI c (bt rfl (bf' (by decide) (co_paint hR hI c (fun h' D => q1 c h' D))))
  · by_cases c1 : r < N 0 0
    · have i60 := (hI.ir c1).1
      by_cases c2 : x < N (1 + r) 0
      · by_cases c3 : y < N (1 + r) 0
        · by_cases c4 : x ≤ y
          · exact wn_paint_v hR hI c1 c2 c3 c4 (by rw [inB_n hv (by omega)]; omega) (bf (by decide) (q0 c))
          · exact wn_paint_o hR hI c1 c2 c3 (by omega) (bf (by decide) (q0 c))
        · exact wn_paint_y hR hI c1 c2 (by rw [inB_n hy (by omega)]; omega) (bf (by decide) (q0 c))
      · exact wn_paint_x hR hI c1 (by rw [inB_n hx (by omega)]; omega) (bf (by decide) (q0 c))
    · exact wn_paint_r hR hI (by rw [inB_n hr (by omega)]; omega) (bf (by decide) (q0 c))
theorem pe_splice {l r x y : Nat} (hR : Rl b N h) (hI : Inv N) (hl : l < 2 ^ 31) (hr : r < 2 ^ 31) (hx : x < 2 ^ 31) (hy : y < 2 ^ 31) (q1 : l < N 0 1 ∧ r < N 0 0 ∧ x ≤ N (1 + r) 0 ∧ y ≤ N (1 + r) 0 ∧ rsN N l r x y = 0 → ∀ h', Dn b (jnS N l r x y) h h' → Q 1 h') (q0 : ¬ (l < N 0 1 ∧ r < N 0 0 ∧ x ≤ N (1 + r) 0 ∧ y ≤ N (1 + r) 0 ∧ rsN N l r x y = 0) → Q 0 h) : wp_X5_perform b 99 (nI l) (nI r) (nI x) (nI y) h Q := by
  unfold wp_X5_perform
  have i3 := hI.1
  have i4 := hI.2.1
  by_cases c1 : l < N 0 1
  · by_cases c2 : r < N 0 0
    · have i60 := (hI.ir c2).1
      by_cases c3 : x ≤ N (1 + r) 0
      · by_cases c4 : y ≤ N (1 + r) 0
        · refine wn_splice_0 hR hI ⟨c1, c2, c3, c4⟩ (bt rfl (bt' rfl (ok_loopAt hR hI c1 (ok_reelAt hR hI c2 (ok_reason hR hI c1 c2 c3 c4 ?_)))))
          have r6 := rsN_lt (N := N) (l := l) (r := r) (x := x) (y := y)
          rw [z0 (by omega)]
          by_cases c5 : rsN N l r x y = 0
          · exact bt c5 (co_splice hR hI ⟨c1, c2, c3, c4⟩ (fun _ h' D => q1 ⟨c1, c2, c3, c4, c5⟩ h' D) (fun z => absurd c5 z))
          · exact bf c5 (q0 (fun z => c5 z.2.2.2.2))
        · exact wn_splice_y hR hI c1 c2 c3 (by rw [inB_n hy (by omega)]; omega) (bf (by decide) (q0 (fun z => c4 z.2.2.2.1)))
      · exact wn_splice_x hR hI c1 c2 (by rw [inB_n hx (by omega)]; omega) (bf (by decide) (q0 (fun z => c3 z.2.2.1)))
    · exact wn_splice_r hR hI c1 (by rw [inB_n hr (by omega)]; omega) (bf (by decide) (q0 (fun z => c2 z.2.1)))
  · exact wn_splice_l hR hI (by rw [inB_n hl (by omega)]; omega) (bf (by decide) (q0 (fun z => c1 z.1)))
theorem pe_unsplice {l : Nat} {u v y : Int32} (hR : Rl b N h) (hI : Inv N) (hl : l < 2 ^ 31) (q1 : l < N 0 1 ∧ N (4 + l) 0 ≠ 0 → ∀ h', Dn b (toS N l) h h' → Q 1 h') (q0 : ¬ (l < N 0 1 ∧ N (4 + l) 0 ≠ 0) → Q 0 h) : wp_X5_perform b 117 (nI l) u v y h Q := by
  unfold wp_X5_perform
  have i4 := hI.2.1
  by_cases c1 : l < N 0 1
  · by_cases c2 : N (4 + l) 0 = 0
    · exact wn_unsplice_3 hR hI c1 c2 (bf (by decide) (q0 (fun z => z.2 c2)))
    · exact wn_unsplice_0 hR hI c1 c2 (bt rfl (bf' (by decide) (co_unsplice hR hI c1 c2 (fun h' D => q1 ⟨c1, c2⟩ h' D))))
  · exact wn_unsplice_l hR hI (by rw [inB_n hl (by omega)]; omega) (bf (by decide) (q0 (fun z => c1 z.1)))
theorem pe_speed {l p s : Nat} {y : Int32} (hR : Rl b N h) (hI : Inv N) (hl : l < 2 ^ 31) (hp : p < 2 ^ 31) (hs : s < 2 ^ 31) (q1 : l < N 0 1 ∧ (1 ≤ p ∧ p ≤ 9) ∧ 1 ≤ s ∧ s ≤ 9 → ∀ h', Dn b (spS N l p s) h h' → Q 1 h') (q0 : ¬ (l < N 0 1 ∧ (1 ≤ p ∧ p ≤ 9) ∧ 1 ≤ s ∧ s ≤ 9) → Q 0 h) : wp_X5_perform b 118 (nI l) (nI p) (nI s) y h Q := by
  unfold wp_X5_perform
  have i4 := hI.2.1
  by_cases c1 : l < N 0 1
  · by_cases c2 : 1 ≤ p ∧ p ≤ 9
    · by_cases c3 : 1 ≤ s ∧ s ≤ 9
      · exact wn_speed_0 hR hI c1 c2 c3 (bt rfl (bf' (by decide) (co_speed hR hI c1 c3.2 (fun h' D => q1 ⟨c1, c2, c3⟩ h' D))))
      · exact wn_speed_q hR hI c1 c2 (by rw [inB_n hs (by omega)]; omega) (bf (by decide) (q0 (fun z => c3 z.2.2)))
    · exact wn_speed_p hR hI c1 (by rw [inB_n hp (by omega)]; omega) (bf (by decide) (q0 (fun z => c2 z.2.1)))
  · exact wn_speed_l hR hI (by rw [inB_n hl (by omega)]; omega) (bf (by decide) (q0 (fun z => c1 z.1)))
theorem pe_mute {l : Nat} {m : Bool} {v y : Int32} (hR : Rl b N h) (hI : Inv N) (hl : l < 2 ^ 31) (q1 : l < N 0 1 → ∀ h', Dn b (muS N l m.toNat) h h' → Q 1 h') (q0 : ¬ l < N 0 1 → Q 0 h) : wp_X5_perform b 109 (nI l) (bi m) v y h Q := by
  unfold wp_X5_perform
  have i4 := hI.2.1
  by_cases c1 : l < N 0 1
  · exact wn_mute_0 hR hI c1 (bt rfl (bf' (by decide) (co_mute hR hI c1 (fun h' D => q1 c1 h' D))))
  · exact wn_mute_l hR hI (by rw [inB_n hl (by omega)]; omega) (bf (by decide) (q0 c1))
theorem pe_ticks {n : Nat} {u v y : Int32} (hR : Rl b N h) (hI : Inv N) (hn : n < 2 ^ 31) (q1 : 1 ≤ n ∧ n ≤ 999 → ∀ h', Dn b (gnN N n) h h' → Q 1 h') (q0 : ¬ (1 ≤ n ∧ n ≤ 999) → Q 0 h) : wp_X5_perform b 116 (nI n) u v y h Q := by
  unfold wp_X5_perform
  by_cases c : 1 ≤ n ∧ n ≤ 999
  · exact wn_ticks_0 c.1 c.2 (bt rfl (bf' (by decide) (co_ticks hR hI c.2 (fun h' D => q1 c h' D))))
  · exact wn_ticks_2 (by rw [inB_n hn (by omega)]; omega) (bf (by decide) (q0 c))
theorem pe_record {r n : Nat} {v y : Int32} (hR : Rl b N h) (hI : Inv N) (hr : r < 2 ^ 31) (hn : n < 2 ^ 31) (q1 : r < N 0 0 ∧ 1 ≤ n ∧ n ≤ N (1 + r) 0 → ∀ h', Dn b (rcS N r n) h h' → Q 1 h') (q0 : ¬ (r < N 0 0 ∧ 1 ≤ n ∧ n ≤ N (1 + r) 0) → Q 0 h) : wp_X5_perform b 119 (nI r) (nI n) v y h Q := by
  unfold wp_X5_perform
  have i3 := hI.1
  by_cases c1 : r < N 0 0
  · have i60 := (hI.ir c1).1
    by_cases c2 : 1 ≤ n ∧ n ≤ N (1 + r) 0
    · exact wn_record_0 hR hI c1 c2.1 c2.2 (bt rfl (bf' (by decide) (co_record hR hI c1 c2.2 (fun h' D => q1 ⟨c1, c2⟩ h' D))))
    · exact wn_record_n hR hI c1 (by rw [inB_n hn (by omega)]; omega) (bf (by decide) (q0 (fun z => c2 z.2)))
  · exact wn_record_r hR hI (by rw [inB_n hr (by omega)]; omega) (bf (by decide) (q0 (fun z => c1 z.1)))
end

