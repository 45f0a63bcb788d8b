
theorem lawQ {Qz : Int32 → PH → Prop} (C : PH → Prop) (hC : ∀ h', II h' → C h') : HQ (fun r7 r10 h9 => wp_X8_thrown 344 h9 (fun r12 h11 => ((r12 = r7) → ((¬ r7 = 0) → C h11) ∧ ((r7 = 0) → (vp_in 0 (al 351)) ∧ ((((lg_cmp ((h11 351 (0 : Int32).toNatClampNeg).toInt64) (r10.toInt64)) = 0) → C h11) ∧ ((¬ ((lg_cmp ((h11 351 (0 : Int32).toNatClampNeg).toInt64) (r10.toInt64)) = 0)) → Qz 0 h11)))) ∧ ((¬ (r12 = r7)) → Qz 0 h11))) := by
  intro r v h' I' e0 e1
  unfold wp_X8_thrown
  refine bt e0 ⟨fun _ => hC h' I', fun hr => ⟨by rw [al_351, li_0]; exact vp_in_nI (by omega) (by omega), bt ?_ (hC h' I')⟩⟩
  have c0 : (0 : Int32).toNatClampNeg = 0 := by decide
  rw [lg_cmp_eq, c0, e1 hr]
theorem lawE {L i : Nat} (hL : L ≤ 2560) (hi : i ≤ 2600) (h : L ≤ i + 4) : (Int32.ofNat L) - 5 < nI i := by
  show nI L - nI 5 < nI i
  rcases Nat.lt_or_ge L 5 with c | c
  · exact neg_lt (pk_sneg (by omega) c) (by omega)
  · rw [pk_sub c]; exact nI_lt (by omega) (by omega)
theorem lawN {L i : Nat} (hL : L ≤ 2560) (h : ¬ L ≤ i + 4) : ¬ (Int32.ofNat L) - 5 < nI i := by
  show ¬ nI L - nI 5 < nI i
  rw [pk_sub (by omega)]
  exact nI_nlt (by omega) (by omega)
set_option maxRecDepth 100000 in
theorem law_all {L : Nat} {xs : Nat → Int32} (hL : L ≤ 2560) : ∀ d i h, L ≤ i + 5 * d + 4 → i ≤ 2600 → II h → wp_L_law_b23 L xs 0 344 351 (fun r _ => r = 1) (d + 1) (nI i) h := by
  intro d
  induction d with
  | zero =>
    intro i h hi hi2 I
    unfold wp_L_law_b23
    exact bt (lawE hL hi2 (by omega)) rfl
  | succ d ih =>
    intro i h hi hi2 I
    unfold wp_L_law_b23
    by_cases c : L ≤ i + 4
    · exact bt (lawE hL hi2 c) rfl
    · have v : ∀ k, k < 5 → vp_in (nI i + nI k) L := fun k hk => by rw [nI_add]; exact vp_in_nI (by omega) (by omega)
      have v0 : vp_in (nI i) L := vp_in_nI (by omega) (by omega)
      have v1 : vp_in (nI i + 1) L := v 1 (by omega)
      have v2 : vp_in (nI i + 2) L := v 2 (by omega)
      have v3 : vp_in (nI i + 3) L := v 3 (by omega)
      have v4 : vp_in (nI i + 4) L := v 4 (by omega)
      have V1 := eq_true v1
      have V2 := eq_true v2
      have V3 := eq_true v3
      have V4 := eq_true v4
      have hC : ∀ h', II h' → ∀ x : Int32, x = nI i + 5 → wp_L_law_b23 L xs 0 344 351 (fun r _ => r = 1) (d + 1) x h' := by
        rintro h' I' x rfl
        rw [show nI i + 5 = nI (i + 5) from nI_add i 5]
        exact ih (i + 5) h' (by omega) (by omega) I'
      have hQ := lawQ (Qz := fun r _ => r = 1) _ hC
      refine bf (lawN hL c) ⟨v0, ?_⟩
      rintro x3 -
      refine ⟨fun _ => ?_, fun _ => ?_, fun _ => ?_, fun _ => ?_, fun _ => ?_, fun _ => ?_, fun _ => ?_, fun _ => ?_, fun _ => ?_, fun _ => ?_, fun _ => ?_, fun _ => ?_, fun _ => ?_, fun _ => ?_, fun _ => ?_, fun _ => ?_, fun _ => ?_, fun _ => ?_, fun _ => ?_, fun _ => ?_, fun _ => ?_, fun _ => ?_, fun _ => ?_, fun _ => ?_, fun _ => ?_, fun _ => ?_, fun _ => ?_, fun _ => ?_, fun _ => ?_, fun _ => ?_, fun _ _ _ _ _ _ _ _ _ _ _ _ _ _ _ _ _ _ _ _ _ _ _ _ _ _ _ _ _ _ => hC h I⟩
      · refine ⟨v1, ?_⟩
        simp only [V1, true_and]
        exact S_append I hQ _
      · exact S_clearText I (fun r h' I' => bt rfl (hC h' I'))
      · exact S_errorPosition I (fun r h' I' => bt rfl (hC h' I'))
      · exact S_load I hQ
      · refine ⟨v1, ?_⟩
        simp only [V1, true_and]
        exact S_about I hQ _
      · refine ⟨v1, v2, ?_⟩
        simp only [V1, V2, true_and]
        exact S_reelOf I hQ _ _
      · refine ⟨v1, v2, ?_⟩
        simp only [V1, V2, true_and]
        exact S_sound I hQ _ _
      · refine ⟨v1, v2, v3, ?_⟩
        simp only [V1, V2, V3, true_and]
        exact S_silence I hQ _ _ _
      · refine ⟨v1, v2, v3, ?_⟩
        simp only [V1, V2, V3, true_and]
        exact S_piece I hQ _ _ _
      · refine ⟨v1, v2, ?_⟩
        simp only [V1, V2, true_and]
        exact S_loopOf I hQ _ _
      · refine ⟨v1, v2, ?_⟩
        simp only [V1, V2, true_and]
        exact S_cell I hQ _ _
      · refine ⟨v1, ?_⟩
        simp only [V1, true_and]
        exact S_reel I hQ _
      · refine ⟨v1, v2, v3, v4, ?_⟩
        simp only [V1, V2, V3, V4, true_and]
        exact S_paint I hQ _ _ _ _
      · exact S_loop I hQ
      · refine ⟨v1, v2, v3, v4, ?_⟩
        simp only [V1, V2, V3, V4, true_and]
        exact S_splice I hQ _ _ _ _
      · refine ⟨v1, ?_⟩
        simp only [V1, true_and]
        exact S_unsplice I hQ _
      · refine ⟨v1, v2, v3, ?_⟩
        simp only [V1, V2, V3, true_and]
        exact S_speed I hQ _ _ _
      · refine ⟨v1, v2, ?_⟩
        by_cases e : (xs (nI i + 2).toNatClampNeg) = 0
        · refine bt e ?_
          have E := eq_true e
          simp only [V1, V2, E, true_and, not_true_eq_false, true_implies, false_implies, and_true]
          exact S_mute I hQ _ false
        · refine bf e ?_
          have E := eq_false e
          simp only [V1, V2, E, true_and, not_false_eq_true, true_implies, false_implies, and_true]
          exact S_mute I hQ _ true
      · refine ⟨v1, ?_⟩
        simp only [V1, true_and]
        exact S_ticks I hQ _
      · refine ⟨v1, v2, ?_⟩
        simp only [V1, V2, true_and]
        exact S_record I hQ _ _
      · exact S_undo I hQ
      · refine ⟨v1, ?_⟩
        simp only [V1, true_and]
        exact S_soundIn I hQ _
      · refine ⟨v1, v2, v3, ?_⟩
        simp only [V1, V2, V3, true_and]
        exact S_meet I hQ _ _ _
      · exact S_meetAll I (fun r h' I' => bt rfl (hC h' I'))
      · refine ⟨v1, v2, ?_⟩
        simp only [V1, V2, true_and]
        exact S_loudest I hQ _ _
      · refine ⟨v1, v2, ?_⟩
        simp only [V1, V2, true_and]
        exact S_turnedBy I hQ _ _
      · refine ⟨v1, v2, v3, ?_⟩
        simp only [V1, V2, V3, true_and]
        exact S_runScript I hQ _ _
      · refine ⟨v1, v2, v3, ?_⟩
        simp only [V1, V2, V3, true_and]
        exact S_simulate I hQ _ _
      · refine ⟨v1, ?_⟩
        simp only [V1, true_and]
        exact S_save I hQ _
      · refine ⟨v1, ?_⟩
        simp only [V1, true_and]
        exact S_restore I hQ _
