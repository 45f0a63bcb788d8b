set_option maxRecDepth 100000 in
set_option maxHeartbeats 8000000 in
theorem whole_start {p : Program} {e : Env} {s : State} {m : MethodId} {below : List Frame} {meth : Method} {c : Code} (l : Launch) (hflags : l.flags = flags0) {b L : Nat} {xs : Nat → Int32} (hL : L ≤ 2560) (C0 : lw_At p s m meth c b L xs) : W p l e room_1 s m #[Value.ref b] below meth c s.heap [] 0 0 (lw_Z below #[Value.ref b] s) (entryFrame m ([Value.ref b] : List Value).toArray 7) := by
  obtain ⟨hx, hb, hr, hml, hown, hts, hX, hbl, hlocks, hgv⟩ := id C0
  have hg := flat_of_before _ hgv
  have hG : GG s := GG.of hts
  have hAC : AC s := st_AC hts
  obtain ⟨D, t, hK⟩ := st_Z hts
  obtain ⟨Z, hZ1, hZ2⟩ : ∃ Z : ZT, Z.1 = D ∧ Z.2.1 = t := ⟨(D, t, fun _ => 0, 0), rfl, rfl⟩
  have hKZ : ∀ (a : Nat → Nat) (n : Nat), va_K Z.1 vwCl (zt (Z.1, Z.2.1, a, n)) s := fun a n => by rw [hZ1, hZ2]; exact hK a n
  have hKZ0 : va_K Z.1 vwCl (zt Z) s := hKZ (fun _ => 0) 0
  have B : Bg Z p s m c meth code 7 RL := ⟨hx, hb, hml, hown, hG, hKZ0, hlocks, hAC⟩
  have hA : ∀ q : Nat, s.heap.size ≤ q → (fun q : Nat => s.heap.size ≤ q) q := fun _ h => h
  have hl := lv_entry ([.ref b]) (n := 7) (Nat.le_of_ble_eq_true rfl)
  rw [lg_entry_eq]
  generalize (lg_sl ([.ref b]) ++ List.replicate (7 - (lg_sl ([.ref b])).length) Slot.unset).toArray = ls at hl ⊢
  have hl : lv_has ls 7 [(0, .ref b)] := hl
  have hH : GH Z s (fun q : Nat => s.heap.size ≤ q) (fun _ => 0) (fun _ => .inr (0, [])) 0 s.heap [] := ⟨fun k q h => by simp [gw] at h, va_S.rf, fun i j hi => absurd hi (Nat.not_lt_zero i), fun k hk => absurd hk (Nat.not_lt_zero k)⟩
  refine g_new (own := RL) B hH hA (ci := 6) (fs := [.null, .null, .null, .null, .null, .null]) rfl (ul_1 hG) tyX7 tyX7_ok (hts _ (List.mem_append_right _ (List.mem_of_getElem? (i := 22) (by decide +kernel)))) (hts _ (List.mem_append_right _ (List.mem_of_getElem? (i := 23) (by decide +kernel)))) (tg_1 hG) (fun j hj => by rcases (show j = 0 ∨ j = 1 ∨ j = 2 ∨ j = 3 ∨ j = 4 ∨ j = 5 by omega) with rfl | rfl | rfl | rfl | rfl | rfl <;> rfl) (Nat.le_of_ble_eq_true rfl) (Nat.le_of_ble_eq_true rfl) dL_law_0 ?_
  clear hH
  intro q0 a0 c0 H0 e1 e2 e3 e4 hH
  have hH : GH Z s _ a0 c0 (0 + 1) H0 _ := hH
  refine lv_dup hx hb dL_law_3 rfl ?_
  refine g_call (own := RL) (k := 0) (M := 344) (rest := [.ref q0]) B hH hA (cy_X7_init hG) (ci_X7_init l a0 c0 0 _ _ (by decide +kernel) e3 e4) ⟨⟨rfl, rfl⟩, Nat.le_of_ble_eq_true rfl, Nat.le_of_ble_eq_true rfl, Nat.le_of_ble_eq_true rfl, Nat.le_of_ble_eq_true rfl⟩ (hts _ (List.mem_append_right _ (List.mem_of_getElem? (i := 24) (by decide +kernel)))) hl.1 (Nat.le_of_ble_eq_true rfl) dL_law_4 ?_
  clear hH
  intro a1 c1 H1 locs1 f1 f2 f3 hH
  have hH : GH Z s _ a1 c1 344 H1 locs1 := hH
  have x0 : a1 0 = q0 := (f1 0 (by omega)).trans e3
  refine lv_astore_n (lv' := [(1, .ref q0), (0, .ref b)]) hx hb dL_law_7 rfl hl (by decide) rfl ?_
  clear hl
  intro ls hl
  refine g_new (own := RL) B hH hA (ci := 7) (fs := [.int 0, .null, .int 0, .null, .null, .null, .int 0, .null, .null, .int 0, .int 0]) rfl (ul_8 hG) tyX8 tyX8_ok (hts _ (List.mem_append_right _ (List.mem_of_getElem? (i := 957) (by decide +kernel)))) (hts _ (List.mem_append_right _ (List.mem_of_getElem? (i := 958) (by decide +kernel)))) (tg_8 hG) (fun j hj => by rcases (show j = 0 ∨ j = 1 ∨ j = 2 ∨ j = 3 ∨ j = 4 ∨ j = 5 ∨ j = 6 ∨ j = 7 ∨ j = 8 ∨ j = 9 ∨ j = 10 by omega) with rfl | rfl | rfl | rfl | rfl | rfl | rfl | rfl | rfl | rfl | rfl <;> rfl) (Nat.le_of_ble_eq_true rfl) (Nat.le_of_ble_eq_true rfl) dL_law_8 ?_
  clear hH
  intro q1 a2 c2 H2 g1 g2 g3 g4 hH
  have hH : GH Z s _ a2 c2 (344 + 1) H2 _ := hH
  have hFB : FB Z a2 c2 0 344 := ⟨a1, fun i hi => g1 i hi, fun j _ hj => (g2 j hj).trans (f3 j (Nat.zero_le j) (by omega))⟩
  have cy := cy_X8_init (args := #[Value.ref b]) hG
  refine lv_dup hx hb dL_law_11 rfl ?_
  refine va_callv (va_runI (Ts := []) (As := []) (rest := [.ref q1]) ⟨hx, hb, hml, hown, fun w hw => nomatch hw⟩ (ci_X8_init l a2 c2 344 H2.size q1 (by decide +kernel) rfl g3 g4 hFB (fun h => h = fun _ _ => 0) clear_0) ⟨⟨rfl, rfl, Nat.le_of_ble_eq_true rfl, Nat.le_of_ble_eq_true rfl, cy.1, List.mem_singleton.mpr rfl, cy.2.1, cy.2.2.1, cy.2.2.2.1, cy.2.2.2.2.1, (hts _ (List.mem_append_right _ (List.mem_of_getElem? (i := 959) (by decide +kernel))))⟩, cy.2.2.2.2.2.1, cy.2.2.2.2.2.2⟩ ⟨pcg_bl, fun U hU hW => ⟨rfl, by rw [hU], hG.warm hW, va_K.moved hW.alike hKZ0, hAC.warm hW, by rw [hU]; exact hH.1, hH.2.2.1⟩⟩ rfl rfl hl.1 rfl (lv_room (Nat.le_of_ble_eq_true rfl)) dL_law_12 ⟨Nat.le_of_ble_eq_true rfl, Nat.le_of_ble_eq_true rfl⟩) hH.2.1 (fun q _ z => fg_sub hH hA q z) (fun q z => fg_sub hH hA q z) (fun u t3 H3 locs3 ht hvm hw hB hz hk hS => ?_)
  obtain ⟨w1, w2, w3⟩ := hw
  obtain ⟨u1, u2⟩ := u
  have w2 : u2 = fun _ _ => 0 := w2
  subst w2
  have hB : va_P Z.1 vwCl (wl (Z.1, Z.2.1, u1, 351) (fun _ _ => 0)) t3.heap ∧ ij u1 351 := hB
  rw [ht] at hB
  have hH3 : GH Z s (fun q : Nat => s.heap.size ≤ q) u1 (ctz Z u1) 351 H3 locs3 := ⟨hB.1, hS, hB.2, fun j hj => fg_sub hH hA _ (w3 j hj)⟩
  have y0 : u1 0 = q0 := (w1 0 (by omega)).trans ((g1 0 (by omega)).trans x0)
  have y1 : u1 344 = q1 := (w1 344 (by omega)).trans g3
  refine lv_astore_n (lv' := [(2, .ref q1), (1, .ref q0), (0, .ref b)]) hx hb dL_law_15 rfl hl (by decide) rfl ?_
  clear hl
  intro ls hl
  refine lv_iconst (v := 1) hx hb dL_law_16 (by decide) ?_
  refine g_newl B hH3 hA (N' := 1) (by decide) (by decide) (Nat.le_of_ble_eq_true rfl) (Nat.le_of_ble_eq_true rfl) (Nat.le_of_ble_eq_true rfl) dL_law_17 ?_
  intro q2 a4 c4 H4 i1 i2 i3 i4 hH4
  refine lv_astore_n (lv' := [(3, .ref q2), (2, .ref q1), (1, .ref q0), (0, .ref b)]) hx hb dL_law_19 rfl hl (by decide) rfl ?_
  clear hl
  intro ls hl
  refine lv_iconst (v := 0) hx hb dL_law_20 (by decide) ?_
  refine lv_istore (lv' := [(4, .int 0), (3, .ref q2), (2, .ref q1), (1, .ref q0), (0, .ref b)]) hx hb dL_law_21 hl (by decide) rfl ?_
  clear hl
  intro ls hl
  have z0 : a4 0 = q0 := (i1 0 (by omega)).trans y0
  have z1 : a4 344 = q1 := (i1 344 (by omega)).trans y1
  have hP : va_P Z.1 vwCl (gw a4 (ctz Z a4) 352) H4 := gw_fin hH4.1 (fun j hj h => by
    by_cases q : j < 351
    · rw [i2 j q] at h
      have r : rm j < 351 := (by decide +kernel : ∀ j, j < 351 → rm j < 351) j q
      exact at_cong (fun i hi => i1 i (by omega)) h
    · have q : j = 351 := by omega
      subst q
      rw [i4] at h
      rw [ctz_12 kd_351, al_351]
      exact h)
  have fA : ∀ q, fr (Z.1, Z.2.1, a4, 352) s.heap.size q → s.heap.size ≤ q := fun q h => h.elim (fun ⟨i, hi, e⟩ => by rw [e]; exact hH4.2.2.2 i hi) id
  have hZO : ZO (Z.1, Z.2.1, a4, 352) := ⟨hH4.2.2.1, Nat.le_of_ble_eq_true rfl⟩
  have hBx : Bx (Z.1, Z.2.1, a4, 352) p s m c meth code 7 RL := ⟨hx, hb, hml, hown, hG, hKZ a4 352, hlocks, hZO⟩
  have hnA : ∀ a : Nat, a < s.heap.size → ¬ fr (Z.1, Z.2.1, a4, 352) s.heap.size a := fun a h z => by have := fA a z; omega
  have hBX : BX (Z.1, Z.2.1, a4, 352) l s := ⟨st_SX hts hg hnA, st_SR hts hg, st_NC hg, st_noT l hflags⟩
  have hHH : HH (Z.1, Z.2.1, a4, 352) s (fun _ _ => 0) H4 locs3 := ⟨hP, hH4.2.1.1, fun q h1 h2 => hH4.2.1.2.1 q h1 (fun z => h2 (Or.inr z)), fun z hz => Or.inr (hH4.2.1.2.2 z hz)⟩
  refine law_loop (Z := (Z.1, Z.2.1, a4, 352)) l hBx hr hBX rfl hX hbl (hnA b hbl) (fun k hk => hH4.2.2.2 k hk) (fun r _ => r = 1) (fun r h z => z) 0 344 351 (by decide +kernel) (by decide +kernel) (by decide +kernel) (513 + 1) 0 (fun _ _ => 0) _ _ H4 locs3 ls (Nat.le_of_ble_eq_true rfl) (Nat.le_of_ble_eq_true rfl) (law_all hL 513 0 (fun _ _ => 0) (by omega) (by omega) II_0) hHH ?_
  have hl : lv_has ls 7 [(4, .int 0), (3, .ref q2), (2, .ref q1), (1, .ref q0), (0, .ref b)] := hl
  show lv_has ls 7 [(0, .ref b), (1, .ref (a4 0)), (2, .ref (a4 344)), (3, .ref (a4 351)), (4, .int 0)]
  rw [z0, z1, i3]
  exact lv_sub hl [4, 3, 2, 1, 0] rfl
set_option maxHeartbeats 4000000 in
theorem lw_walk (l : Launch) (hflags : l.flags = flags0) (b : Addr) (xs : List Int32) : MetFree l x (headSpec (Jvm.Cond.code x code maxLocals ret :: tables_1) room_1) (lw_P b xs) (fun _ _ _ _ _ => True) lw_Q := by
  refine MetFree.of_bodyS (code := code) (maxLocals := maxLocals) (ret := ret) (by decide) ?_ ?_
  · intro args s m h hn
    obtain ⟨meth, c, h1, h2, h3, h4, h5, h6, -, -⟩ := Cond.code_spec hn (atoms_spec (ws := Jvm.Cond.code x code maxLocals ret :: tables_1) h _ List.mem_cons_self)
    exact ⟨meth, c, h1, h2, h3, h4, h5, h6⟩
  · intro p e s m args below meth c s₁ B hml0 hP _
    obtain ⟨rfl, hx, hbd, hgv⟩ := hP
    obtain ⟨scr, harrAt, hlist, hof, hsmall⟩ := hx
    obtain ⟨hcb, hkn, -, -⟩ := State.arrayAt?_spec harrAt
    have hown : s.vm.findClass R_law = some m.cls := findClass_of_methodNamed B.named
    have hts0 : ∀ c ∈ (Jvm.Cond.code x code maxLocals ret :: tables_1), c.before #[Value.ref b] s = true := atoms_spec (ws := Jvm.Cond.code x code maxLocals ret :: tables_1) B.pre
    have hts : ∀ w ∈ lw_tbl, w.before #[Value.ref b] s = true := k2_hts_sels lw_privs (fun w hw => hts0 w (List.mem_cons_of_mem _ hw)) lw_privs_ok
    have hml : c.maxLocals = 7 := B.maxLocals_eq (hts0 _ List.mem_cons_self)
    have X₀ : Stand p l e room_1 s m #[Value.ref b] below meth c s₁ [] 0 0 := Stand.of_body B
    have hh0 : s₁.heap = s.heap := by rw [B.state]; rfl
    have hsz : scr.slots.size = xs.length := by rw [← Array.length_toList, hlist, List.length_map]
    have hval : ∀ j : Nat, j < xs.length → scr.slots[j]? = some (.int (xs.getD j 0)) := fun j hj => by
      rw [← Array.getElem?_toList, hlist]
      simp [hj]
    have hbl : b < s.heap.size := (Array.getElem?_eq_some_iff.mp hcb).1
    have hX : va_X b xs.length (fun j => xs.getD j 0) s s.heap := ⟨scr, hcb, hof, hkn, hsz, hval⟩
    have K : W p l e room_1 s m #[Value.ref b] below meth c s₁.heap [] 0 0 (lw_Z below #[Value.ref b] s) (entryFrame m ([Value.ref b] : List Value).toArray 7) := by
      rw [hh0]
      exact whole_start l hflags hbd ⟨B.exec, B.bytes, B.returns, hml, hown, hts, hX, hbl, B.notSynchronized, hgv⟩
    obtain ⟨t, a1, o, b1, b2, b3⟩ := K s₁ rfl X₀
    exact ⟨t, o, a1, b1, b2, b3⟩
theorem lw_pre_spec {args : Array Value} {s : State} (h : (Jvm.Cond.and given_1 narrow_1).before args s = true) (hr : rest_1_c.before args s = true) : ∃ (b : Addr) (xs : List Int32), lw_P b xs args s := by
  have hs := flat_of_before _ h
  have hq := flat_of_before _ hr
  have hc : (Cond.count 1).before args s = true := hs _ (by decide +kernel)
  have harr : (Cond.arrayOf (.arg 0) .int).before args s = true := hs _ (by decide +kernel)
  have hle : (Cond.le (.length (.arg 0)) (.int 2560)).before args s = true := hs _ (by decide +kernel)
  have hlen : (Cond.isInt (.length (.arg 0))).before args s = true := hq _ (by decide +kernel)
  have hall : (Cond.all (.arg 0) (.isInt (.elem (.arg 0) (.index 0)))).before args s = true := hq _ (by decide +kernel)
  obtain ⟨b, xs, hb, hx⟩ := State.ints_of_pre rfl harr hlen hall
  have hsm : xs.length < 2 ^ 31 := hx.choose_spec.2.2.2
  have hev : (Term.length (.arg 0)).eval args s none [] s = some (.int xs.length.toInt32) := hx.length_eval hb
  have hv := Cond.le_ints hev (show (Term.int 2560).eval args s none [] s = some (.int 2560) from rfl)
  have hd : xs.length.toInt32 ≤ 2560 := by
    simpa [Cond.before, Cond.holds, hv] using hle
  have hN : xs.length ≤ 2560 := (Int32.ofNat_le_ofNat hsm (by decide)).mp (show Int32.ofNat xs.length ≤ Int32.ofNat 2560 from hd)
  exact ⟨b, xs, Cond.one_arg hc (show args[0]? = some (.ref b) from hb), hx, hN, h⟩
theorem lw_comes (l : Launch) (hflags : l.flags = flags0) : Comes l x (Jvm.Cond.code x code maxLocals ret :: tables_1) room_1 (fun tb e args s => Calls_1 tb e args s ∧ rest_1 tb e args s ∧ Pre_1 tb e args s)
    (fun _ _ args s o t => lw_Q args s o t) := by
  intro p e ha hc hk s m args below hf hfit hheap happ hpre
  obtain ⟨b, xs, hP⟩ := lw_pre_spec hpre.2.2 hpre.2.1
  obtain ⟨k, o, h1, h2, h3, hQ⟩ := lw_walk l hflags b xs p e ha hc hk s m args below hf ((Spec.applies_iff_loose hf).mp happ).1 hP trivial
  exact ⟨k, o, h1, h2, h3, hQ⟩
theorem lw_frame {s t : State} {o : Outcome} {args : Array Value} (h : Framed s o t [] 601024 7293034) :
    Framed s o t (fieldLocs frame_1_writes args s ++ arrayLocs frame_1_arrays args s ++ staticLocs frame_1_statics s) 601024 7293034 := h
theorem lw_limb (L : Cond) (hL : ∀ (args : Array Value) (s t : State), L.after args s (.returned (some (.int 1))) t = true) :
    ArmFor flags0 classFile x code maxLocals ret World_1 tables_1 room_1 Calls_1 rest_1 Pre_1
      (fun tb e a s o t => postC L tb e a s o t ∧ Framed s o t (fieldLocs frame_1_writes a s ++ arrayLocs frame_1_arrays a s ++ staticLocs frame_1_statics s) 601024 7293034) := by
  intro l hflags _ _ p e ha hc hk s m args below hf hfit hheap happ hpre
  obtain ⟨k, o, h1, h2, h3, rfl, hF⟩ := lw_comes l hflags p e ha hc hk s m args below hf hfit hheap happ hpre
  exact ⟨k, _, h1, h2, h3, hL args s _, lw_frame hF⟩
theorem i_vc : Claimed_1_1 ∧ Claimed_1_2 := ⟨lw_limb limb_1_1 (fun args s t => by simp [limb_1_1, Cond.after, Cond.holds, Cond.value]), lw_limb limb_1_2 (fun args s t => Cond.after_iff.mpr (by
  first | (rw [show limb_1_2 = Cond.eq .result (.int 1) from rfl, Cond.eq_ints (x := 1) (y := 1) rfl rfl]; simp; done) | (simp [limb_1_2, Cond.value, Term.eval]; done)))⟩

