/-! a world that grows: N cells so far, cell k at a k, its contents c k -/
def gw (a : Nat → Nat) (c : Nat → va_E) (N : Nat) : va_W := (List.range N).map (fun k => (a k, c k))
theorem gw_get {a : Nat → Nat} {c : Nat → va_E} {N k : Nat} (h : k < N) : (gw a c N)[k]? = some (a k, c k) := by
  unfold gw
  rw [List.getElem?_map, List.getElem?_range h]
  rfl
theorem gw_at {a : Nat → Nat} {c : Nat → va_E} {N k x : Nat} {e : va_E} (h : k < N) (hx : a k = x) (he : c k = e) : (gw a c N)[k]? = some (x, e) := by rw [gw_get h, hx, he]
theorem gw_len {a : Nat → Nat} {c : Nat → va_E} {N : Nat} : (gw a c N).length = N := by unfold gw; rw [List.length_map, List.length_range]
theorem gw_of {a : Nat → Nat} {c : Nat → va_E} {N i : Nat} {q : Nat × va_E} (e : (gw a c N)[i]? = some q) : i < N ∧ q = (a i, c i) := by
  have hi : i < N := by have := (List.getElem?_eq_some_iff.mp e).1; rwa [gw_len] at this
  rw [gw_get hi] at e
  exact ⟨hi, (Option.some.inj e).symm⟩
theorem gw_ext {a a1 : Nat → Nat} {c c1 : Nat → va_E} {N : Nat} (h1 : ∀ k, k < N → a1 k = a k) (h2 : ∀ k, k < N → c1 k = c k) : gw a1 c1 N = gw a c N := by
  apply List.ext_getElem?
  intro i
  by_cases hi : i < N
  · rw [gw_get hi, gw_get hi, h1 i hi, h2 i hi]
  · rw [List.getElem?_eq_none (by rw [gw_len]; omega), List.getElem?_eq_none (by rw [gw_len]; omega)]
theorem gw_succ {a : Nat → Nat} {c : Nat → va_E} {N : Nat} : gw a c (N + 1) = gw a c N ++ [(a N, c N)] := by
  unfold gw
  rw [List.range_succ, List.map_append]
  rfl
theorem gw_set {a : Nat → Nat} {c c1 : Nat → va_E} {N k x : Nat} {e : va_E} (hx : a k = x) (hk : k < N) (he : c1 k = e) (ho : ∀ i, i ≠ k → c1 i = c i) : (gw a c N).set k (x, e) = gw a c1 N := by
  apply List.ext_getElem?
  intro i
  by_cases hi : i < N
  · by_cases hik : i = k
    · subst hik
      rw [List.getElem?_set_self (by rw [gw_len]; exact hi), gw_get hi, he, hx]
    · rw [List.getElem?_set_ne (Ne.symm hik), gw_get hi, gw_get hi, ho i hik]
  · rw [List.getElem?_eq_none (by rw [List.length_set, gw_len]; omega), List.getElem?_eq_none (by rw [gw_len]; omega)]
def ij (a : Nat → Nat) (N : Nat) : Prop := ∀ i j, i < N → j < N → a i = a j → i = j
def fg (a : Nat → Nat) (N sz : Nat) : Nat → Prop := fun q => (∃ k, k < N ∧ q = a k) ∨ sz ≤ q
def GH (Z : ZT) (s : State) (A : Nat → Prop) (a : Nat → Nat) (c : Nat → va_E) (N : Nat) (H : Heap) (locs : List Loc) : Prop := va_P Z.1 vwCl (gw a c N) H ∧ va_S A s.heap H locs ∧ ij a N ∧ ∀ k, k < N → A (a k)
theorem gh_D {Z : ZT} {s : State} {A : Nat → Prop} {a : Nat → Nat} {c : Nat → va_E} {N : Nat} {H : Heap} {locs : List Loc} (h : GH Z s A a c N H locs) : va_D A (gw a c N) := by
  refine ⟨fun i j p q hi hj e => ?_, fun i q hi => ?_⟩
  · obtain ⟨h1, rfl⟩ := gw_of hi
    obtain ⟨h2, rfl⟩ := gw_of hj
    exact h.2.2.1 i j h1 h2 e
  · obtain ⟨h1, rfl⟩ := gw_of hi
    exact h.2.2.2 i h1
def AC (U : State) : Prop := (Cond.arrayClass .int).before #[] U = true ∧ (Cond.arrayClass .boolean).before #[] U = true ∧ (Cond.arrayClass .long).before #[] U = true ∧ va_AO "SplicedLoops$Reel" U ∧ va_AO "SplicedLoops$Loop" U ∧ va_AO "SplicedLoops$Studio" U
theorem ac_any {ty : FieldType} {U : State} {A A' : Array Value} (h : (Cond.arrayClass ty).before A U = true) : (Cond.arrayClass ty).before A' U = true := h
theorem AC.warm {s U : State} (hW : s.WarmedH U.vm) (h : AC s) : AC U := ⟨word_at hW (Or.inr ⟨_, rfl⟩) h.1, word_at hW (Or.inr ⟨_, rfl⟩) h.2.1, word_at hW (Or.inr ⟨_, rfl⟩) h.2.2.1, h.2.2.2.1.moved hW.alike, h.2.2.2.2.1.moved hW.alike, h.2.2.2.2.2.moved hW.alike⟩
theorem AC.vm {s U : State} (hv : U.vm = s.vm) (h : AC s) : AC U := by
  have hvm : s.vm.Alike U.vm := by rw [hv]; exact Vm.Alike.refl _
  have k : ∀ ty, (Cond.arrayClass ty).before #[] s = true → (Cond.arrayClass ty).before #[] U = true := by
    intro ty h1
    simp only [Cond.before, Cond.holds, Cond.value] at h1 ⊢
    rw [hv]
    exact h1
  exact ⟨k _ h.1, k _ h.2.1, k _ h.2.2.1, h.2.2.2.1.moved hvm, h.2.2.2.2.1.moved hvm, h.2.2.2.2.2.moved hvm⟩
def Bg (Z : ZT) (p : Program) (s : State) (m : MethodId) (c : Code) (meth : Method) (cc : ByteArray) (nL : Nat) (own : String) : Prop :=
  p.tables.exec = Jvm.exec ∧ c.code = cc ∧ c.maxLocals = nL ∧ s.vm.findClass own = some m.cls ∧ GG s ∧ va_K Z.1 vwCl (zt Z) s ∧ meth.locks = false ∧ AC s
def ctz (Z : ZT) (a : Nat → Nat) (j : Nat) : va_E := ct (Z.1, Z.2.1, a, 0) (fun _ _ => 0) j
/-- cells lo .. hi - 1 are done: they are as in a new object, by some addresses that are a's below hi -/
def FB (Z : ZT) (a : Nat → Nat) (c : Nat → va_E) (lo hi : Nat) : Prop := ∃ a0 : Nat → Nat, (∀ i, i < hi → a i = a0 i) ∧ ∀ j, lo ≤ j → j < hi → c j = ctz Z a0 j
theorem FB.up {Z : ZT} {a a1 : Nat → Nat} {c c1 : Nat → va_E} {lo hi : Nat} (h : FB Z a c lo hi) (e1 : ∀ i, i < hi → a1 i = a i) (e2 : ∀ j, lo ≤ j → j < hi → c1 j = c j) : FB Z a1 c1 lo hi := by
  obtain ⟨a0, h1, h2⟩ := h
  exact ⟨a0, fun i hi => (e1 i hi).trans (h1 i hi), fun j k1 k2 => (e2 j k1 k2).trans (h2 j k1 k2)⟩
def PcG (Z : ZT) (sz : Nat) (a : Nat → Nat) (c : Nat → va_E) (N : Nat) (av : List Value) : Array Value → State → Prop := va_Pc av (fun U => U.heap.size = sz ∧ GG U ∧ va_K Z.1 vwCl (zt Z) U ∧ AC U ∧ va_P Z.1 vwCl (gw a c N) U.heap ∧ ij a N)
theorem pcg_bl {Z : ZT} {sz : Nat} {a : Nat → Nat} {c : Nat → va_E} {N : Nat} {av : List Value} : FrameBlind (PcG Z sz a c N av) := fun b U g mk q => ⟨q.1, q.2.1, GG.vm (s := U) (U := U.calling g mk b) rfl q.2.2.1, va_K.moved (u := U) (U := U.calling g mk b) (Vm.Alike.refl U.vm) q.2.2.2.1, AC.vm (s := U) (U := U.calling g mk b) rfl q.2.2.2.2.1, q.2.2.2.2.2⟩
abbrev GU : Type := (Nat → Nat) × (Nat → va_E)
/-- what a constructor leaves: from cell k on, M new-made cells -/
def QG (Z : ZT) (a : Nat → Nat) (c : Nat → va_E) (k M sz : Nat) : GU → Prop := fun u => (∀ j, j < k + 1 → u.1 j = a j) ∧ (∀ j, j < k → u.2 j = c j) ∧ (∀ j, k ≤ j → j < k + M → u.2 j = ctz Z u.1 j) ∧ ∀ j, j < k + M → fg a (k + 1) sz (u.1 j)
def BG (Z : ZT) (N : Nat) : GU → State → Prop := fun u t => va_P Z.1 vwCl (gw u.1 u.2 N) t.heap ∧ ij u.1 N
def MG (Z : ZT) (l : Launch) (y : MethodName) (cc : ByteArray) (maxL : Nat) (rm : Room) (a : Nat → Nat) (c : Nat → va_E) (k M sz mc ms : Nat) (x : Nat) : Prop := Met l y [.code y cc maxL none] rm (PcG Z sz a c (k + 1) [.ref x]) (va_Qv (QG Z a c k M sz) (BG Z (k + M)) (fg a (k + 1) sz)) mc ms (fg a (k + 1) sz)
theorem fg_A {a : Nat → Nat} {N sz : Nat} : ∀ k, k < N → fg a N sz (a k) := fun k h => Or.inl ⟨k, h, rfl⟩
theorem open_G {Z : ZT} {l : Launch} {y : MethodName} {cc : ByteArray} {maxL : Nat} {rm : Room} {a : Nat → Nat} {c : Nat → va_E} {N sz mc ms : Nat} {av : List Value} {Qc : Array Value → State → Outcome → State → Prop} (hy : plainName y.cls = true) (hn : (lg_sl av).length ≤ maxL)
    (body : ∀ (p : Program) (e : Env) (s : State) (m : MethodId) (below : List Frame) (meth : Method) (cd : Code), Bg Z p s m cd meth cc maxL y.cls → meth.sig.returnType = none → meth.name = y.name → s.heap.size = sz → ∀ ls : Array Slot, lv_has ls maxL (lv_args 0 av) → GH Z s (fg a N sz) a c N s.heap [] →
      W p l e rm s m av.toArray below meth cd s.heap [] 0 0 (MQ below Qc av.toArray s mc ms (fg a N sz)) (F0 m 0 ls [])) : Met l y [.code y cc maxL none] rm (PcG Z sz a c N av) Qc mc ms (fg a N sz) := by
  refine Met.ofW (cc := cc) (maxL := maxL) (ret := none) hy rfl ?_
  intro p e s m args below meth cd s₁ B hml hv
  obtain ⟨rfl, hsz, hG, hK, hA, hP, hJ⟩ := hv
  have hl := lv_entry av (n := maxL) hn
  rw [lg_entry_eq]
  generalize (lg_sl av ++ List.replicate (maxL - (lg_sl av).length) Slot.unset).toArray = ls at hl ⊢
  exact body p e s m below meth cd ⟨B.exec, B.bytes, hml, findClass_of_methodNamed B.named, hG, hK, B.notSynchronized, hA⟩ B.returns (name_of_methodNamed B.named B.method).1 hsz ls hl ⟨hP, va_S.rf, hJ, fg_A⟩

section ROWSG
variable {Z : ZT} {p : Program} {l : Launch} {e : Env} {R : Room} {s : State} {m : MethodId} {args : Array Value} {below : List Frame} {meth : Method} {c : Code} {H : Heap} {locs : List Loc} {cells slots : Nat} {Q : State → Prop} {cc : ByteArray} {nL : Nat} {own : String} {pc : Nat} {ls : Array Slot} {rest : List Value} {A : Nat → Prop} {a : Nat → Nat} {f : Nat → va_E} {N : Nat}
theorem gh_push (hH : GH Z s A a f N H locs) {q : Nat} {x : va_E} {H1 : Heap} (hP : va_P Z.1 vwCl (gw a f N ++ [(q, x)]) H1) (hD : va_D A (gw a f N ++ [(q, x)])) (hS : va_S A s.heap H1 locs) : ∃ (a1 : Nat → Nat) (f1 : Nat → va_E), (∀ k, k < N → a1 k = a k) ∧ (∀ k, k < N → f1 k = f k) ∧ a1 N = q ∧ f1 N = x ∧ GH Z s A a1 f1 (N + 1) H1 locs := by
  refine ⟨va_up a N q, va_up f N x, fun k h => va_up_ne a q (by omega), fun k h => va_up_ne f x (by omega), va_up_self a N q, va_up_self f N x, ?_⟩
  have e : gw (va_up a N q) (va_up f N x) (N + 1) = gw a f N ++ [(q, x)] := by
    rw [gw_succ, va_up_self, va_up_self, gw_ext (fun k h => va_up_ne a q (by omega)) (fun k h => va_up_ne f x (by omega))]
  have hl : (gw a f N ++ [(q, x)])[N]? = some (q, x) := by rw [← e, gw_get (by omega), va_up_self, va_up_self]
  have hget : ∀ i, i < N + 1 → (gw a f N ++ [(q, x)])[i]? = some (va_up a N q i, va_up f N x i) := fun i hi => by rw [← e]; exact gw_get hi
  refine ⟨by rw [e]; exact hP, hS, fun i j hi hj hij => ?_, fun k hk => ?_⟩
  · exact hD.1 i j _ _ (hget i hi) (hget j hj) hij
  · exact hD.2 k _ (hget k hk)
theorem gh_put (hH : GH Z s A a f N H locs) {k : Nat} {x : va_E} {H1 : Heap} {locs1 : List Loc} {w : Nat} (hk : k < N) (hx : a k = w) (hP : va_P Z.1 vwCl ((gw a f N).set k (w, x)) H1) (hS : va_S A s.heap H1 locs1) : ∃ f1 : Nat → va_E, f1 k = x ∧ (∀ i, i ≠ k → f1 i = f i) ∧ GH Z s A a f1 N H1 locs1 := by
  refine ⟨va_up f k x, va_up_self f k x, fun i h => va_up_ne f x h, ?_, hS, hH.2.2.1, hH.2.2.2⟩
  rw [gw_set (c1 := va_up f k x) hx hk (va_up_self f k x) (fun i h => va_up_ne f x h)] at hP
  exact hP
theorem g_obj (B : Bg Z p s m c meth cc nL own) {idx x : Nat} (hlink : (Cond.methodLink own idx Lib.objectInit).before args s = true) (hinst : (Cond.instanceMethod Lib.objectInit).before args s = true) (hcode : (Cond.code Lib.objectInit ⟨#[0xb1]⟩ 1 none).before args s = true) (hs : ls.size = nL) (hd : decode cc pc = .ok (.invokespecial idx, 3)) (hframes : 1 ≤ R.frames) (hlocals : (rest.map fun v => v.category).sum + 12 ≤ R.locals)
    (kk : W p l e R s m args below meth c H locs cells slots Q (F0 m (pc + 3) ls rest)) : W p l e R s m args below meth c H locs cells slots Q (F0 m pc ls (.ref x :: rest)) := by
  refine W.objInit B.1 B.2.1 B.2.2.2.1 hlink hinst hcode rfl (hs.trans B.2.2.1.symm) rfl hd hframes ?_ (W.eq (g2 := F0 m (pc + 3) ls rest) rfl kk)
  have : 2 * (F0 m pc ls (.ref x :: rest)).monitorRoom = 0 := rfl
  omega
theorem g_new (B : Bg Z p s m c meth cc nL own) (hH : GH Z s A a f N H locs) (hA : ∀ q, s.heap.size ≤ q → A q) {ci N9 index : Nat} {C : String} {T : u_T} {fs : List Value} (hc : vwCl[ci]? = some (C, T, N9)) (hul : ∀ w ∈ u_ws C T N9, w.before args s = true) (ty : Nat → FieldType) (hty : ∀ k, k < N9 → parseFieldDescriptor (T k).2.2.1 = some (ty k)) (hcl : (Cond.classLink own index C).before args s = true) (hinst : (Cond.instantiable C N9).before args s = true) (hini : (Cond.initialized C).before args s = true) (hfs : ∀ j, j < N9 → defaultValue (ty j) = vp_V fs j) (hcells : cells + 1 ≤ R.cells) (hslots : slots + N9 ≤ R.slots) (hdg : decode cc pc = .ok (.new index, 3))
    (kk : ∀ (q : Nat) (a1 : Nat → Nat) (f1 : Nat → va_E) (H : Heap), (∀ k, k < N → a1 k = a k) → (∀ k, k < N → f1 k = f k) → a1 N = q → f1 N = .inr (ci, fs) → GH Z s A a1 f1 (N + 1) H locs → W p l e R s m args below meth c H locs (cells + 1) (slots + N9) Q (F0 m (pc + 3) ls (.ref q :: rest))) : W p l e R s m args below meth c H locs cells slots Q (F0 m pc ls rest) :=
  va_new (D := Z.1) B.1 B.2.1 (Ts := u_ws C T N9) hul (fun _ h => h) ty hty B.2.2.2.1 hcl hinst hini B.2.2.2.2.2.1 hH.1 (gh_D hH) hH.2.1 hA hc hfs hcells hslots hdg (fun q H1 hP hD hS => by
    obtain ⟨a1, f1, e1, e2, e3, e4, h1⟩ := gh_push hH hP hD hS
    exact kk q a1 f1 H1 e1 e2 e3 e4 h1)
theorem ca_eq {D : va_G} {tys : List (ClassId × FieldType)} {cA cB : ClassId} {ty : FieldType} (hK : va_K D vwCl (tys ++ [(cA, ty)]) s) {i : Nat} (hi : tys[i]? = some (cB, ty)) : cA = cB := by
  have h1 := (hK.2 tys.length (cA, ty) (by rw [List.getElem?_append_right (Nat.le_refl _), Nat.sub_self]; rfl)).2
  have h2 := (hK.2 i (cB, ty) (by rw [List.getElem?_append_left (List.getElem?_eq_some_iff.mp hi).1]; exact hi)).2
  have k : ∀ {c9 : ClassId}, va_RA s c9 ty → s.vm.findClass ("[" ++ ty.toString) = some c9 := by
    intro c9 h
    cases ty with
    | object C => obtain ⟨kA, comp, -, -, -, h4⟩ := h; exact h4
    | _ => exact h
  exact Option.some.inj ((k h1).symm.trans (k h2))
theorem g_newi (B : Bg Z p s m c meth cc nL own) (hH : GH Z s A a f N H locs) (hA : ∀ q, s.heap.size ≤ q → A q) {n : Int32} {N' : Nat} (hn : ¬ n < 0) (hN : n.toNatClampNeg = N') (hb : N' * 4 ≤ 536870912) (hcells : cells + 1 ≤ R.cells) (hslots : slots + N' ≤ R.slots) (hdg : decode cc pc = .ok (.newarray .int, 2))
    (kk : ∀ (q : Nat) (a1 : Nat → Nat) (f1 : Nat → va_E) (H : Heap), (∀ k, k < N → a1 k = a k) → (∀ k, k < N → f1 k = f k) → a1 N = q → f1 N = .inl (Z.2.1 0, N', .inl (fun _ => 0)) → GH Z s A a1 f1 (N + 1) H locs → W p l e R s m args below meth c H locs (cells + 1) (slots + N') Q (F0 m (pc + 2) ls (.ref q :: rest))) : W p l e R s m args below meth c H locs cells slots Q (F0 m pc ls (.int n :: rest)) :=
  va_newa (D := Z.1) (atype := .int) B.1 B.2.1 (ac_any B.2.2.2.2.2.2.2.1) rfl B.2.2.2.2.2.1 hH.1 (gh_D hH) hH.2.1 hA (a0 := (N', .inl (fun _ => 0))) (fun cA => rfl) hn hN hb hcells hslots hdg (fun q cA H1 hK hP hD hS => by
    have e : cA = Z.2.1 0 := ca_eq hK (i := 0) rfl
    subst e
    obtain ⟨a1, f1, e1, e2, e3, e4, h1⟩ := gh_push hH hP hD hS
    exact kk q a1 f1 H1 e1 e2 e3 e4 h1)
theorem g_newz (B : Bg Z p s m c meth cc nL own) (hH : GH Z s A a f N H locs) (hA : ∀ q, s.heap.size ≤ q → A q) {n : Int32} {N' : Nat} (hn : ¬ n < 0) (hN : n.toNatClampNeg = N') (hb : N' * 1 ≤ 536870912) (hcells : cells + 1 ≤ R.cells) (hslots : slots + N' ≤ R.slots) (hdg : decode cc pc = .ok (.newarray .boolean, 2))
    (kk : ∀ (q : Nat) (a1 : Nat → Nat) (f1 : Nat → va_E) (H : Heap), (∀ k, k < N → a1 k = a k) → (∀ k, k < N → f1 k = f k) → a1 N = q → f1 N = .inl (Z.2.1 1, N', .inl (fun _ => 0)) → GH Z s A a1 f1 (N + 1) H locs → W p l e R s m args below meth c H locs (cells + 1) (slots + N') Q (F0 m (pc + 2) ls (.ref q :: rest))) : W p l e R s m args below meth c H locs cells slots Q (F0 m pc ls (.int n :: rest)) :=
  va_newa (D := Z.1) (atype := .boolean) B.1 B.2.1 (ac_any B.2.2.2.2.2.2.2.2.1) rfl B.2.2.2.2.2.1 hH.1 (gh_D hH) hH.2.1 hA (a0 := (N', .inl (fun _ => 0))) (fun cA => rfl) hn hN hb hcells hslots hdg (fun q cA H1 hK hP hD hS => by
    have e : cA = Z.2.1 1 := ca_eq hK (i := 1) rfl
    subst e
    obtain ⟨a1, f1, e1, e2, e3, e4, h1⟩ := gh_push hH hP hD hS
    exact kk q a1 f1 H1 e1 e2 e3 e4 h1)
theorem g_newl (B : Bg Z p s m c meth cc nL own) (hH : GH Z s A a f N H locs) (hA : ∀ q, s.heap.size ≤ q → A q) {n : Int32} {N' : Nat} (hn : ¬ n < 0) (hN : n.toNatClampNeg = N') (hb : N' * 8 ≤ 536870912) (hcells : cells + 1 ≤ R.cells) (hslots : slots + N' ≤ R.slots) (hdg : decode cc pc = .ok (.newarray .long, 2))
    (kk : ∀ (q : Nat) (a1 : Nat → Nat) (f1 : Nat → va_E) (H : Heap), (∀ k, k < N → a1 k = a k) → (∀ k, k < N → f1 k = f k) → a1 N = q → f1 N = .inl (Z.2.1 2, N', .inr (.inl (fun _ => 0))) → GH Z s A a1 f1 (N + 1) H locs → W p l e R s m args below meth c H locs (cells + 1) (slots + N') Q (F0 m (pc + 2) ls (.ref q :: rest))) : W p l e R s m args below meth c H locs cells slots Q (F0 m pc ls (.int n :: rest)) :=
  va_newa (D := Z.1) (atype := .long) B.1 B.2.1 (ac_any B.2.2.2.2.2.2.2.2.2.1) rfl B.2.2.2.2.2.1 hH.1 (gh_D hH) hH.2.1 hA (a0 := (N', .inr (.inl (fun _ => 0)))) (fun cA => rfl) hn hN hb hcells hslots hdg (fun q cA H1 hK hP hD hS => by
    have e : cA = Z.2.1 2 := ca_eq hK (i := 2) rfl
    subst e
    obtain ⟨a1, f1, e1, e2, e3, e4, h1⟩ := gh_push hH hP hD hS
    exact kk q a1 f1 H1 e1 e2 e3 e4 h1)
theorem g_newqR (B : Bg Z p s m c meth cc nL own) (hH : GH Z s A a f N H locs) (hA : ∀ q, s.heap.size ≤ q → A q) {n : Int32} {N' index : Nat} (hcl : (Cond.classLink own index "SplicedLoops$Reel").before args s = true) (hn : ¬ n < 0) (hN : n.toNatClampNeg = N') (hb : N' * 4 ≤ 536870912) (hcells : cells + 1 ≤ R.cells) (hslots : slots + N' ≤ R.slots) (hdg : decode cc pc = .ok (.anewarray index, 3))
    (kk : ∀ (q : Nat) (a1 : Nat → Nat) (f1 : Nat → va_E) (H : Heap), (∀ k, k < N → a1 k = a k) → (∀ k, k < N → f1 k = f k) → a1 N = q → f1 N = .inl (Z.2.1 3, N', .inr (.inr (.inr (.inr (fun _ => none))))) → GH Z s A a1 f1 (N + 1) H locs → W p l e R s m args below meth c H locs (cells + 1) (slots + N') Q (F0 m (pc + 3) ls (.ref q :: rest))) : W p l e R s m args below meth c H locs cells slots Q (F0 m pc ls (.int n :: rest)) :=
  va_newq (D := Z.1) B.1 B.2.1 B.2.2.2.1 hcl B.2.2.2.2.2.2.2.2.2.2.1 B.2.2.2.2.2.1 hH.1 (gh_D hH) hH.2.1 hA hn hN hb hcells hslots hdg (fun q cA H1 hK hP hD hS => by
    have e : cA = Z.2.1 3 := ca_eq hK (i := 3) rfl
    subst e
    obtain ⟨a1, f1, e1, e2, e3, e4, h1⟩ := gh_push hH hP hD hS
    exact kk q a1 f1 H1 e1 e2 e3 e4 h1)
theorem g_astR (B : Bg Z p s m c meth cc nL own) (hH : GH Z s A a f N H locs) {k k2 x v n : Nat} {g : Nat → Option Nat} {vs : List Value} (hk : k < N) (hx : a k = x) (hc : f k = .inl (Z.2.1 3, n, .inr (.inr (.inr (.inr g))))) (hk2 : k2 < N) (hv : a k2 = v) (hc2 : f k2 = .inr (2, vs)) {i : Int32} (hin : vp_in i n) (hdg : decode cc pc = .ok (.aastore, 1))
    (kk : ∀ (f1 : Nat → va_E) (H : Heap) (locs : List Loc), f1 k = .inl (Z.2.1 3, n, .inr (.inr (.inr (.inr (va_up g i.toNatClampNeg (some v)))))) → (∀ j, j ≠ k → f1 j = f j) → GH Z s A a f1 N H locs → W p l e R s m args below meth c H locs cells slots Q (F0 m (pc + 1) ls rest)) : W p l e R s m args below meth c H locs cells slots Q (F0 m pc ls (.ref v :: .int i :: .ref x :: rest)) :=
  va_astq (D := Z.1) B.1 B.2.1 B.2.2.2.2.2.1 hH.1 (gh_D hH) hH.2.1 k 3 k2 2 (gw_at hk hx hc) (r := (RX3, TX3, 2)) rfl (gw_at hk2 hv hc2) rfl hin hdg (fun H1 locs1 hP hD hS => by
    obtain ⟨f1, e1, e2, h1⟩ := gh_put hH hk hx hP hS
    exact kk f1 H1 locs1 e1 e2 h1)
theorem g_newqP (B : Bg Z p s m c meth cc nL own) (hH : GH Z s A a f N H locs) (hA : ∀ q, s.heap.size ≤ q → A q) {n : Int32} {N' index : Nat} (hcl : (Cond.classLink own index "SplicedLoops$Loop").before args s = true) (hn : ¬ n < 0) (hN : n.toNatClampNeg = N') (hb : N' * 4 ≤ 536870912) (hcells : cells + 1 ≤ R.cells) (hslots : slots + N' ≤ R.slots) (hdg : decode cc pc = .ok (.anewarray index, 3))
    (kk : ∀ (q : Nat) (a1 : Nat → Nat) (f1 : Nat → va_E) (H : Heap), (∀ k, k < N → a1 k = a k) → (∀ k, k < N → f1 k = f k) → a1 N = q → f1 N = .inl (Z.2.1 4, N', .inr (.inr (.inr (.inr (fun _ => none))))) → GH Z s A a1 f1 (N + 1) H locs → W p l e R s m args below meth c H locs (cells + 1) (slots + N') Q (F0 m (pc + 3) ls (.ref q :: rest))) : W p l e R s m args below meth c H locs cells slots Q (F0 m pc ls (.int n :: rest)) :=
  va_newq (D := Z.1) B.1 B.2.1 B.2.2.2.1 hcl B.2.2.2.2.2.2.2.2.2.2.2.1 B.2.2.2.2.2.1 hH.1 (gh_D hH) hH.2.1 hA hn hN hb hcells hslots hdg (fun q cA H1 hK hP hD hS => by
    have e : cA = Z.2.1 4 := ca_eq hK (i := 4) rfl
    subst e
    obtain ⟨a1, f1, e1, e2, e3, e4, h1⟩ := gh_push hH hP hD hS
    exact kk q a1 f1 H1 e1 e2 e3 e4 h1)
theorem g_astP (B : Bg Z p s m c meth cc nL own) (hH : GH Z s A a f N H locs) {k k2 x v n : Nat} {g : Nat → Option Nat} {vs : List Value} (hk : k < N) (hx : a k = x) (hc : f k = .inl (Z.2.1 4, n, .inr (.inr (.inr (.inr g))))) (hk2 : k2 < N) (hv : a k2 = v) (hc2 : f k2 = .inr (0, vs)) {i : Int32} (hin : vp_in i n) (hdg : decode cc pc = .ok (.aastore, 1))
    (kk : ∀ (f1 : Nat → va_E) (H : Heap) (locs : List Loc), f1 k = .inl (Z.2.1 4, n, .inr (.inr (.inr (.inr (va_up g i.toNatClampNeg (some v)))))) → (∀ j, j ≠ k → f1 j = f j) → GH Z s A a f1 N H locs → W p l e R s m args below meth c H locs cells slots Q (F0 m (pc + 1) ls rest)) : W p l e R s m args below meth c H locs cells slots Q (F0 m pc ls (.ref v :: .int i :: .ref x :: rest)) :=
  va_astq (D := Z.1) B.1 B.2.1 B.2.2.2.2.2.1 hH.1 (gh_D hH) hH.2.1 k 4 k2 0 (gw_at hk hx hc) (r := (RX0, TX0, 8)) rfl (gw_at hk2 hv hc2) rfl hin hdg (fun H1 locs1 hP hD hS => by
    obtain ⟨f1, e1, e2, h1⟩ := gh_put hH hk hx hP hS
    exact kk f1 H1 locs1 e1 e2 h1)
theorem g_newqS (B : Bg Z p s m c meth cc nL own) (hH : GH Z s A a f N H locs) (hA : ∀ q, s.heap.size ≤ q → A q) {n : Int32} {N' index : Nat} (hcl : (Cond.classLink own index "SplicedLoops$Studio").before args s = true) (hn : ¬ n < 0) (hN : n.toNatClampNeg = N') (hb : N' * 4 ≤ 536870912) (hcells : cells + 1 ≤ R.cells) (hslots : slots + N' ≤ R.slots) (hdg : decode cc pc = .ok (.anewarray index, 3))
    (kk : ∀ (q : Nat) (a1 : Nat → Nat) (f1 : Nat → va_E) (H : Heap), (∀ k, k < N → a1 k = a k) → (∀ k, k < N → f1 k = f k) → a1 N = q → f1 N = .inl (Z.2.1 5, N', .inr (.inr (.inr (.inr (fun _ => none))))) → GH Z s A a1 f1 (N + 1) H locs → W p l e R s m args below meth c H locs (cells + 1) (slots + N') Q (F0 m (pc + 3) ls (.ref q :: rest))) : W p l e R s m args below meth c H locs cells slots Q (F0 m pc ls (.int n :: rest)) :=
  va_newq (D := Z.1) B.1 B.2.1 B.2.2.2.1 hcl B.2.2.2.2.2.2.2.2.2.2.2.2 B.2.2.2.2.2.1 hH.1 (gh_D hH) hH.2.1 hA hn hN hb hcells hslots hdg (fun q cA H1 hK hP hD hS => by
    have e : cA = Z.2.1 5 := ca_eq hK (i := 5) rfl
    subst e
    obtain ⟨a1, f1, e1, e2, e3, e4, h1⟩ := gh_push hH hP hD hS
    exact kk q a1 f1 H1 e1 e2 e3 e4 h1)
theorem g_astS (B : Bg Z p s m c meth cc nL own) (hH : GH Z s A a f N H locs) {k k2 x v n : Nat} {g : Nat → Option Nat} {vs : List Value} (hk : k < N) (hx : a k = x) (hc : f k = .inl (Z.2.1 5, n, .inr (.inr (.inr (.inr g))))) (hk2 : k2 < N) (hv : a k2 = v) (hc2 : f k2 = .inr (4, vs)) {i : Int32} (hin : vp_in i n) (hdg : decode cc pc = .ok (.aastore, 1))
    (kk : ∀ (f1 : Nat → va_E) (H : Heap) (locs : List Loc), f1 k = .inl (Z.2.1 5, n, .inr (.inr (.inr (.inr (va_up g i.toNatClampNeg (some v)))))) → (∀ j, j ≠ k → f1 j = f j) → GH Z s A a f1 N H locs → W p l e R s m args below meth c H locs cells slots Q (F0 m (pc + 1) ls rest)) : W p l e R s m args below meth c H locs cells slots Q (F0 m pc ls (.ref v :: .int i :: .ref x :: rest)) :=
  va_astq (D := Z.1) B.1 B.2.1 B.2.2.2.2.2.1 hH.1 (gh_D hH) hH.2.1 k 5 k2 4 (gw_at hk hx hc) (r := (RX5, TX5, 6)) rfl (gw_at hk2 hv hc2) rfl hin hdg (fun H1 locs1 hP hD hS => by
    obtain ⟨f1, e1, e2, h1⟩ := gh_put hH hk hx hP hS
    exact kk f1 H1 locs1 e1 e2 h1)
theorem g_putF (B : Bg Z p s m c meth cc nL own) (hH : GH Z s A a f N H locs) {k x v ci N9 index : Nat} {C : String} {T : u_T} {fs : List Value} (hk : k < N) (hx : a k = x) (hct : f k = .inr (ci, fs)) (hcl : vwCl[ci]? = some (C, T, N9)) (hul : ∀ w ∈ u_ws C T N9, w.before args s = true) (ty0 : Nat → FieldType) (hty : ∀ k, k < N9 → parseFieldDescriptor (T k).2.2.1 = some (ty0 k)) (hnm : ∀ a, a < N9 → ∀ b, b < N9 → a ≠ b → (T a).2.1 ≠ (T b).2.1) (j : Nat) (hj : j < N9) {ty : FieldType} (hd : parseFieldDescriptor (T j).2.2.1 = some ty) (hn : narrow ty (.ref v) = .ref v) (hfit : fits ty (.ref v) = true) (hfin : (T j).2.2.2 = true) (hl : j < fs.length) (hin : meth.name = "<init>") (hde : (T j).1 = own) (hlink : (Cond.fieldLink own index (T j).1 (T j).2.1 (T j).2.2.1).before args s = true) (hdg : decode cc pc = .ok (.putfield index, 3))
    (kk : ∀ (f1 : Nat → va_E) (H : Heap) (locs : List Loc), f1 k = .inr (ci, fs.set j (.ref v)) → (∀ i, i ≠ k → f1 i = f i) → GH Z s A a f1 N H locs → W p l e R s m args below meth c H locs cells slots Q (F0 m (pc + 3) ls rest)) : W p l e R s m args below meth c H locs cells slots Q (F0 m pc ls (.ref v :: .ref x :: rest)) :=
  va_putF (D := Z.1) B.1 B.2.1 (Ts := u_ws C T N9) hul (fun _ h => h) ty0 hty hnm B.2.2.2.1 B.2.2.2.2.2.1 hH.1 (gh_D hH) hH.2.1 k (gw_at hk hx hct) hcl j hj hlink (fun _ h => h) hfin hin hde hd hn hfit hl hdg (fun H1 locs1 hP hD hS => by
    obtain ⟨f1, e1, e2, h1⟩ := gh_put hH hk hx hP hS
    exact kk f1 H1 locs1 e1 e2 h1)
theorem g_get (B : Bg Z p s m c meth cc nL own) (hH : GH Z s A a f N H locs) {k x ci N9 index : Nat} {C : String} {T : u_T} {fs : List Value} (hk : k < N) (hx : a k = x) (hct : f k = .inr (ci, fs)) (hcl : vwCl[ci]? = some (C, T, N9)) (hul : ∀ w ∈ u_ws C T N9, w.before args s = true) (j : Nat) (hj : j < N9) {v : Value} (hv : fs[j]? = some v) (hlink : (Cond.fieldLink own index (T j).1 (T j).2.1 (T j).2.2.1).before args s = true) (hdg : decode cc pc = .ok (.getfield index, 3))
    (kk : W p l e R s m args below meth c H locs cells slots Q (F0 m (pc + 3) ls (v :: rest))) : W p l e R s m args below meth c H locs cells slots Q (F0 m pc ls (.ref x :: rest)) :=
  va_get (D := Z.1) B.1 B.2.1 (Ts := u_ws C T N9) hul (fun _ h => h) B.2.2.2.1 B.2.2.2.2.2.1 hH.1 k (gw_at hk hx hct) hcl j hj hlink (fun _ h => h) hv hdg kk
theorem g_alenS (B : Bg Z p s m c meth cc nL own) (hH : GH Z s A a f N H locs) {k x n : Nat} {g : Nat → Option Nat} (hk : k < N) (hx : a k = x) (hct : f k = .inl (Z.2.1 5, n, .inr (.inr (.inr (.inr g))))) (hdg : decode cc pc = .ok (.arraylength, 1))
    (kk : W p l e R s m args below meth c H locs cells slots Q (F0 m (pc + 1) ls (.int (nI n) :: rest))) : W p l e R s m args below meth c H locs cells slots Q (F0 m pc ls (.ref x :: rest)) :=
  va_alen (D := Z.1) B.1 B.2.1 B.2.2.2.2.2.1 hH.1 k 5 (gw_at hk hx hct) rfl rfl hdg kk
theorem e_g (B : Bg Z p s m c meth cc nL own) {Qm : GU → Prop} {N1 : Nat} (hr : meth.sig.returnType = none) (hP : va_P Z.1 vwCl (gw a f N1) H) (hJ : ij a N1) (hS : va_S A s.heap H locs) (hq : Qm (a, f)) (hdg : decode cc pc = .ok (.return_, 1)) : W p l e R s m args below meth c H locs cells slots (MQ below (va_Qv Qm (BG Z N1) A) args s cells slots A) (F0 m pc ls []) :=
  W.vret B.1 B.2.1 hr (fun t ht hW => ⟨⟨(a, f), rfl, hq, by rw [ht]; exact hP, hJ⟩, hS.F ht⟩) hS.2.2 hdg B.2.2.2.2.2.2.1
def CYI (s : State) (args : Array Value) (y : MethodName) (bytes : ByteArray) (maxL : Nat) : Prop :=
  (∀ w ∈ [Cond.code y bytes maxL none], ∀ (a' : Array Value) (U : State), s.WarmedH U.vm → w.before a' U = true) ∧ (Cond.code y bytes maxL none).before args s = true ∧ (Cond.initialized y.cls).before args s = true ∧ (y.cls ≠ "java/lang/invoke/MethodHandle" ∧ y.cls ≠ "java/lang/invoke/VarHandle") ∧ (∀ sig, parseMethodDescriptor y.desc = some sig → 0 = sig.parameters.length) ∧ y.name = "<init>" ∧ (Cond.instanceMethod y).before args s = true
theorem CYI.of {y : MethodName} {bytes : ByteArray} {maxL : Nat} (hG : GG s) (hc : ∀ (A : Array Value) (U : State), GG U → (Cond.code y bytes maxL none).before A U = true) (hi : (Cond.initialized y.cls).before args s = true) (hv : (Cond.instanceMethod y).before args s = true) (hn : y.name = "<init>") (hd : y.cls ≠ "java/lang/invoke/MethodHandle" ∧ y.cls ≠ "java/lang/invoke/VarHandle" ∧ (parseMethodDescriptor y.desc).map (fun d => d.parameters.length) = some 0) : CYI s args y bytes maxL :=
  ⟨fun w hw a' U hW => by rw [List.mem_singleton.mp hw]; exact hc a' U (hG.warm hW), hc args s hG, hi, ⟨hd.1, hd.2.1⟩, cy_par hd.2.2, hn, hv⟩
theorem fg_sub (hH : GH Z s A a f N H locs) (hA : ∀ q, s.heap.size ≤ q → A q) : ∀ q, fg a N H.size q → A q := by
  intro q h
  rcases h with ⟨k, hk, rfl⟩ | h
  · exact hH.2.2.2 k hk
  · exact hA q (Nat.le_trans hH.2.1.1 h)
theorem gh_back (hH : GH Z s A a f N H locs) (hA : ∀ q, s.heap.size ≤ q → A q) {a1 : Nat → Nat} {f1 : Nat → va_E} {M : Nat} {H1 : Heap} {locs1 : List Loc} (hP : va_P Z.1 vwCl (gw a1 f1 M) H1) (hJ : ij a1 M) (hS : va_S A s.heap H1 locs1) (ha : ∀ j, j < M → A (a1 j)) : GH Z s A a1 f1 M H1 locs1 := ⟨hP, hS, hJ, ha⟩
theorem g_call (B : Bg Z p s m c meth cc nL own) {k M mc ms maxL index x : Nat} {y : MethodName} {bytes : ByteArray} {rm : Room} (hH : GH Z s A a f (k + 1) H locs) (hA : ∀ q, s.heap.size ≤ q → A q) (cy : CYI s args y bytes maxL) (hM : MG Z l y bytes maxL rm a f k M H.size mc ms x) (hR : (rm.cells = mc ∧ rm.slots = ms) ∧ rm.frames + 1 ≤ R.frames ∧ 8 + (maxL + 11) + rm.locals ≤ R.locals ∧ cells + mc ≤ R.cells ∧ slots + ms ≤ R.slots) (hlink : (Cond.methodLink own index y).before args s = true) (hs : ls.size = nL) (hcat : (rest.map fun v => v.category).sum ≤ 8) (hdg : decode cc pc = .ok (.invokespecial index, 3))
    (kk : ∀ (a1 : Nat → Nat) (f1 : Nat → va_E) (H : Heap) (locs : List Loc), (∀ j, j < k + 1 → a1 j = a j) → (∀ j, j < k → f1 j = f j) → (∀ j, k ≤ j → j < k + M → f1 j = ctz Z a1 j) → GH Z s A a1 f1 (k + M) H locs → W p l e R s m args below meth c H locs (cells + mc) (slots + ms) Q (F0 m (pc + 3) ls rest)) : W p l e R s m args below meth c H locs cells slots Q (F0 m pc ls (.ref x :: rest)) := by
  refine va_callv (va_runI (Ts := []) (As := []) (rest := rest) ⟨B.1, B.2.1, B.2.2.1, B.2.2.2.1, fun w hw => nomatch hw⟩ hM ⟨⟨hR.1.1, hR.1.2, hR.2.1, hR.2.2.1, cy.1, List.mem_singleton.mpr rfl, cy.2.1, cy.2.2.1, cy.2.2.2.1, cy.2.2.2.2.1, hlink⟩, cy.2.2.2.2.2.1, cy.2.2.2.2.2.2⟩ ⟨pcg_bl, fun U hU hW => ⟨rfl, by rw [hU], B.2.2.2.2.1.warm hW, va_K.moved hW.alike B.2.2.2.2.2.1, B.2.2.2.2.2.2.2.warm hW, by rw [hU]; exact hH.1, hH.2.2.1⟩⟩ rfl rfl hs rfl (lv_room hcat) hdg ⟨hR.2.2.2.1, hR.2.2.2.2⟩) hH.2.1 (fun q _ z => fg_sub hH hA q z) (fun q z => fg_sub hH hA q z) (fun u t H1 locs1 ht hvm hw hB hz hk hS => ?_)
  obtain ⟨h1, h2, h3, h4⟩ := hw
  rw [BG, ht] at hB
  exact kk u.1 u.2 H1 locs1 h1 h2 h3 ⟨hB.1, hS, hB.2, fun j hj => fg_sub hH hA _ (h4 j hj)⟩
theorem g_callN (B : Bg Z p s m c meth cc nL own) {k M mc ms maxL index x : Nat} {y : MethodName} {bytes : ByteArray} {rm : Room} (hH : GH Z s A a f (k + 1) H locs) (hA : ∀ q, s.heap.size ≤ q → A q) (cy : CYI s args y bytes maxL) (hM : MG Z l y bytes maxL rm a f k M H.size mc ms x) (hR : (rm.cells = mc ∧ rm.slots = ms) ∧ rm.frames + 1 ≤ R.frames ∧ 8 + (maxL + 11) + rm.locals ≤ R.locals ∧ cells + mc ≤ R.cells ∧ slots + ms ≤ R.slots) {host : String} (hlink : (Cond.methodLinkNest own index y host).before args s = true) (hs : ls.size = nL) (hcat : (rest.map fun v => v.category).sum ≤ 8) (hdg : decode cc pc = .ok (.invokespecial index, 3))
    (kk : ∀ (a1 : Nat → Nat) (f1 : Nat → va_E) (H : Heap) (locs : List Loc), (∀ j, j < k + 1 → a1 j = a j) → (∀ j, j < k → f1 j = f j) → (∀ j, k ≤ j → j < k + M → f1 j = ctz Z a1 j) → GH Z s A a1 f1 (k + M) H locs → W p l e R s m args below meth c H locs (cells + mc) (slots + ms) Q (F0 m (pc + 3) ls rest)) : W p l e R s m args below meth c H locs cells slots Q (F0 m pc ls (.ref x :: rest)) := by
  refine va_callv (va_runIN (Ts := []) (As := []) (rest := rest) ⟨B.1, B.2.1, B.2.2.1, B.2.2.2.1, fun w hw => nomatch hw⟩ hM ⟨⟨⟨hR.1.1, hR.1.2, hR.2.1, hR.2.2.1, cy.1, List.mem_singleton.mpr rfl⟩, cy.2.1, cy.2.2.1, cy.2.2.2.1, cy.2.2.2.2.1, hlink⟩, cy.2.2.2.2.2.1, cy.2.2.2.2.2.2⟩ ⟨pcg_bl, fun U hU hW => ⟨rfl, by rw [hU], B.2.2.2.2.1.warm hW, va_K.moved hW.alike B.2.2.2.2.2.1, B.2.2.2.2.2.2.2.warm hW, by rw [hU]; exact hH.1, hH.2.2.1⟩⟩ rfl rfl hs rfl (lv_room hcat) hdg ⟨hR.2.2.2.1, hR.2.2.2.2⟩) hH.2.1 (fun q _ z => fg_sub hH hA q z) (fun q z => fg_sub hH hA q z) (fun u t H1 locs1 ht hvm hw hB hz hk hS => ?_)
  obtain ⟨h1, h2, h3, h4⟩ := hw
  rw [BG, ht] at hB
  exact kk u.1 u.2 H1 locs1 h1 h2 h3 ⟨hB.1, hS, hB.2, fun j hj => fg_sub hH hA _ (h4 j hj)⟩
end ROWSG
