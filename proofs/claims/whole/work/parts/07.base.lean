/-! THE WORLD: all cells of the class, of the reference and the law's row, numbered as they are made; an int of cell k at place j is h k j -/
abbrev PH : Type := Nat → Nat → Int32
def up2 (h : PH) (k j : Nat) (x : Int32) : PH := fun k' j' => if k' = k ∧ j' = j then x else h k' j'
def stK : List Nat := [2, 13, 3, 10, 3, 10, 3, 10, 14, 4, 10, 10, 4, 10, 10, 4, 10, 10, 4, 10, 10]
def stA : List Nat := [0, 3, 0, 60, 0, 60, 0, 60, 4, 0, 48, 6, 0, 48, 6, 0, 48, 6, 0, 48, 6]
def st12 (l : List Nat) : List Nat := l ++ (l ++ (l ++ (l ++ (l ++ (l ++ (l ++ (l ++ (l ++ (l ++ (l ++ l))))))))))
/-- the kind of a cell: 1 class, 2 Studio, 3 Reel, 4 Loop, 5 Slot, 6 Past, 7 Text, 8 reference, 10 int[], 11 boolean[], 12 long[], 13 Reel[], 14 Loop[], 15 Studio[] -/
def kdL : List Nat := [1] ++ (stK ++ (stK ++ ([6, 15] ++ (st12 stK ++ ([5] ++ (stK ++ ([5] ++ (stK ++ ([7, 10, 10] ++ ([8, 10, 10, 10, 10, 10, 11] ++ [12]))))))))))
def alL : List Nat := [0] ++ (stA ++ (stA ++ ([0, 12] ++ (st12 stA ++ ([0] ++ (stA ++ ([0] ++ (stA ++ ([0, 120, 4] ++ ([0, 120, 427, 427, 5124, 854, 2] ++ [1]))))))))))
def kd (k : Nat) : Nat := kdL.getD k 0
def al (k : Nat) : Nat := alL.getD k 0
theorem kdL_len : kdL.length = 352 := by decide +kernel
theorem kd_big {k : Nat} (h : 352 ≤ k) : kd k = 0 := by
  unfold kd
  rw [List.getD_eq_getElem?_getD, List.getElem?_eq_none (by rw [kdL_len]; exact h)]
  rfl
theorem kd_351 : kd 351 = 12 := by decide +kernel
theorem kd_lt {k c : Nat} (h : kd k = c) (h0 : c ≠ 0) : k < 352 := by
  rcases Nat.lt_or_ge k 352 with q | q
  · exact q
  · exact absurd ((kd_big q).symm.trans h).symm h0
theorem kd_lt1 {k c : Nat} (h : kd k = c) (h0 : c ≠ 0) (h1 : c ≠ 12) : k < 351 := by
  have := kd_lt h h0
  rcases Nat.lt_or_ge k 351 with q | q
  · exact q
  · have e : k = 351 := by omega
    rw [e, kd_351] at h
    exact absurd h.symm h1
abbrev ZT : Type := va_G × (Nat → ClassId) × (Nat → Nat) × Nat
abbrev zA (Z : ZT) : Nat → Nat := Z.2.2.1
abbrev zN (Z : ZT) : Nat := Z.2.2.2
def zt (Z : ZT) : List (ClassId × FieldType) := [(Z.2.1 0, .int), (Z.2.1 1, .boolean), (Z.2.1 2, .long), (Z.2.1 3, .object "SplicedLoops$Reel"), (Z.2.1 4, .object "SplicedLoops$Loop"), (Z.2.1 5, .object "SplicedLoops$Studio")]

def ct (Z : ZT) (h : PH) (k : Nat) : va_E := match kd k with
  | 1 => .inr (6, [.ref (zA Z (k + 1)), .ref (zA Z (k + 22)), .ref (zA Z (k + 43)), .ref (zA Z (k + 297)), .ref (zA Z (k + 319)), .ref (zA Z (k + 341))])
  | 2 => .inr (4, [.ref (zA Z (k + 1)), .ref (zA Z (k + 8)), .int (h k 2), .int (h k 3), .int (h k 4), .int (h k 5)])
  | 3 => .inr (2, [.ref (zA Z (k + 1)), .int (h k 1)])
  | 4 => .inr (0, [.ref (zA Z (k + 1)), .ref (zA Z (k + 2)), .int (h k 2), .int (h k 3), .int (h k 4), .int (h k 5), .int (h k 6), .int (h k 7)])
  | 5 => .inr (3, [.ref (zA Z (k + 1)), .int (h k 1)])
  | 6 => .inr (1, [.ref (zA Z (k + 1)), .int (h k 1), .int (h k 2)])
  | 7 => .inr (5, [.ref (zA Z (k + 1)), .ref (zA Z (k + 2)), .int (h k 2), .int (h k 3), .int (h k 4)])
  | 8 => .inr (7, [.int (h k 0), .ref (zA Z (k + 1)), .int (h k 2), .ref (zA Z (k + 2)), .ref (zA Z (k + 3)), .ref (zA Z (k + 4)), .int (h k 6), .ref (zA Z (k + 5)), .ref (zA Z (k + 6)), .int (h k 9), .int (h k 10)])
  | 10 => .inl (Z.2.1 0, al k, .inl (h k))
  | 11 => .inl (Z.2.1 1, al k, .inl (h k))
  | 12 => .inl (Z.2.1 2, al k, .inr (.inl (fun j => (h k j).toInt64)))
  | 13 => .inl (Z.2.1 3, al k, .inr (.inr (.inr (.inr (fun j => some (zA Z (k + 1 + 2 * j)))))))
  | 14 => .inl (Z.2.1 4, al k, .inr (.inr (.inr (.inr (fun j => some (zA Z (k + 1 + 3 * j)))))))
  | 15 => .inl (Z.2.1 5, al k, .inr (.inr (.inr (.inr (fun j => some (zA Z (k + 1 + 21 * j)))))))
  | _ => .inr (0, [])
theorem ct_1 {Z : ZT} {h : PH} {k : Nat} (e : kd k = 1) : ct Z h k = .inr (6, [.ref (zA Z (k + 1)), .ref (zA Z (k + 22)), .ref (zA Z (k + 43)), .ref (zA Z (k + 297)), .ref (zA Z (k + 319)), .ref (zA Z (k + 341))]) := by unfold ct; rw [e]; rfl
theorem ct_2 {Z : ZT} {h : PH} {k : Nat} (e : kd k = 2) : ct Z h k = .inr (4, [.ref (zA Z (k + 1)), .ref (zA Z (k + 8)), .int (h k 2), .int (h k 3), .int (h k 4), .int (h k 5)]) := by unfold ct; rw [e]; rfl
theorem ct_3 {Z : ZT} {h : PH} {k : Nat} (e : kd k = 3) : ct Z h k = .inr (2, [.ref (zA Z (k + 1)), .int (h k 1)]) := by unfold ct; rw [e]; rfl
theorem ct_4 {Z : ZT} {h : PH} {k : Nat} (e : kd k = 4) : ct Z h k = .inr (0, [.ref (zA Z (k + 1)), .ref (zA Z (k + 2)), .int (h k 2), .int (h k 3), .int (h k 4), .int (h k 5), .int (h k 6), .int (h k 7)]) := by unfold ct; rw [e]; rfl
theorem ct_5 {Z : ZT} {h : PH} {k : Nat} (e : kd k = 5) : ct Z h k = .inr (3, [.ref (zA Z (k + 1)), .int (h k 1)]) := by unfold ct; rw [e]; rfl
theorem ct_6 {Z : ZT} {h : PH} {k : Nat} (e : kd k = 6) : ct Z h k = .inr (1, [.ref (zA Z (k + 1)), .int (h k 1), .int (h k 2)]) := by unfold ct; rw [e]; rfl
theorem ct_7 {Z : ZT} {h : PH} {k : Nat} (e : kd k = 7) : ct Z h k = .inr (5, [.ref (zA Z (k + 1)), .ref (zA Z (k + 2)), .int (h k 2), .int (h k 3), .int (h k 4)]) := by unfold ct; rw [e]; rfl
theorem ct_8 {Z : ZT} {h : PH} {k : Nat} (e : kd k = 8) : ct Z h k = .inr (7, [.int (h k 0), .ref (zA Z (k + 1)), .int (h k 2), .ref (zA Z (k + 2)), .ref (zA Z (k + 3)), .ref (zA Z (k + 4)), .int (h k 6), .ref (zA Z (k + 5)), .ref (zA Z (k + 6)), .int (h k 9), .int (h k 10)]) := by unfold ct; rw [e]; rfl
theorem ct_10 {Z : ZT} {h : PH} {k : Nat} (e : kd k = 10) : ct Z h k = .inl (Z.2.1 0, al k, .inl (h k)) := by unfold ct; rw [e]; rfl
theorem ct_11 {Z : ZT} {h : PH} {k : Nat} (e : kd k = 11) : ct Z h k = .inl (Z.2.1 1, al k, .inl (h k)) := by unfold ct; rw [e]; rfl
theorem ct_12 {Z : ZT} {h : PH} {k : Nat} (e : kd k = 12) : ct Z h k = .inl (Z.2.1 2, al k, .inr (.inl (fun j => (h k j).toInt64))) := by unfold ct; rw [e]; rfl
theorem ct_13 {Z : ZT} {h : PH} {k : Nat} (e : kd k = 13) : ct Z h k = .inl (Z.2.1 3, al k, .inr (.inr (.inr (.inr (fun j => some (zA Z (k + 1 + 2 * j))))))) := by unfold ct; rw [e]; rfl
theorem ct_14 {Z : ZT} {h : PH} {k : Nat} (e : kd k = 14) : ct Z h k = .inl (Z.2.1 4, al k, .inr (.inr (.inr (.inr (fun j => some (zA Z (k + 1 + 3 * j))))))) := by unfold ct; rw [e]; rfl
theorem ct_15 {Z : ZT} {h : PH} {k : Nat} (e : kd k = 15) : ct Z h k = .inl (Z.2.1 5, al k, .inr (.inr (.inr (.inr (fun j => some (zA Z (k + 1 + 21 * j))))))) := by unfold ct; rw [e]; rfl
theorem ct_cong {Z : ZT} {h g : PH} {k : Nat} (e : h k = g k) : ct Z h k = ct Z g k := by unfold ct; rw [e]
def wl (Z : ZT) (h : PH) : va_W := (List.range (zN Z)).map (fun k => (zA Z k, ct Z h k))
theorem wl_get {Z : ZT} {h : PH} {k : Nat} (hk : k < zN Z) : (wl Z h)[k]? = some (zA Z k, ct Z h k) := by
  unfold wl
  rw [List.getElem?_map, List.getElem?_range hk]
  rfl
theorem wl_at {Z : ZT} {h : PH} {k : Nat} {e : va_E} (hk : k < zN Z) (he : ct Z h k = e) : (wl Z h)[k]? = some (zA Z k, e) := by rw [wl_get hk, he]
theorem wl_len {Z : ZT} {h : PH} : (wl Z h).length = zN Z := by unfold wl; rw [List.length_map, List.length_range]
theorem wl_set {Z : ZT} {h g : PH} {k : Nat} {e : va_E} (hk : k < zN Z) (he : ct Z g k = e) (ho : ∀ i, i ≠ k → g i = h i) : (wl Z h).set k (zA Z k, e) = wl Z g := by
  apply List.ext_getElem?
  intro i
  by_cases hi : i < zN Z
  · by_cases hik : i = k
    · subst hik
      rw [List.getElem?_set_self (by rw [wl_len]; exact hi), wl_get hi, he]
    · rw [List.getElem?_set_ne (Ne.symm hik), wl_get hi, wl_get hi, ct_cong (ho i hik)]
  · rw [List.getElem?_eq_none (by rw [List.length_set, wl_len]; omega), List.getElem?_eq_none (by rw [wl_len]; omega)]
theorem wl_of {Z : ZT} {h : PH} {i : Nat} {q : Nat × va_E} (e : (wl Z h)[i]? = some q) : i < zN Z ∧ q = (zA Z i, ct Z h i) := by
  have hi : i < zN Z := by have := (List.getElem?_eq_some_iff.mp e).1; rwa [wl_len] at this
  rw [wl_get hi] at e
  exact ⟨hi, (Option.some.inj e).symm⟩
def fr (Z : ZT) (sz : Nat) : Nat → Prop := fun q => (∃ k, k < zN Z ∧ q = zA Z k) ∨ sz ≤ q
def ZO (Z : ZT) : Prop := (∀ i j, i < zN Z → j < zN Z → zA Z i = zA Z j → i = j) ∧ 351 ≤ zN Z
theorem wl_D {Z : ZT} (hZ : ZO Z) (sz : Nat) (h : PH) : va_D (fr Z sz) (wl Z h) := by
  refine ⟨fun i j p q hi hj e => ?_, fun i q hi => ?_⟩
  · obtain ⟨h1, rfl⟩ := wl_of hi
    obtain ⟨h2, rfl⟩ := wl_of hj
    exact hZ.1 i j h1 h2 e
  · obtain ⟨h1, rfl⟩ := wl_of hi
    exact Or.inl ⟨i, h1, rfl⟩
theorem up2_o {h : PH} {k j : Nat} {x : Int32} : ∀ i, i ≠ k → up2 h k j x i = h i := by
  intro i hi
  funext j'
  unfold up2
  rw [if_neg (fun z => hi z.1)]
theorem up2_s {h : PH} {k j : Nat} {x : Int32} : up2 h k j x k = upd (h k) j x := by
  funext j'
  unfold up2 upd
  by_cases e : j' = j
  · rw [if_pos ⟨rfl, e⟩]; simp [e]
  · rw [if_neg (fun z => e z.2)]; simp [e]
/-! the tables' words, held at a state, and through calls -/
def tw_ok : Cond → Bool := fun w => match w with
  | .fieldLinkNest .. => true
  | .methodLinkNest .. => true
  | .declares _ => true
  | .castable .. => true
  | w => w.onTables && w.keeps
def GG (U : State) : Prop := ∀ w ∈ lw_tbl, tw_ok w = true → va_Nw w U
theorem tw_tab {w : Cond} (h : tw_ok w = true) : w.onTables = true := by
  cases w <;> first | rfl | (simp only [tw_ok, Bool.and_eq_true] at h; exact h.1)
theorem GG.warm {s U : State} (hW : s.WarmedH U.vm) (h : GG s) : GG U := by
  intro w hw hk
  have h1 := h w hw hk
  cases w <;> first
    | exact va_Nw.warmF hW h1
    | exact va_Nw.warmM hW h1
    | exact va_Nw.warmD hW h1
    | exact va_Nw.warmC hW h1
    | (simp only [tw_ok, Bool.and_eq_true] at hk
       exact va_tabs hk.1 (rfl : (s.setVm U.vm).vm = U.vm) (Cond.onTables_warm (args' := #[]) hW hk.1 hk.2 h1))
theorem GG.of {s : State} {args : Array Value} (h : ∀ w ∈ lw_tbl, w.before args s = true) : GG s := fun w hw hk => va_Nw.of (tw_tab hk) (h w hw)
theorem GG.use {s : State} (h : GG s) {w : Cond} (hw : w ∈ lw_tbl) (hk : tw_ok w = true) {A : Array Value} : w.before A s = true := va_Nw.use (tw_tab hk) (h w hw hk)
theorem GG.vm {s U : State} (hv : s.vm = U.vm) (h : GG s) : GG U := fun w hw hk => va_Nw.same (tw_tab hk) hv (h w hw hk)
/-! what holds in a method -/
def Bx (Z : ZT) (p : Program) (s : State) (m : MethodId) (c : Code) (meth : Method) (cc : ByteArray) (nL : Nat) (own : String) : Prop :=
  p.tables.exec = Jvm.exec ∧ c.code = cc ∧ c.maxLocals = nL ∧ s.vm.findClass own = some m.cls ∧ GG s ∧ va_K Z.1 vwCl (zt Z) s ∧ meth.locks = false ∧ ZO Z
def HH (Z : ZT) (s : State) (h : PH) (H : Heap) (locs : List Loc) : Prop := va_P Z.1 vwCl (wl Z h) H ∧ va_S (fr Z s.heap.size) s.heap H locs
def PcZ (Z : ZT) (sz : Nat) (h : PH) (av : List Value) : Array Value → State → Prop := va_Pc av (fun U => U.heap.size = sz ∧ GG U ∧ va_K Z.1 vwCl (zt Z) U ∧ va_P Z.1 vwCl (wl Z h) U.heap)
def BZ (Z : ZT) : PH → State → Prop := fun h' t => va_P Z.1 vwCl (wl Z h') t.heap
/-- contracts: int (boolean), long, nothing, a reference or null -/
def MI (Z : ZT) (l : Launch) (y : MethodName) (cc : ByteArray) (maxL : Nat) (ret : Option FieldType) (rm : Room) (h : PH) (sz : Nat) (av : List Value) (Q : Int32 → PH → Prop) : Prop := Met l y [.code y cc maxL ret] rm (PcZ Z sz h av) (va_Qi Q (BZ Z) (fr Z sz)) 0 0 (fr Z sz)
def ML (Z : ZT) (l : Launch) (y : MethodName) (cc : ByteArray) (maxL : Nat) (ret : Option FieldType) (rm : Room) (h : PH) (sz : Nat) (av : List Value) (Q : Int64 → PH → Prop) : Prop := Met l y [.code y cc maxL ret] rm (PcZ Z sz h av) (va_Ql Q (BZ Z) (fr Z sz)) 0 0 (fr Z sz)
def MV (Z : ZT) (l : Launch) (y : MethodName) (cc : ByteArray) (maxL : Nat) (ret : Option FieldType) (rm : Room) (h : PH) (sz : Nat) (av : List Value) (Q : PH → Prop) : Prop := Met l y [.code y cc maxL ret] rm (PcZ Z sz h av) (va_Qv Q (BZ Z) (fr Z sz)) 0 0 (fr Z sz)
def MO (Z : ZT) (l : Launch) (y : MethodName) (cc : ByteArray) (maxL : Nat) (ret : Option FieldType) (rm : Room) (h : PH) (sz : Nat) (av : List Value) (Q : Option Nat → PH → Prop) : Prop := Met l y [.code y cc maxL ret] rm (PcZ Z sz h av) (va_Qe (zA Z) Q (BZ Z) (fr Z sz)) 0 0 (fr Z sz)
theorem open_M {Z : ZT} {l : Launch} {y : MethodName} {cc : ByteArray} {maxL : Nat} {ret : Option FieldType} {rm : Room} {h : PH} {sz : Nat} {av : List Value} {Qc : Array Value → State → Outcome → State → Prop} (hZ : ZO Z) (hy : plainName y.cls = true) (hn : (lg_sl av).length ≤ maxL)
    (body : ∀ (p : Program) (e : Env) (s : State) (m : MethodId) (below : List Frame) (meth : Method) (c : Code), Bx Z p s m c meth cc maxL y.cls → meth.sig.returnType = ret → s.heap.size = sz → ∀ ls : Array Slot, lv_has ls maxL (lv_args 0 av) → HH Z s h s.heap [] →
      W p l e rm s m av.toArray below meth c s.heap [] 0 0 (MQ below Qc av.toArray s 0 0 (fr Z sz)) (F0 m 0 ls [])) : Met l y [.code y cc maxL ret] rm (PcZ Z sz h av) Qc 0 0 (fr Z sz) := by
  refine Met.ofW (cc := cc) (maxL := maxL) (ret := ret) hy rfl ?_
  intro p e s m args below meth c s₁ B hml hv
  obtain ⟨rfl, hsz, hG, hK, hP⟩ := hv
  have hl := lv_entry av (n := maxL) hn
  rw [lg_entry_eq]
  generalize (lg_sl av ++ List.replicate (maxL - (lg_sl av).length) Slot.unset).toArray = ls at hl ⊢
  exact body p e s m below meth c ⟨B.exec, B.bytes, hml, findClass_of_methodNamed B.named, hG, hK, B.notSynchronized, hZ⟩ B.returns hsz ls hl ⟨hP, va_S.rf⟩

section ROWS
variable {Z : ZT} {p : Program} {l : Launch} {e : Env} {R : Room} {s : State} {m : MethodId} {args : Array Value} {below : List Frame} {meth : Method} {c : Code} {H : Heap} {locs : List Loc} {cells slots : Nat} {Q : State → Prop} {cc : ByteArray} {nL : Nat} {own : String} {h : PH} {pc : Nat} {ls : Array Slot} {rest : List Value}
theorem r_get (B : Bx Z p s m c meth cc nL own) (hH : HH Z s h H locs) {k ci N index : Nat} {C : String} {T : u_T} {fs : List Value} (hkn : k < zN Z) (hct : ct Z h k = .inr (ci, fs)) (hcl : vwCl[ci]? = some (C, T, N)) (hul : ∀ w ∈ u_ws C T N, w.before args s = true) (j : Nat) (hj : j < N) {v : Value} (hv : fs[j]? = some v) (hlink : (Cond.fieldLink own index (T j).1 (T j).2.1 (T j).2.2.1).before args s = true) (hdg : decode cc pc = .ok (.getfield index, 3))
    (kk : W p l e R s m args below meth c H locs cells slots Q (F0 m (pc + 3) ls (v :: rest))) : W p l e R s m args below meth c H locs cells slots Q (F0 m pc ls (.ref (zA Z k) :: rest)) :=
  va_get (D := Z.1) B.1 B.2.1 (Ts := u_ws C T N) hul (fun _ h => h) B.2.2.2.1 B.2.2.2.2.2.1 hH.1 k (wl_at hkn hct) hcl j hj hlink (fun _ h => h) hv hdg kk
theorem r_getN (B : Bx Z p s m c meth cc nL own) (hH : HH Z s h H locs) {k ci N index : Nat} {C host : String} {T : u_T} {fs : List Value} (hkn : k < zN Z) (hct : ct Z h k = .inr (ci, fs)) (hcl : vwCl[ci]? = some (C, T, N)) (hul : ∀ w ∈ u_ws C T N, w.before args s = true) (j : Nat) (hj : j < N) {v : Value} (hv : fs[j]? = some v) (hlink : (Cond.fieldLinkNest own index (T j).1 (T j).2.1 (T j).2.2.1 host).before args s = true) (hdg : decode cc pc = .ok (.getfield index, 3))
    (kk : W p l e R s m args below meth c H locs cells slots Q (F0 m (pc + 3) ls (v :: rest))) : W p l e R s m args below meth c H locs cells slots Q (F0 m pc ls (.ref (zA Z k) :: rest)) :=
  va_getN (D := Z.1) B.1 B.2.1 (Ts := u_ws C T N) hul (fun _ h => h) B.2.2.2.1 B.2.2.2.2.2.1 hH.1 k (wl_at hkn hct) hcl j hj hlink (fun _ h => h) hv hdg kk
theorem r_put (B : Bx Z p s m c meth cc nL own) (hH : HH Z s h H locs) {k ci N index : Nat} {C : String} {T : u_T} {fs : List Value} (hkn : k < zN Z) (hct : ct Z h k = .inr (ci, fs)) (hcl : vwCl[ci]? = some (C, T, N)) (hul : ∀ w ∈ u_ws C T N, w.before args s = true) (ty0 : Nat → FieldType) (hty : ∀ k, k < N → parseFieldDescriptor (T k).2.2.1 = some (ty0 k)) (hnm : ∀ a, a < N → ∀ b, b < N → a ≠ b → (T a).2.1 ≠ (T b).2.1) (j : Nat) (hj : j < N) {x : Int32} {ty : FieldType} (hd : parseFieldDescriptor (T j).2.2.1 = some ty) (hn : narrow ty (.int x) = .int x) (hfit : fits ty (.int x) = true) (hfin : (T j).2.2.2 = false) (hl : j < fs.length) (hct2 : ct Z (up2 h k j x) k = .inr (ci, fs.set j (.int x))) (hlink : (Cond.fieldLink own index (T j).1 (T j).2.1 (T j).2.2.1).before args s = true) (hdg : decode cc pc = .ok (.putfield index, 3))
    (kk : ∀ (H : Heap) (locs : List Loc), HH Z s (up2 h k j x) H locs → W p l e R s m args below meth c H locs cells slots Q (F0 m (pc + 3) ls rest)) : W p l e R s m args below meth c H locs cells slots Q (F0 m pc ls (.int x :: .ref (zA Z k) :: rest)) :=
  va_put (D := Z.1) B.1 B.2.1 (Ts := u_ws C T N) hul (fun _ h => h) ty0 hty hnm B.2.2.2.1 B.2.2.2.2.2.1 hH.1 (wl_D B.2.2.2.2.2.2.2 _ h) hH.2 k (wl_at hkn hct) hcl j hj hlink (fun _ h => h) hfin hd hn hfit hl hdg (fun H1 locs1 hP hD hS => kk H1 locs1 ⟨by rw [wl_set hkn hct2 up2_o] at hP; exact hP, hS⟩)
theorem r_putN (B : Bx Z p s m c meth cc nL own) (hH : HH Z s h H locs) {k ci N index : Nat} {C host : String} {T : u_T} {fs : List Value} (hkn : k < zN Z) (hct : ct Z h k = .inr (ci, fs)) (hcl : vwCl[ci]? = some (C, T, N)) (hul : ∀ w ∈ u_ws C T N, w.before args s = true) (ty0 : Nat → FieldType) (hty : ∀ k, k < N → parseFieldDescriptor (T k).2.2.1 = some (ty0 k)) (hnm : ∀ a, a < N → ∀ b, b < N → a ≠ b → (T a).2.1 ≠ (T b).2.1) (j : Nat) (hj : j < N) {x : Int32} {ty : FieldType} (hd : parseFieldDescriptor (T j).2.2.1 = some ty) (hn : narrow ty (.int x) = .int x) (hfit : fits ty (.int x) = true) (hfin : (T j).2.2.2 = false) (hl : j < fs.length) (hct2 : ct Z (up2 h k j x) k = .inr (ci, fs.set j (.int x))) (hlink : (Cond.fieldLinkNest own index (T j).1 (T j).2.1 (T j).2.2.1 host).before args s = true) (hdg : decode cc pc = .ok (.putfield index, 3))
    (kk : ∀ (H : Heap) (locs : List Loc), HH Z s (up2 h k j x) H locs → W p l e R s m args below meth c H locs cells slots Q (F0 m (pc + 3) ls rest)) : W p l e R s m args below meth c H locs cells slots Q (F0 m pc ls (.int x :: .ref (zA Z k) :: rest)) :=
  va_putN (D := Z.1) B.1 B.2.1 (Ts := u_ws C T N) hul (fun _ h => h) ty0 hty hnm B.2.2.2.1 B.2.2.2.2.2.1 hH.1 (wl_D B.2.2.2.2.2.2.2 _ h) hH.2 k (wl_at hkn hct) hcl j hj hlink (fun _ h => h) hfin hd hn hfit hl hdg (fun H1 locs1 hP hD hS => kk H1 locs1 ⟨by rw [wl_set hkn hct2 up2_o] at hP; exact hP, hS⟩)
theorem kd_n (B : Bx Z p s m c meth cc nL own) {k K : Nat} (e : kd k = K) (h0 : K ≠ 0) (h1 : K ≠ 12) : k < zN Z := Nat.lt_of_lt_of_le (kd_lt1 e h0 h1) B.2.2.2.2.2.2.2.2
theorem r_iald (B : Bx Z p s m c meth cc nL own) (hH : HH Z s h H locs) {k : Nat} (hk : kd k = 10) {i : Int32} (hin : vp_in i (al k)) (hdg : decode cc pc = .ok (.iaload, 1))
    (kk : W p l e R s m args below meth c H locs cells slots Q (F0 m (pc + 1) ls (.int (h k i.toNatClampNeg) :: rest))) : W p l e R s m args below meth c H locs cells slots Q (F0 m pc ls (.int i :: .ref (zA Z k) :: rest)) :=
  va_iald (D := Z.1) B.1 B.2.1 B.2.2.2.2.2.1 hH.1 k 0 (wl_at (kd_n B hk (by decide) (by decide)) (ct_10 hk)) rfl hin hdg kk
theorem r_zald (B : Bx Z p s m c meth cc nL own) (hH : HH Z s h H locs) {k : Nat} (hk : kd k = 11) {i : Int32} (hin : vp_in i (al k)) (hdg : decode cc pc = .ok (.baload, 1))
    (kk : W p l e R s m args below meth c H locs cells slots Q (F0 m (pc + 1) ls (.int (h k i.toNatClampNeg) :: rest))) : W p l e R s m args below meth c H locs cells slots Q (F0 m pc ls (.int i :: .ref (zA Z k) :: rest)) :=
  va_zald (D := Z.1) B.1 B.2.1 B.2.2.2.2.2.1 hH.1 k 1 (wl_at (kd_n B hk (by decide) (by decide)) (ct_11 hk)) rfl hin hdg kk
theorem r_lald (B : Bx Z p s m c meth cc nL own) (hN : zN Z = 352) (hH : HH Z s h H locs) {k : Nat} (hk : kd k = 12) {i : Int32} (hin : vp_in i (al k)) (hdg : decode cc pc = .ok (.laload, 1))
    (kk : W p l e R s m args below meth c H locs cells slots Q (F0 m (pc + 1) ls (.long (h k i.toNatClampNeg).toInt64 :: rest))) : W p l e R s m args below meth c H locs cells slots Q (F0 m pc ls (.int i :: .ref (zA Z k) :: rest)) :=
  va_lald (D := Z.1) B.1 B.2.1 B.2.2.2.2.2.1 hH.1 k 2 (wl_at (by rw [hN]; exact kd_lt hk (by decide)) (ct_12 hk)) rfl hin hdg kk
theorem r_alen (B : Bx Z p s m c meth cc nL own) (hH : HH Z s h H locs) {k : Nat} (hk : kd k = 10) (hdg : decode cc pc = .ok (.arraylength, 1))
    (kk : W p l e R s m args below meth c H locs cells slots Q (F0 m (pc + 1) ls (.int (nI (al k)) :: rest))) : W p l e R s m args below meth c H locs cells slots Q (F0 m pc ls (.ref (zA Z k) :: rest)) :=
  va_alen (D := Z.1) B.1 B.2.1 B.2.2.2.2.2.1 hH.1 k 0 (wl_at (kd_n B hk (by decide) (by decide)) (ct_10 hk)) rfl rfl hdg kk
theorem r_iast (B : Bx Z p s m c meth cc nL own) (hH : HH Z s h H locs) {k : Nat} (hk : kd k = 10) {i x : Int32} (hin : vp_in i (al k)) (hdg : decode cc pc = .ok (.iastore, 1))
    (kk : ∀ (H : Heap) (locs : List Loc), HH Z s (up2 h k i.toNatClampNeg x) H locs → W p l e R s m args below meth c H locs cells slots Q (F0 m (pc + 1) ls rest)) : W p l e R s m args below meth c H locs cells slots Q (F0 m pc ls (.int x :: .int i :: .ref (zA Z k) :: rest)) :=
  have hkn := kd_n B hk (by decide) (by decide)
  va_iast (D := Z.1) B.1 B.2.1 B.2.2.2.2.2.1 hH.1 (wl_D B.2.2.2.2.2.2.2 _ h) hH.2 k 0 (wl_at hkn (ct_10 hk)) rfl hin hdg (fun H1 locs1 hP hD hS => kk H1 locs1 ⟨by rw [wl_set (g := up2 h k i.toNatClampNeg x) hkn (by rw [ct_10 hk, up2_s]) up2_o] at hP; exact hP, hS⟩)
theorem r_zast (B : Bx Z p s m c meth cc nL own) (hH : HH Z s h H locs) {k : Nat} (hk : kd k = 11) {i x : Int32} (hin : vp_in i (al k)) (hx : x = 0 ∨ x = 1) (hdg : decode cc pc = .ok (.bastore, 1))
    (kk : ∀ (H : Heap) (locs : List Loc), HH Z s (up2 h k i.toNatClampNeg x) H locs → W p l e R s m args below meth c H locs cells slots Q (F0 m (pc + 1) ls rest)) : W p l e R s m args below meth c H locs cells slots Q (F0 m pc ls (.int x :: .int i :: .ref (zA Z k) :: rest)) :=
  have hkn := kd_n B hk (by decide) (by decide)
  have hxn : vp_nar .boolean x = x := by rcases hx with rfl | rfl <;> decide
  va_zast (D := Z.1) B.1 B.2.1 B.2.2.2.2.2.1 hH.1 (wl_D B.2.2.2.2.2.2.2 _ h) hH.2 k 1 (wl_at hkn (ct_11 hk)) rfl hin hdg (fun H1 locs1 hP hD hS => kk H1 locs1 ⟨by rw [hxn, wl_set (g := up2 h k i.toNatClampNeg x) hkn (by rw [ct_11 hk, up2_s]) up2_o] at hP; exact hP, hS⟩)
theorem r_last (B : Bx Z p s m c meth cc nL own) (hN : zN Z = 352) (hH : HH Z s h H locs) {k : Nat} (hk : kd k = 12) {i x : Int32} (hin : vp_in i (al k)) (hdg : decode cc pc = .ok (.lastore, 1))
    (kk : ∀ (H : Heap) (locs : List Loc), HH Z s (up2 h k i.toNatClampNeg x) H locs → W p l e R s m args below meth c H locs cells slots Q (F0 m (pc + 1) ls rest)) : W p l e R s m args below meth c H locs cells slots Q (F0 m pc ls (.long x.toInt64 :: .int i :: .ref (zA Z k) :: rest)) :=
  have hkn : k < zN Z := by rw [hN]; exact kd_lt hk (by decide)
  va_last (D := Z.1) B.1 B.2.1 B.2.2.2.2.2.1 hH.1 (wl_D B.2.2.2.2.2.2.2 _ h) hH.2 k 2 (wl_at hkn (ct_12 hk)) rfl hin hdg (fun H1 locs1 hP hD hS => kk H1 locs1 ⟨by rw [wl_set (g := up2 h k i.toNatClampNeg x) hkn (by rw [ct_12 hk, up2_s]; congr 5; funext j; unfold vp_updL upd; split <;> rfl) up2_o] at hP; exact hP, hS⟩)
theorem va_re_s (ad : Nat → Nat) (k : Nat) : va_re ad (some k) = .ref (ad k) := rfl
theorem r_aldR (B : Bx Z p s m c meth cc nL own) (hH : HH Z s h H locs) {k : Nat} (hk : kd k = 13) {i : Int32} (hin : vp_in i (al k)) (hdg : decode cc pc = .ok (.aaload, 1))
    (kk : W p l e R s m args below meth c H locs cells slots Q (F0 m (pc + 1) ls (.ref (zA Z (k + 1 + 2 * i.toNatClampNeg)) :: rest))) : W p l e R s m args below meth c H locs cells slots Q (F0 m pc ls (.int i :: .ref (zA Z k) :: rest)) :=
  va_aldq (D := Z.1) B.1 B.2.1 B.2.2.2.2.2.1 hH.1 k 3 (wl_at (kd_n B hk (by decide) (by decide)) (ct_13 hk)) rfl hin hdg kk
theorem r_aldP (B : Bx Z p s m c meth cc nL own) (hH : HH Z s h H locs) {k : Nat} (hk : kd k = 14) {i : Int32} (hin : vp_in i (al k)) (hdg : decode cc pc = .ok (.aaload, 1))
    (kk : W p l e R s m args below meth c H locs cells slots Q (F0 m (pc + 1) ls (.ref (zA Z (k + 1 + 3 * i.toNatClampNeg)) :: rest))) : W p l e R s m args below meth c H locs cells slots Q (F0 m pc ls (.int i :: .ref (zA Z k) :: rest)) :=
  va_aldq (D := Z.1) B.1 B.2.1 B.2.2.2.2.2.1 hH.1 k 4 (wl_at (kd_n B hk (by decide) (by decide)) (ct_14 hk)) rfl hin hdg kk
theorem r_aldS (B : Bx Z p s m c meth cc nL own) (hH : HH Z s h H locs) {k : Nat} (hk : kd k = 15) {i : Int32} (hin : vp_in i (al k)) (hdg : decode cc pc = .ok (.aaload, 1))
    (kk : W p l e R s m args below meth c H locs cells slots Q (F0 m (pc + 1) ls (.ref (zA Z (k + 1 + 21 * i.toNatClampNeg)) :: rest))) : W p l e R s m args below meth c H locs cells slots Q (F0 m pc ls (.int i :: .ref (zA Z k) :: rest)) :=
  va_aldq (D := Z.1) B.1 B.2.1 B.2.2.2.2.2.1 hH.1 k 5 (wl_at (kd_n B hk (by decide) (by decide)) (ct_15 hk)) rfl hin hdg kk
/-! references or null in locals -/
theorem x_aload_n (B : Bx Z p s m c meth cc nL own) {k : Fin 4} {i : Nat} {r : Option Nat} (hdg : decode cc pc = .ok (.aload_n k, 1)) (hi : (k : Nat) = i) (hl : ls[i]? = some (.val (va_re (zA Z) r)))
    (kk : W p l e R s m args below meth c H locs cells slots Q (F0 m (pc + 1) ls (va_re (zA Z) r :: rest))) : W p l e R s m args below meth c H locs cells slots Q (F0 m pc ls rest) := by
  cases r with
  | none => exact lv_aload_nN B.1 B.2.1 hdg hi hl kk
  | some x => exact lv_aload_n B.1 B.2.1 hdg hi hl kk
theorem x_aload (B : Bx Z p s m c meth cc nL own) {i : Nat} {r : Option Nat} (hdg : decode cc pc = .ok (.aload i, 2)) (hl : ls[i]? = some (.val (va_re (zA Z) r)))
    (kk : W p l e R s m args below meth c H locs cells slots Q (F0 m (pc + 2) ls (va_re (zA Z) r :: rest))) : W p l e R s m args below meth c H locs cells slots Q (F0 m pc ls rest) := by
  cases r with
  | none => exact lv_aloadN B.1 B.2.1 hdg hl kk
  | some x => exact lv_aload B.1 B.2.1 hdg hl kk
theorem x_astore_n (B : Bx Z p s m c meth cc nL own) {k : Fin 4} {i : Nat} {r : Option Nat} {lv lv' : List (Nat × Value)} (hdg : decode cc pc = .ok (.astore_n k, 1)) (hi : (k : Nat) = i) (hh : lv_has ls nL lv) (hn : i < nL) (hl : (i, va_re (zA Z) r) :: lv.filter (fun q => !(q.1 == i) && !(q.1 + 1 == i && q.2.category == 2)) = lv')
    (kk : ∀ ls : Array Slot, lv_has ls nL lv' → W p l e R s m args below meth c H locs cells slots Q (F0 m (pc + 1) ls rest)) : W p l e R s m args below meth c H locs cells slots Q (F0 m pc ls (va_re (zA Z) r :: rest)) := by
  cases r with
  | none => exact lv_astore_nN B.1 B.2.1 hdg hi hh hn hl kk
  | some x => exact lv_astore_n B.1 B.2.1 hdg hi hh hn hl kk
theorem x_astore (B : Bx Z p s m c meth cc nL own) {i : Nat} {r : Option Nat} {lv lv' : List (Nat × Value)} (hdg : decode cc pc = .ok (.astore i, 2)) (hh : lv_has ls nL lv) (hn : i < nL) (hl : (i, va_re (zA Z) r) :: lv.filter (fun q => !(q.1 == i) && !(q.1 + 1 == i && q.2.category == 2)) = lv')
    (kk : ∀ ls : Array Slot, lv_has ls nL lv' → W p l e R s m args below meth c H locs cells slots Q (F0 m (pc + 2) ls rest)) : W p l e R s m args below meth c H locs cells slots Q (F0 m pc ls (va_re (zA Z) r :: rest)) := by
  cases r with
  | none => exact lv_astoreN B.1 B.2.1 hdg hh hn hl kk
  | some x => exact lv_astore B.1 B.2.1 hdg hh hn hl kk
theorem x_null (B : Bx Z p s m c meth cc nL own) (hdg : decode cc pc = .ok (.aconst_null, 1)) (kk : W p l e R s m args below meth c H locs cells slots Q (F0 m (pc + 1) ls (va_re (zA Z) none :: rest))) : W p l e R s m args below meth c H locs cells slots Q (F0 m pc ls rest) := lv_null B.1 B.2.1 hdg kk
theorem x_ifnull (B : Bx Z p s m c meth cc nL own) {r : Option Nat} {off : Int} {tgt : Nat} (hdg : decode cc pc = .ok (.ifnull off, 3)) (ht : (pc : Int) + off = (tgt : Int))
    (kt : r = none → W p l e R s m args below meth c H locs cells slots Q (F0 m tgt ls rest)) (kf : ∀ j, r = some j → W p l e R s m args below meth c H locs cells slots Q (F0 m (pc + 3) ls rest)) : W p l e R s m args below meth c H locs cells slots Q (F0 m pc ls (va_re (zA Z) r :: rest)) := by
  cases r with
  | none => exact lv_ifnullN B.1 B.2.1 hdg ht (kt rfl)
  | some x => exact lv_ifnull B.1 B.2.1 hdg (kf x rfl)
theorem x_ifnonnull (B : Bx Z p s m c meth cc nL own) {r : Option Nat} {off : Int} {tgt : Nat} (hdg : decode cc pc = .ok (.ifnonnull off, 3)) (ht : (pc : Int) + off = (tgt : Int))
    (kt : ∀ j, r = some j → W p l e R s m args below meth c H locs cells slots Q (F0 m tgt ls rest)) (kf : r = none → W p l e R s m args below meth c H locs cells slots Q (F0 m (pc + 3) ls rest)) : W p l e R s m args below meth c H locs cells slots Q (F0 m pc ls (va_re (zA Z) r :: rest)) := by
  cases r with
  | none => exact lv_ifnonnullN B.1 B.2.1 hdg (kf rfl)
  | some x => exact lv_ifnonnull B.1 B.2.1 hdg ht (kt x rfl)
end ROWS
