
def setO (N : Nat → Nat → Nat) (o : Nat) (f : Nat → Nat) : Nat → Nat → Nat := fun o' => if o' = o then f else N o'
theorem setO_s {N : Nat → Nat → Nat} {o : Nat} {f : Nat → Nat} : setO N o f o = f := if_pos rfl
theorem setO_n {N : Nat → Nat → Nat} {o o' : Nat} {f : Nat → Nat} (h : o' ≠ o) : setO N o f o' = N o' := if_neg h
theorem setO_2 {N : Nat → Nat → Nat} {o : Nat} {f g : Nat → Nat} : setO (setO N o f) o g = setO N o g := by
  funext o'
  unfold setO
  by_cases e : o' = o
  · rw [if_pos e, if_pos e]
  · rw [if_neg e, if_neg e, if_neg e]
theorem setO_id {N : Nat → Nat → Nat} {o : Nat} : setO N o (N o) = N := by
  funext o'
  unfold setO
  by_cases e : o' = o
  · rw [if_pos e, e]
  · rw [if_neg e]
theorem ufn_id {f : Nat → Nat} {j : Nat} : ufn f j (f j) = f := by
  funext i
  unfold ufn
  by_cases e : i = j
  · rw [if_pos e, e]
  · rw [if_neg e]
/-- time goes on by n: the loops before i so far -/
def gnP (N : Nat → Nat → Nat) (n i : Nat) : Nat → Nat → Nat := fun o => if 4 ≤ o ∧ o < 4 + i then ufn (N o) 3 (phN (N o) n) else N o
def gnN (N : Nat → Nat → Nat) (n : Nat) : Nat → Nat → Nat := setO (gnP N n (N 0 1)) 0 (ufn (N 0) 2 (N 0 2 + n))
def adR (N : Nat → Nat → Nat) (n : Nat) : Nat → Nat → Nat := setO (setO N (1 + N 0 0) (newR n)) 0 (ufn (N 0) 0 (N 0 0 + 1))
def adL (N : Nat → Nat → Nat) : Nat → Nat → Nat := setO (setO N (4 + N 0 1) newL) 0 (ufn (N 0) 1 (N 0 1 + 1))
def paS (N : Nat → Nat → Nat) (r a b v : Nat) : Nat → Nat → Nat := setO N (1 + r) (paN (N (1 + r)) a (b + 1) v)
def jnS (N : Nat → Nat → Nat) (l r a b : Nat) : Nat → Nat → Nat := setO N (4 + l) (jnN (N (4 + l)) (N (1 + r)) a b)
def reF (N : Nat → Nat → Nat) : Nat → Nat → Nat := setO N 0 (ufn (N 0) 3 (N 0 3 + 1))
def toS (N : Nat → Nat → Nat) (l : Nat) : Nat → Nat → Nat := setO N (4 + l) (toN (N (4 + l)))
def spS (N : Nat → Nat → Nat) (l p q : Nat) : Nat → Nat → Nat := setO N (4 + l) (spN (N (4 + l)) p q)
def muS (N : Nat → Nat → Nat) (l m : Nat) : Nat → Nat → Nat := setO N (4 + l) (ufn (N (4 + l)) 4 m)
/-- a recording, c cells of it -/
def rcF (N : Nat → Nat → Nat) (r c : Nat) : Nat → Nat := fun j => if 1 ≤ j ∧ j < 1 + c then min (sndN N (j - 1)) 9 else N (1 + r) j
def rcS (N : Nat → Nat → Nat) (r c : Nat) : Nat → Nat → Nat := setO (gnN N c) (1 + r) (rcF N r c)
def rcV (N : Nat → Nat → Nat) (n : Nat) : Nat := fl (fun t s => s + min (sndN N t) 9) n 0 0
def zeS : Nat → Nat → Nat := fun _ _ => 0
def rsN (N : Nat → Nat → Nat) (l r a b : Nat) : Nat := if b ≤ a then 1 else if quN (N (1 + r)) a = false then 2 else if quN (N (1 + r)) b = false then 3 else if 48 < N (4 + l) 0 + b - a then 4 else if N (4 + l) 5 = 6 then 5 else 0
theorem gnP_0 {N : Nat → Nat → Nat} {n : Nat} : gnP N n 0 = N := by
  funext o
  unfold gnP
  rw [if_neg (by omega)]
theorem gnP_s {N : Nat → Nat → Nat} {n i : Nat} : setO (gnP N n i) (4 + i) (ufn (N (4 + i)) 3 (phN (N (4 + i)) n)) = gnP N n (i + 1) := by
  funext o
  unfold setO gnP
  by_cases e : o = 4 + i
  · subst e; rw [if_pos rfl, if_pos (by omega)]
  · rw [if_neg e]
    by_cases e2 : 4 ≤ o ∧ o < 4 + i
    · rw [if_pos e2, if_pos (by omega)]
    · rw [if_neg e2, if_neg (by omega)]
theorem gnP_at {N : Nat → Nat → Nat} {n i : Nat} : gnP N n i (4 + i) = N (4 + i) := by
  unfold gnP; rw [if_neg (by omega)]
theorem gnP_lo {N : Nat → Nat → Nat} {n i o : Nat} (h : o < 4) : gnP N n i o = N o := by
  unfold gnP; rw [if_neg (by omega)]
theorem gnN_lo {N : Nat → Nat → Nat} {n o : Nat} (h : o < 4) (h0 : 0 < o) : gnN N n o = N o := by
  unfold gnN; rw [setO_n (by omega), gnP_lo h]
theorem gnN_0 {N : Nat → Nat → Nat} {n : Nat} : gnN N n 0 = ufn (N 0) 2 (N 0 2 + n) := setO_s
theorem gnN_l {N : Nat → Nat → Nat} {n l : Nat} (hl : l < N 0 1) : gnN N n (4 + l) = ufn (N (4 + l)) 3 (phN (N (4 + l)) n) := by
  unfold gnN; rw [setO_n (by omega)]; unfold gnP; rw [if_pos (by omega)]
/-! what stays true -/
theorem psm_cong {f g : Nat → Nat} : ∀ n, (∀ i, i < n → f (6 + i) = g (6 + i)) → psm f n = psm g n
  | 0, _ => rfl
  | n + 1, h => by unfold psm; rw [psm_cong n (fun i hi => h i (by omega)), h n (by omega)]
theorem IL.last {f : Nat → Nat} (h : IL f) (h0 : 0 < f 5) : f (6 + (f 5 - 1)) ≤ f 0 ∧ psm f (f 5 - 1) = f 0 - f (6 + (f 5 - 1)) := by
  obtain ⟨m, hm⟩ : ∃ m, f 5 = m + 1 := ⟨f 5 - 1, by omega⟩
  have := h.2.2.2.2.2.2.2.1
  rw [hm] at this ⊢
  unfold psm at this
  simp only [Nat.add_sub_cancel]
  omega
theorem IL.some {f : Nat → Nat} (h : IL f) (h0 : 0 < f 0) : 0 < f 5 := by
  rcases Nat.eq_zero_or_pos (f 5) with e | e
  · have := h.2.2.2.2.2.2.2.1
    rw [e] at this
    unfold psm at this
    omega
  · exact e
theorem IR.pa {f : Nat → Nat} {a b v : Nat} (h : IR f) (hv : v ≤ 9) : IR (paN f a b v) := by
  have e : paN f a b v 0 = f 0 := by unfold paN; rw [if_neg (by omega)]
  refine ⟨by rw [e]; exact h.1, fun c hc => ?_⟩
  rw [e] at hc
  unfold paN
  split
  · exact hv
  · exact h.2 c hc
theorem IR.new {n : Nat} (h : n ≤ 60) : IR (newR n) := by
  refine ⟨h, fun c _ => ?_⟩
  unfold newR
  rw [if_neg (by omega)]
  omega
theorem IL.new : IL newL := by
  refine ⟨by decide, by decide, by decide, by decide, by decide, fun _ => rfl, fun h => absurd h (by decide), rfl, fun i h => ?_, fun c h => ?_⟩
  · exact absurd h (Nat.not_lt_zero i)
  · exact absurd h (Nat.not_lt_zero c)
theorem IL.jn {f g : Nat → Nat} {a b : Nat} (h : IL f) (hg : IR g) (hab : a < b) (hb : b ≤ g 0) (h48 : f 0 + b - a ≤ 48) (h5 : f 5 < 6) : IL (jnN f g a b) := by
  have e0 : jnN f g a b 0 = f 0 + b - a := rfl
  have e1 : jnN f g a b 1 = f 1 := by unfold jnN; rw [if_neg (by decide), if_neg (by decide), if_neg (by decide), if_neg (by omega), if_neg (by omega)]
  have e2 : jnN f g a b 2 = f 2 := by unfold jnN; rw [if_neg (by decide), if_neg (by decide), if_neg (by decide), if_neg (by omega), if_neg (by omega)]
  have e3 : jnN f g a b 3 = 0 := rfl
  have e4 : jnN f g a b 4 = f 4 := by unfold jnN; rw [if_neg (by decide), if_neg (by decide), if_neg (by decide), if_neg (by omega), if_neg (by omega)]
  have e5 : jnN f g a b 5 = f 5 + 1 := rfl
  have e6 : ∀ i, i < f 5 → jnN f g a b (6 + i) = f (6 + i) := fun i hi => by
    unfold jnN; rw [if_neg (by omega), if_neg (by omega), if_neg (by omega), if_neg (by omega), if_neg (by omega)]
  have e7 : jnN f g a b (6 + f 5) = b - a := by unfold jnN; rw [if_neg (by omega), if_neg (by omega), if_neg (by omega), if_pos rfl]
  have hp := h.2.2.2.2.2.2.2.1
  refine ⟨by omega, by rw [e1]; exact h.2.1, by rw [e2]; exact h.2.2.1, by rw [e4]; exact h.2.2.2.1, by omega, fun _ => e3, fun h0 => ?_, ?_, ?_, ?_⟩
  · rw [e3, e2]; exact Nat.mul_pos h0 (by have := h.2.2.1; omega)
  · rw [e5, e0]
    unfold psm
    rw [psm_cong (f 5) e6, e7, hp]
    omega
  · intro i hi
    rw [e5] at hi
    by_cases e : i = f 5
    · subst e; rw [e7]; omega
    · rw [e6 i (by omega)]; exact h.2.2.2.2.2.2.2.2.1 i (by omega)
  · intro c hc
    rw [e0] at hc
    unfold jnN
    rw [if_neg (by omega), if_neg (by omega), if_neg (by omega), if_neg (by omega)]
    rcases Nat.lt_or_ge c (f 0) with l | l
    · rw [if_neg (by omega)]; exact h.2.2.2.2.2.2.2.2.2 c l
    · rw [if_pos (by omega)]; exact hg.2 _ (by omega)
theorem IL.to {f : Nat → Nat} (h : IL f) (h0 : 0 < f 5) : IL (toN f) := by
  have hl := h.last h0
  have b5 := h.2.2.2.2.1
  have e0 : toN f 0 = f 0 - f (6 + (f 5 - 1)) := by unfold toN; rw [ufn_n (by decide), ufn_s]
  have e3 : toN f 3 = 0 := rfl
  have e5 : toN f 5 = f 5 - 1 := by unfold toN; rw [ufn_n (by decide), ufn_n (by decide), ufn_s]
  have eo : ∀ i, i ≠ 0 → i ≠ 3 → i ≠ 5 → toN f i = f i := fun i h1 h2 h3 => by unfold toN; rw [ufn_n h2, ufn_n h1, ufn_n h3]
  have := h.1
  refine ⟨by omega, by rw [eo 1 (by decide) (by decide) (by decide)]; exact h.2.1, by rw [eo 2 (by decide) (by decide) (by decide)]; exact h.2.2.1, by rw [eo 4 (by decide) (by decide) (by decide)]; exact h.2.2.2.1, by omega, fun _ => e3, fun h0 => ?_, ?_, ?_, ?_⟩
  · rw [e3, eo 2 (by decide) (by decide) (by decide)]; exact Nat.mul_pos h0 (by have := h.2.2.1; omega)
  · rw [e5, e0, ← hl.2]
    exact psm_cong _ (fun i hi => eo _ (by omega) (by omega) (by omega))
  · intro i hi
    rw [eo _ (by omega) (by omega) (by omega)]
    exact h.2.2.2.2.2.2.2.2.1 i (by omega)
  · intro c hc
    rw [eo _ (by omega) (by omega) (by omega)]
    exact h.2.2.2.2.2.2.2.2.2 c (by omega)
theorem IL.sp {f : Nat → Nat} {p q : Nat} (h : IL f) (hp : 1 ≤ p ∧ p ≤ 9) (hq : 1 ≤ q ∧ q ≤ 9) : IL (spN f p q) := by
  have eo : ∀ i, i ≠ 1 → i ≠ 2 → i ≠ 3 → spN f p q i = f i := fun i h1 h2 h3 => by unfold spN; rw [ufn_n h3, ufn_n h2, ufn_n h1]
  have e0 := eo 0 (by decide) (by decide) (by decide)
  have e1 : spN f p q 1 = p := by unfold spN; rw [ufn_n (by decide), ufn_n (by decide), ufn_s]
  have e2 : spN f p q 2 = q := by unfold spN; rw [ufn_n (by decide), ufn_s]
  have e3 : spN f p q 3 = f 3 / f 2 * q := by unfold spN; rw [ufn_s]
  have e5 := eo 5 (by decide) (by decide) (by decide)
  refine ⟨by rw [e0]; exact h.1, by rw [e1]; exact hp, by rw [e2]; exact hq, by rw [eo 4 (by decide) (by decide) (by decide)]; exact h.2.2.2.1, by rw [e5]; exact h.2.2.2.2.1, fun h0 => ?_, fun h0 => ?_, ?_, ?_, ?_⟩
  · rw [e0] at h0
    rw [e3, h.2.2.2.2.2.1 h0, Nat.zero_div, Nat.zero_mul]
  · rw [e0] at h0
    rw [e3, e0, e2]
    exact Nat.mul_lt_mul_of_pos_right (h.head (h.2.2.2.2.2.2.1 h0)) (by omega)
  · rw [e5, e0, psm_cong (f 5) (fun i hi => eo _ (by omega) (by omega) (by omega))]
    exact h.2.2.2.2.2.2.2.1
  · intro i hi
    rw [e5] at hi
    rw [eo _ (by omega) (by omega) (by omega)]
    exact h.2.2.2.2.2.2.2.2.1 i hi
  · intro c hc
    rw [e0] at hc
    rw [eo _ (by omega) (by omega) (by omega)]
    exact h.2.2.2.2.2.2.2.2.2 c hc
theorem IL.mu {f : Nat → Nat} {m : Nat} (h : IL f) (hm : m ≤ 1) : IL (ufn f 4 m) := by
  refine ⟨h.1, h.2.1, h.2.2.1, hm, h.2.2.2.2.1, h.2.2.2.2.2.1, h.2.2.2.2.2.2.1, ?_, ?_, ?_⟩
  · rw [psm_cong (ufn f 4 m 5) (g := f) (fun i hi => ufn_n (by omega))]
    exact h.2.2.2.2.2.2.2.1
  · intro i hi
    rw [ufn_n (by omega)]
    exact h.2.2.2.2.2.2.2.2.1 i hi
  · intro c hc
    rw [ufn_n (by omega)]
    exact h.2.2.2.2.2.2.2.2.2 c hc
theorem IL.go {f : Nat → Nat} {n : Nat} (h : IL f) : IL (ufn f 3 (phN f n)) := by
  refine ⟨h.1, h.2.1, h.2.2.1, h.2.2.2.1, h.2.2.2.2.1, fun h0 => ?_, fun h0 => h.phN_lt h0 n, ?_, ?_, ?_⟩
  · have h0' : f 0 = 0 := h0
    rw [ufn_s]
    unfold phN
    rw [if_pos h0']
  · rw [psm_cong (ufn f 3 (phN f n) 5) (g := f) (fun i hi => ufn_n (by omega))]
    exact h.2.2.2.2.2.2.2.1
  · intro i hi
    rw [ufn_n (by omega)]
    exact h.2.2.2.2.2.2.2.2.1 i hi
  · intro c hc
    rw [ufn_n (by omega)]
    exact h.2.2.2.2.2.2.2.2.2 c hc
section
variable {N : Nat → Nat → Nat}
theorem Inv.setR {r : Nat} {f : Nat → Nat} (h : Inv N) (hr : r < N 0 0) (hf : IR f) : Inv (setO N (1 + r) f) := by
  have e : setO N (1 + r) f 0 = N 0 := setO_n (by omega)
  have := h.1
  refine ⟨by rw [e]; exact h.1, by rw [e]; exact h.2.1, fun r' hr' => ?_, fun l hl => ?_⟩
  · rw [e] at hr'
    by_cases e2 : r' = r
    · subst e2; rw [setO_s]; exact hf
    · rw [setO_n (by omega)]; exact h.ir hr'
  · rw [e] at hl
    rw [setO_n (by omega)]; exact h.il hl
theorem Inv.setL {l : Nat} {f : Nat → Nat} (h : Inv N) (hl : l < N 0 1) (hf : IL f) : Inv (setO N (4 + l) f) := by
  have e : setO N (4 + l) f 0 = N 0 := setO_n (by omega)
  have := h.1
  refine ⟨by rw [e]; exact h.1, by rw [e]; exact h.2.1, fun r' hr' => ?_, fun l' hl' => ?_⟩
  · rw [e] at hr'
    rw [setO_n (by omega)]; exact h.ir hr'
  · rw [e] at hl'
    by_cases e2 : l' = l
    · subst e2; rw [setO_s]; exact hf
    · rw [setO_n (by omega)]; exact h.il hl'
theorem Inv.set0 {j x : Nat} (h : Inv N) (h0 : j ≠ 0) (h1 : j ≠ 1) : Inv (setO N 0 (ufn (N 0) j x)) := by
  have e0 : setO N 0 (ufn (N 0) j x) 0 0 = N 0 0 := by rw [setO_s]; exact ufn_n (Ne.symm h0)
  have e1 : setO N 0 (ufn (N 0) j x) 0 1 = N 0 1 := by rw [setO_s]; exact ufn_n (Ne.symm h1)
  exact ⟨by rw [e0]; exact h.1, by rw [e1]; exact h.2.1, fun r' hr' => by rw [setO_n (by omega)]; rw [e0] at hr'; exact h.ir hr', fun l' hl' => by rw [setO_n (by omega)]; rw [e1] at hl'; exact h.il hl'⟩
theorem Inv.go {n : Nat} (h : Inv N) : Inv (gnN N n) := by
  refine ⟨h.1, h.2.1, fun r hr => ?_, fun l hl => ?_⟩
  · have hr' : r < N 0 0 := hr
    have := h.1
    rw [gnN_lo (by omega) (by omega)]; exact h.ir hr
  · have hl' : l < N 0 1 := hl
    rw [gnN_l hl']; exact (h.il hl').go
theorem Inv.adR {n : Nat} (h : Inv N) (h3 : N 0 0 < 3) (hn : n ≤ 60) : Inv (adR N n) := by
  have e0 : _root_.Jvm.Pilot.CSplicedLoopsLaw_law_r8557_03c411.adR N n 0 0 = N 0 0 + 1 := rfl
  refine ⟨h3, h.2.1, fun r hr => ?_, fun l hl => ?_⟩
  · have hr' : r < N 0 0 + 1 := hr
    unfold _root_.Jvm.Pilot.CSplicedLoopsLaw_law_r8557_03c411.adR
    rw [setO_n (by omega)]
    by_cases e2 : r = N 0 0
    · subst e2; rw [setO_s]; exact IR.new hn
    · rw [setO_n (by omega)]; exact h.ir (by omega)
  · have hl' : l < N 0 1 := hl
    unfold _root_.Jvm.Pilot.CSplicedLoopsLaw_law_r8557_03c411.adR
    rw [setO_n (by omega), setO_n (by omega)]; exact h.il hl'
theorem Inv.adL (h : Inv N) (h4 : N 0 1 < 4) : Inv (adL N) := by
  refine ⟨h.1, h4, fun r hr => ?_, fun l hl => ?_⟩
  · have hr' : r < N 0 0 := hr
    have := h.1
    unfold _root_.Jvm.Pilot.CSplicedLoopsLaw_law_r8557_03c411.adL
    rw [setO_n (by omega), setO_n (by omega)]; exact h.ir hr'
  · have hl' : l < N 0 1 + 1 := hl
    unfold _root_.Jvm.Pilot.CSplicedLoopsLaw_law_r8557_03c411.adL
    rw [setO_n (by omega)]
    by_cases e2 : l = N 0 1
    · subst e2; rw [setO_s]; exact IL.new
    · rw [setO_n (by omega)]; exact h.il (by omega)
theorem Inv.ze : Inv zeS := ⟨by decide, by decide, fun r hr => absurd hr (Nat.not_lt_zero r), fun r hr => absurd hr (Nat.not_lt_zero r)⟩
theorem Inv.rc {r c : Nat} (h : Inv N) (hr : r < N 0 0) : Inv (rcS N r c) := by
  unfold rcS
  refine h.go.setR hr ?_
  have hi := h.ir hr
  refine ⟨hi.1, fun j hj => ?_⟩
  have hj' : j < N (1 + r) 0 := hj
  unfold rcF
  split
  · omega
  · exact hi.2 j hj'
end
/-! the class's studio -/
def SB (b : Nat) : Prop := al (b + 1) = 3 ∧ al (b + 8) = 4 ∧ (∀ r, r < 3 → al (b + 1 + 1 + 2 * r + 1) = 60) ∧ ∀ l, l < 4 → al (b + 8 + 1 + 3 * l + 1) = 48 ∧ al (b + 8 + 1 + 3 * l + 2) = 6
theorem SB_all {b : Nat} (hb : b = 1 ∨ b = 22 ∨ b = 298 ∨ b = 320 ∨ ∃ i, i < 12 ∧ b = 45 + 21 * i) : SB b := by
  have K : ∀ b, b = 1 ∨ b = 22 ∨ b = 298 ∨ b = 320 ∨ b ∈ (List.range 12).map (fun i => 45 + 21 * i) → SB b := by
    have T : ([1, 22, 298, 320] ++ (List.range 12).map (fun i => 45 + 21 * i)).all (fun b => decide (al (b + 1) = 3) && decide (al (b + 8) = 4) && (List.range 3).all (fun r => decide (al (b + 1 + 1 + 2 * r + 1) = 60)) && (List.range 4).all (fun l => decide (al (b + 8 + 1 + 3 * l + 1) = 48) && decide (al (b + 8 + 1 + 3 * l + 2) = 6))) = true := by decide +kernel
    intro b hb
    have := List.all_eq_true.mp T b (by simp only [List.mem_append, List.mem_cons]; rcases hb with h | h | h | h | h <;> simp [h])
    simp only [Bool.and_eq_true, decide_eq_true_eq, List.all_eq_true, List.mem_range] at this
    obtain ⟨⟨⟨h1, h2⟩, h3⟩, h4⟩ := this
    exact ⟨h1, h2, fun r hr => h3 r hr, fun l hl => h4 l hl⟩
  refine K b ?_
  rcases hb with h | h | h | h | ⟨i, hi, h⟩
  · exact Or.inl h
  · exact Or.inr (Or.inl h)
  · exact Or.inr (Or.inr (Or.inl h))
  · exact Or.inr (Or.inr (Or.inr (Or.inl h)))
  · exact Or.inr (Or.inr (Or.inr (Or.inr (List.mem_map.mpr ⟨i, List.mem_range.mpr hi, h.symm⟩))))
section
variable {b : Nat} {N : Nat → Nat → Nat} {h : PH}
theorem Rl.fr {h' : PH} {a n : Nat} (x : Rl b N h) (hI : Inv N) (y : Fr a n h h') (d : b + 21 ≤ a ∨ a + n ≤ b) : Rl b N h' := by
  have i0 := hI.1
  have i1 := hI.2.1
  have e := y b (by omega)
  exact ⟨x.1, x.2.1, by rw [e]; exact x.n0, by rw [e]; exact x.n1, by rw [e]; exact x.n2, fun r hr => (x.re hr).fr y (by omega), fun l hl => (x.lo hl).fr y (by omega)⟩
theorem Rl.setL {h' : PH} {l : Nat} {f : Nat → Nat} (x : Rl b N h) (hI : Inv N) (hl : l < N 0 1) (y : Fr (b + 8 + 1 + 3 * l) 3 h h') (hf : Lo (b + 8 + 1 + 3 * l) f h') : Rl b (setO N (4 + l) f) h' := by
  have i0 := hI.1
  have i1 := hI.2.1
  have e := y b (by omega)
  have e0 : setO N (4 + l) f 0 = N 0 := setO_n (by omega)
  refine ⟨x.1, x.2.1, by rw [e, e0]; exact x.n0, by rw [e, e0]; exact x.n1, by rw [e, e0]; exact x.n2, fun r hr => ?_, fun l' hl' => ?_⟩
  · rw [e0] at hr
    rw [setO_n (by omega)]
    exact (x.re hr).fr y (by omega)
  · rw [e0] at hl'
    by_cases e2 : l' = l
    · subst e2; rw [setO_s]; exact hf
    · rw [setO_n (by omega)]
      exact (x.lo hl').fr y (by omega)
theorem Rl.setR {h' : PH} {r : Nat} {f : Nat → Nat} (x : Rl b N h) (hI : Inv N) (hr0 : r < N 0 0) (y : Fr (b + 1 + 1 + 2 * r) 2 h h') (hf : Re (b + 1 + 1 + 2 * r) f h') : Rl b (setO N (1 + r) f) h' := by
  have i0 := hI.1
  have i1 := hI.2.1
  have e := y b (by omega)
  have e0 : setO N (1 + r) f 0 = N 0 := setO_n (by omega)
  refine ⟨x.1, x.2.1, by rw [e, e0]; exact x.n0, by rw [e, e0]; exact x.n1, by rw [e, e0]; exact x.n2, fun r' hr => ?_, fun l' hl' => ?_⟩
  · rw [e0] at hr
    by_cases e2 : r' = r
    · subst e2; rw [setO_s]; exact hf
    · rw [setO_n (by omega)]
      exact (x.re hr).fr y (by omega)
  · rw [e0] at hl'
    rw [setO_n (by omega)]
    exact (x.lo hl').fr y (by omega)
theorem ok_goOn {Q : PH → Prop} {n : Nat} (hR : Rl b N h) (hI : Inv N) (hn : n ≤ 999) (q : ∀ h', Fr b 21 h h' → h' b 5 = h b 5 → Rl b (gnN N n) h' → Q h') : wp_X5_goOn b (nI n) h Q := by
  have i0 := hI.1
  have h4 := hI.2.1
  refine ⟨N 0 1 + 1, ?_⟩
  suffices H : ∀ d i g, i + d = N 0 1 → Fr b 21 h g → g b = h b → Rl b (gnP N n i) g → wp_X5_goOn_b2 b (nI n) Q (d + 1) (nI i) g from H (N 0 1) 0 h (by omega) Fr.rf rfl (by rw [gnP_0]; exact hR)
  have PI : ∀ i, i ≤ N 0 1 → Inv (gnP N n i) := by
    intro i hi
    refine ⟨hI.1, hI.2.1, fun r hr => ?_, fun l hl => ?_⟩
    · have hr' : r < N 0 0 := hr
      rw [gnP_lo (by omega)]; exact hI.ir hr'
    · have hl' : l < N 0 1 := hl
      unfold gnP
      split
      · exact (hI.il hl').go
      · exact hI.il hl'
  intro d
  induction d with
  | zero =>
    intro i g hi hF hb hP
    unfold wp_X5_goOn_b2
    rw [hb, hR.n1, hR.n2, nI_add]
    refine bt (nI_le (by omega) (by omega)) ?_
    rintro h2 rfl
    refine q _ (hF.u b 4 _ (by omega)) (by rw [up2_ne (by decide), hb]) ?_
    have hi' : N 0 1 = i := by omega
    have e1 : gnN N n 0 1 = N 0 1 := rfl
    have e0 : gnN N n 0 0 = N 0 0 := rfl
    refine ⟨hP.1, hP.2.1, ?_, ?_, ?_, fun r hr => ?_, fun l hl => ?_⟩
    · rw [up2_ne (by decide), hb]; exact hR.n0
    · rw [up2_ne (by decide), hb]; exact hR.n1
    · rw [up2_at]; rfl
    · rw [e0] at hr
      unfold gnN
      rw [setO_n (by omega), hi']
      exact (hP.re (r := r) (by rw [gnP_lo (by omega)]; exact hr)).fr (Fr.up (k := b)) (by omega)
    · rw [e1] at hl
      unfold gnN
      rw [setO_n (by omega), hi']
      exact (hP.lo (l := l) (by rw [gnP_lo (by omega)]; exact hl)).fr (Fr.up (k := b)) (by omega)
  | succ d ih =>
    intro i g hi hF hb hP
    unfold wp_X5_goOn_b2
    have pi := PI i (by omega)
    have e1 : gnP N n i 0 1 = N 0 1 := rfl
    rw [hb, hR.n1]
    refine bf (nI_ge (by omega) (by omega)) (ok_loopAt hP pi (by rw [e1]; omega) (sm_t ?_))
    have lo := hP.lo (l := i) (by rw [e1]; omega)
    have il := hI.il (by omega : i < N 0 1)
    rw [gnP_at] at lo
    refine ok_phaseBehind lo il (by omega) ?_
    rintro h10 rfl x rfl
    rw [nI_1]
    refine ih (i + 1) _ (by omega) (hF.u _ _ _ (by omega)) (by rw [up2_o b (by omega)]; exact hb) ?_
    rw [← gnP_s]
    refine hP.setL pi (by rw [e1]; omega) (Fr.up.sub (by omega) (by omega)) ?_
    obtain ⟨x1, x2, x3, x4, x5, x6, x7, x8, x9, x10⟩ := lo
    refine ⟨x1, x2, ?_, ?_, ?_, ?_, ?_, ?_, ?_, ?_⟩
    · rw [up2_ne (by decide), x3]; rfl
    · rw [up2_ne (by decide), x4]; rfl
    · rw [up2_ne (by decide), x5]; rfl
    · rw [up2_ne (by decide), x6]; rfl
    · rw [up2_at]; rfl
    · rw [up2_ne (by decide), x8]; rfl
    · intro c hc; rw [up2_o _ (by omega), x9 c hc, ufn_n (by omega)]
    · intro c hc; rw [up2_o _ (by omega), x10 c hc, ufn_n (by omega)]
theorem ok_addReel {Q : Int32 → PH → Prop} {n : Nat} (hS : SB b) (hR : Rl b N h) (hI : Inv N) (h3 : N 0 0 < 3) (hn : n ≤ 60) (q : ∀ h', Fr b 21 h h' → h' b 5 = h b 5 → Rl b (adR N n) h' → Q (nI (N 0 0)) h') : wp_X5_addReel b (nI n) h Q := by
  unfold wp_X5_addReel
  have i1 := hI.2.1
  rw [hR.n0, nI_1]
  rintro h1 e1
  have r1 : h1 b 2 = nI (N 0 0 + 1) := by rw [e1]; exact up2_at
  have F1 : Fr b 1 h h1 := by rw [e1]; exact Fr.up
  rw [r1, nI_pred]
  have fin : ∀ Q', Q' (some (b + 1 + 1 + 2 * N 0 0)) h1 → wp_X5_reelAt b (nI (N 0 0)) h1 Q' := by
    intro Q' q'
    unfold wp_X5_reelAt
    rw [r1, hR.1]
    refine cnt_in (by omega) (by omega) (bt' rfl (bt (nI_lt (by omega) (by omega)) ⟨vp_in_nI (by omega) (by omega), ?_⟩))
    rw [nI_clamp (by omega)]
    exact q'
  refine fin _ (sm_t (ok_begin (hS.2.2.1 _ h3) hn ?_))
  intro h' F' R'
  have eb : h' b = h1 b := F' b (by omega)
  rw [eb, r1, nI_pred]
  have o : ∀ j, j ≠ 2 → h' b j = h b j := fun j hj => by rw [eb, e1, up2_ne hj]
  refine q h' ((F1.sub (by omega) (by omega)).tr (F'.sub (by omega) (by omega))) (o 5 (by decide)) ⟨hR.1, hR.2.1, ?_, ?_, ?_, fun r hr => ?_, fun l hl => ?_⟩
  · rw [eb, r1]; rfl
  · rw [o 3 (by decide)]; exact hR.n1
  · rw [o 4 (by decide)]; exact hR.n2
  · have hr' : r < N 0 0 + 1 := hr
    unfold adR
    rw [setO_n (by omega)]
    by_cases e2 : r = N 0 0
    · subst e2; rw [setO_s]; exact R'
    · rw [setO_n (by omega)]
      exact ((hR.re (by omega)).fr F1 (by omega)).fr F' (by omega)
  · have hl' : l < N 0 1 := hl
    unfold adR
    rw [setO_n (by omega), setO_n (by omega)]
    exact ((hR.lo hl').fr F1 (by omega)).fr F' (by omega)
theorem ok_addLoop {Q : Int32 → PH → Prop} (hS : SB b) (hR : Rl b N h) (hI : Inv N) (h4 : N 0 1 < 4) (q : ∀ h', Fr b 21 h h' → h' b 5 = h b 5 → Rl b (adL N) h' → Q (nI (N 0 1)) h') : wp_X5_addLoop b h Q := by
  unfold wp_X5_addLoop
  have i1 := hI.1
  rw [hR.n1, nI_1]
  rintro h1 e1
  have r1 : h1 b 3 = nI (N 0 1 + 1) := by rw [e1]; exact up2_at
  have F1 : Fr b 1 h h1 := by rw [e1]; exact Fr.up
  rw [r1, nI_pred]
  have fin : ∀ Q', Q' (some (b + 8 + 1 + 3 * N 0 1)) h1 → wp_X5_loopAt b (nI (N 0 1)) h1 Q' := by
    intro Q' q'
    unfold wp_X5_loopAt
    rw [r1, hR.2.1]
    refine cnt_in (by omega) (by omega) (bt' rfl (bt (nI_lt (by omega) (by omega)) ⟨vp_in_nI (by omega) (by omega), ?_⟩))
    rw [nI_clamp (by omega)]
    exact q'
  refine fin _ (sm_t (ok_beginL (hS.2.2.2 _ h4).1 (hS.2.2.2 _ h4).2 ?_))
  intro h' F' R'
  have eb : h' b = h1 b := F' b (by omega)
  rw [eb, r1, nI_pred]
  have o : ∀ j, j ≠ 3 → h' b j = h b j := fun j hj => by rw [eb, e1, up2_ne hj]
  refine q h' ((F1.sub (by omega) (by omega)).tr (F'.sub (by omega) (by omega))) (o 5 (by decide)) ⟨hR.1, hR.2.1, ?_, ?_, ?_, fun r hr => ?_, fun l hl => ?_⟩
  · rw [o 2 (by decide)]; exact hR.n0
  · rw [eb, r1]; rfl
  · rw [o 4 (by decide)]; exact hR.n2
  · have hr' : r < N 0 0 := hr
    unfold adL
    rw [setO_n (by omega), setO_n (by omega)]
    exact ((hR.re hr').fr F1 (by omega)).fr F' (by omega)
  · have hl' : l < N 0 1 + 1 := hl
    unfold adL
    rw [setO_n (by omega)]
    by_cases e2 : l = N 0 1
    · subst e2; rw [setO_s]; exact R'
    · rw [setO_n (by omega)]
      exact ((hR.lo (by omega)).fr F1 (by omega)).fr F' (by omega)
theorem ok_reason {Q : Int32 → PH → Prop} {l r x y : Nat} (hR : Rl b N h) (hI : Inv N) (hl : l < N 0 1) (hr : r < N 0 0) (hx : x ≤ N (1 + r) 0) (hy : y ≤ N (1 + r) 0) (q : Q (nI (rsN N l r x y)) h) : wp_X5_reasonAgainst (some (b + 8 + 1 + 3 * l)) (some (b + 1 + 1 + 2 * r)) (nI x) (nI y) h Q := by
  unfold wp_X5_reasonAgainst
  have ir := hI.ir hr
  have il := hI.il hl
  have i60 := ir.1
  have i48 := il.1
  have i6 := il.2.2.2.2.1
  unfold rsN at q
  refine sm_t (sm_t ?_)
  by_cases e1 : y ≤ x
  · rw [if_pos e1] at q
    exact bf (nI_nlt e1 (by omega)) q
  · rw [if_neg e1] at q
    refine bt (nI_lt (by omega) (by omega)) (ok_isQuiet (hR.re hr) ir hx ?_)
    cases e2 : quN (N (1 + r)) x with
    | false => rw [if_pos e2] at q; exact bt' rfl q
    | true =>
      rw [if_neg (by rw [e2]; decide)] at q
      refine bf' (by decide) (ok_isQuiet (hR.re hr) ir hy ?_)
      cases e3 : quN (N (1 + r)) y with
      | false => rw [if_pos e3] at q; exact bt' rfl q
      | true =>
        rw [if_neg (by rw [e3]; decide)] at q
        refine bf' (by decide) ?_
        rw [(hR.lo hl).2.2.1, (hR.lo hl).2.2.2.1, nI_add, pk_sub (by omega), li_48]
        by_cases e4 : 48 < N (4 + l) 0 + y - x
        · rw [if_pos e4] at q
          exact bf (nI_ge (by omega) (by omega)) q
        · rw [if_neg e4] at q
          refine bt (nI_le (by omega) (by omega)) ?_
          rw [li_6]
          by_cases e5 : N (4 + l) 5 = 6
          · rw [if_pos e5] at q
            exact bf (nI_nlt (by omega) (by omega)) q
          · rw [if_neg e5] at q
            exact bt (nI_lt (by omega) (by omega)) q
theorem ok_joinTo {Q : Int32 → PH → Prop} {l r x y : Nat} (hR : Rl b N h) (hI : Inv N) (hl : l < N 0 1) (hr : r < N 0 0) (hx : x ≤ N (1 + r) 0) (hy : y ≤ N (1 + r) 0)
    (q0 : rsN N l r x y = 0 → ∀ h', Fr b 21 h h' → h' b 5 = h b 5 → Rl b (jnS N l r x y) h' → Q 0 h')
    (q1 : rsN N l r x y ≠ 0 → Rl b N (up2 h b 5 (h b 5 + 1)) → Q (nI (rsN N l r x y)) (up2 h b 5 (h b 5 + 1))) : wp_X5_joinTo b (some (b + 8 + 1 + 3 * l)) (some (b + 1 + 1 + 2 * r)) (nI x) (nI y) h Q := by
  unfold wp_X5_joinTo
  have i3 := hI.1
  have i4 := hI.2.1
  refine ok_reason hR hI hl hr hx hy ?_
  have hlt : rsN N l r x y < 6 := by unfold rsN; (repeat' split) <;> omega
  rw [z0 (by omega)]
  by_cases e : rsN N l r x y = 0
  · have e' := e
    unfold rsN at e'
    have c1 : ¬ y ≤ x := fun z => by rw [if_pos z] at e'; omega
    rw [if_neg c1] at e'
    have c2 : ¬ quN (N (1 + r)) x = false := fun z => by rw [if_pos z] at e'; omega
    rw [if_neg c2] at e'
    have c3 : ¬ quN (N (1 + r)) y = false := fun z => by rw [if_pos z] at e'; omega
    rw [if_neg c3] at e'
    have c4 : ¬ 48 < N (4 + l) 0 + y - x := fun z => by rw [if_pos z] at e'; omega
    rw [if_neg c4] at e'
    have c5 : ¬ N (4 + l) 5 = 6 := fun z => by rw [if_pos z] at e'; omega
    have il := hI.il hl
    have i6 := il.2.2.2.2.1
    refine bt e (sm_t (sm_t (ok_join (hR.lo hl) il (hR.re hr) (hI.ir hr) (by omega) (by omega) hy (by omega) (by omega) ?_)))
    intro h' F' L'
    have e0 : (nI (rsN N l r x y)) = 0 := by rw [e]; rfl
    rw [e0]
    exact q0 e h' (F'.sub (by omega) (by omega)) (by rw [F' b (by omega)]) (hR.setL hI hl F' L')
  · refine bf e ?_
    rintro h9 rfl
    have i1 := hI.1
    have i2 := hI.2.1
    refine q1 e ⟨hR.1, hR.2.1, ?_, ?_, ?_, fun r hr => (hR.re hr).fr (Fr.up (k := b)) (by omega), fun l hl => (hR.lo hl).fr (Fr.up (k := b)) (by omega)⟩
    · rw [up2_ne (by decide)]; exact hR.n0
    · rw [up2_ne (by decide)]; exact hR.n1
    · rw [up2_ne (by decide)]; exact hR.n2
theorem ok_changeMuted {Q : Int32 → PH → Prop} {l m : Nat} (hR : Rl b N h) (hI : Inv N) (hl : l < N 0 1) (hm : m ≤ 1) (q : ∀ h', Fr b 21 h h' → h' b 5 = h b 5 → Rl b (muS N l m) h' → Q (nI (sndN (muS N l m) 0)) h') : wp_X5_changeMuted b (some (b + 8 + 1 + 3 * l)) (nI m) h Q := by
  unfold wp_X5_changeMuted
  have i3 := hI.1
  have i4 := hI.2.1
  refine sm_t ⟨by rw [z0 (by omega), z1 (by omega)]; omega, ?_⟩
  rintro h6 rfl
  have R' : Rl b (muS N l m) (up2 h (b + 8 + 1 + 3 * l) 7 (nI m)) := by
    refine hR.setL hI hl (Fr.up.sub (by omega) (by omega)) ?_
    obtain ⟨x1, x2, x3, x4, x5, x6, x7, x8, x9, x10⟩ := hR.lo hl
    refine ⟨x1, x2, ?_, ?_, ?_, ?_, ?_, ?_, ?_, ?_⟩
    · rw [up2_ne (by decide), x3]; rfl
    · rw [up2_ne (by decide), x4]; rfl
    · rw [up2_ne (by decide), x5]; rfl
    · rw [up2_ne (by decide), x6]; rfl
    · rw [up2_ne (by decide), x7]; rfl
    · rw [up2_at]; rfl
    · intro c hc; rw [up2_o _ (by omega), x9 c hc, ufn_n (by omega)]
    · intro c hc; rw [up2_o _ (by omega), x10 c hc, ufn_n (by omega)]
  refine ok_soundBehind (n := 0) R' (hI.setL hl ((hI.il hl).mu hm)) (by omega) ?_
  exact q _ (Fr.up.sub (by omega) (by omega)) (by rw [up2_o b (by omega)]) R'
theorem snd_go {n t : Nat} (hI : Inv N) : sndN (gnN N n) t = sndN N (n + t) := by
  unfold sndN
  have e1 : gnN N n 0 1 = N 0 1 := rfl
  rw [e1]
  suffices H : ∀ d i s, i + d = N 0 1 → fl (fun l s => s + hbN (gnN N n (4 + l)) t) d i s = fl (fun l s => s + hbN (N (4 + l)) (n + t)) d i s from H (N 0 1) 0 0 (by omega)
  intro d
  induction d with
  | zero => intro i s _; rfl
  | succ d ih =>
    intro i s hi
    unfold fl
    rw [ih (i + 1) _ (by omega)]
    congr 2
    rw [gnN_l (by omega)]
    have il := hI.il (by omega : i < N 0 1)
    generalize N (4 + i) = f at il
    have e : phN (ufn f 3 (phN f n)) t = phN f (n + t) := by
      unfold phN
      rw [show ufn f 3 (if f 0 = 0 then 0 else (f 3 + n * f 1) % (f 0 * f 2)) 0 = f 0 from rfl, ufn_s]
      by_cases e0 : f 0 = 0
      · rw [if_pos e0, if_pos e0]
      · rw [if_neg e0, if_neg e0, if_neg e0]
        rw [show ufn f 3 ((f 3 + n * f 1) % (f 0 * f 2)) 1 = f 1 from rfl, show ufn f 3 ((f 3 + n * f 1) % (f 0 * f 2)) 2 = f 2 from rfl]
        rw [Nat.mod_add_mod, Nat.add_assoc, ← Nat.add_mul]
    unfold hbN
    rw [e]
    rw [show ufn f 3 (phN f n) 0 = f 0 from rfl, show ufn f 3 (phN f n) 4 = f 4 from rfl, show ufn f 3 (phN f n) 2 = f 2 from rfl]
    by_cases c : f 4 = 0 ∧ 0 < f 0
    · rw [if_pos c, if_pos c, ufn_n (by generalize phN f (n + t) / f 2 = z; omega)]
    · rw [if_neg c, if_neg c]
theorem snd_setR {N : Nat → Nat → Nat} {r t : Nat} {f : Nat → Nat} (hr : r < 3) : sndN (setO N (1 + r) f) t = sndN N t := by
  unfold sndN
  have e1 : setO N (1 + r) f 0 = N 0 := setO_n (by omega)
  rw [e1]
  suffices H : ∀ d i s, fl (fun l s => s + hbN (setO N (1 + r) f (4 + l)) t) d i s = fl (fun l s => s + hbN (N (4 + l)) t) d i s from H _ _ _
  intro d
  induction d with
  | zero => intro i s; rfl
  | succ d ih =>
    intro i s
    unfold fl
    rw [ih]
    rw [setO_n (by omega)]
theorem ok_recordOn {Q : Int32 → PH → Prop} {r n : Nat} (hR : Rl b N h) (hI : Inv N) (hr : r < N 0 0) (hn : n ≤ N (1 + r) 0) (q : ∀ h', Fr b 21 h h' → h' b 5 = h b 5 → Rl b (rcS N r n) h' → Q (nI (rcV N n)) h') : wp_X5_recordOn b (some (b + 1 + 1 + 2 * r)) (nI n) h Q := by
  have ir := hI.ir hr
  have i60 := ir.1
  have i3 := hI.1
  have i4 := hI.2.1
  refine ⟨n + 1, ?_⟩
  suffices H : ∀ d i s g, i + d = n → Fr b 21 h g → g b = h b → Rl b (setO N (1 + r) (rcF N r i)) g → (∀ h', Fr b 21 h h' → h' b 5 = h b 5 → Rl b (rcS N r n) h' → Q (nI (fl (fun t s => s + min (sndN N t) 9) d i s)) h') → wp_X5_recordOn_b5 b (some (b + 1 + 1 + 2 * r)) (nI n) Q (d + 1) (nI s) (nI i) g by
    refine H n 0 0 h (by omega) Fr.rf rfl ?_ q
    have : rcF N r 0 = N (1 + r) := by funext j; unfold rcF; rw [if_neg (by omega)]
    rw [this, setO_id]
    exact hR
  have RI : ∀ i, Inv (setO N (1 + r) (rcF N r i)) := by
    intro i
    refine hI.setR hr ⟨ir.1, fun j hj => ?_⟩
    have hj' : j < N (1 + r) 0 := hj
    unfold rcF
    split
    · omega
    · exact ir.2 j hj'
  intro d
  induction d with
  | zero =>
    intro i s g hi hF hb hP q
    unfold wp_X5_recordOn_b5
    have ei : i = n := by omega
    subst ei
    refine bt (nI_le (by omega) (by omega)) (ok_goOn hP (RI i) (by omega) ?_)
    intro h' F' e5 R'
    refine q h' (hF.tr F') (by rw [e5, hb]) ?_
    have : gnN (setO N (1 + r) (rcF N r i)) i = rcS N r i := by
      unfold rcS gnN
      have e0 : setO N (1 + r) (rcF N r i) 0 = N 0 := setO_n (by omega)
      rw [e0]
      funext o
      unfold setO gnP
      dsimp only
      by_cases z : o = 0
      · rw [if_pos z, if_neg (by omega), if_pos z]
      · rw [if_neg z]
        by_cases z1 : o = 1 + r
        · rw [if_neg (by omega), if_pos z1, if_pos z1]
        · rw [if_neg z1, if_neg z1, if_neg z]
    rw [← this]
    exact R'
  | succ d ih =>
    intro i s g hi hF hb hP q
    unfold wp_X5_recordOn_b5
    refine bf (nI_ge (by omega) (by omega)) (ok_soundBehind hP (RI i) (by omega) ?_)
    rw [snd_setR (by omega)]
    have sb : ∀ d i s, i + d ≤ N 0 1 → fl (fun l s => s + hbN (N (4 + l)) (i + d)) 0 i s = s := fun _ _ _ _ => rfl
    have bd : sndN N i < 2 ^ 31 := by
      unfold sndN
      suffices H : ∀ d j s, j + d = N 0 1 → fl (fun l s => s + hbN (N (4 + l)) i) d j s ≤ s + 9 * d by
        have := H (N 0 1) 0 0 (by omega)
        omega
      intro d
      induction d with
      | zero => intro j s _; exact Nat.le_refl _
      | succ d ih =>
        intro j s hj
        unfold fl
        have h1 := ih (j + 1) (s + hbN (N (4 + j)) i) (by omega)
        have il := hI.il (by omega : j < N 0 1)
        have h2 : hbN (N (4 + j)) i ≤ 9 := by
          unfold hbN
          split
          · rename_i c
            exact il.2.2.2.2.2.2.2.2.2 _ (il.head (il.phN_lt c.2 i))
          · omega
        omega
    rw [li_9]
    refine min_n bd (by omega) (sm_t ?_)
    have re := hP.re (r := r) (by rw [setO_n (by omega)]; exact hr)
    rw [setO_s] at re
    refine put_in re.1 (by decide) (by omega) ?_
    rintro x rfl y rfl
    rw [nI_add, nI_1]
    refine ih (i + 1) _ _ (by omega) (hF.u _ _ _ (by omega)) (by rw [up2_o b (by omega)]; exact hb) ?_ q
    have := hP.setR (r := r) (f := rcF N r (i + 1)) (RI i) (by rw [setO_n (by omega)]; exact hr) (h' := up2 g (b + 1 + 1 + 2 * r + 1) i (nI (min (sndN N i) 9))) (Fr.up.sub (by omega) (by omega)) ⟨re.1, ?_, ?_⟩
    · rw [setO_2] at this
      exact this
    · rw [up2_o _ (by omega), re.2.1]; rfl
    · intro c hc
      have hc' : c < N (1 + r) 0 := hc
      by_cases e : c = i
      · subst e
        rw [up2_at]
        unfold rcF
        rw [if_pos (by omega), show 1 + c - 1 = c by omega]
      · rw [up2_ne e, re.2.2 c hc']
        unfold rcF
        by_cases e2 : 1 ≤ 1 + c ∧ 1 + c < 1 + i
        · rw [if_pos e2, if_pos (by omega)]
        · rw [if_neg e2, if_neg (by omega)]
theorem ok_copyStudio {Q : PH → Prop} {b' : Nat} (hS : SB b) (hR : Rl b' N h) (hI : Inv N) (hd : b + 21 ≤ b' ∨ b' + 21 ≤ b) (q : ∀ h', Fr b 21 h h' → h' b 5 = h b' 5 → Rl b N h' → Q h') : wp_X5_copyFrom b b' h Q := by
  unfold wp_X5_copyFrom
  have i3 := hI.1
  have i4 := hI.2.1
  have n : ∀ (g : PH) j x, up2 g b j x b' = g b' := fun g j x => up2_o b' (by omega)
  rintro h1 e1 h2 e2 h3 e3 h4 e4
  rw [hR.n0] at e1
  rw [e1, n, hR.n1] at e2
  rw [e2, n, n, hR.n2] at e3
  rw [e3, n, n, n] at e4
  have F4 : Fr b 1 h h4 := by subst e1 e2 e3 e4; exact (((Fr.up.u b 3 _ (by omega)).u b 4 _ (by omega)).u b 5 _ (by omega))
  have r2 : h4 b 2 = nI (N 0 0) := by subst e1 e2 e3 e4; rw [up2_ne (by decide), up2_ne (by decide), up2_ne (by decide), up2_at]
  have r3 : h4 b 3 = nI (N 0 1) := by subst e1 e2 e3 e4; rw [up2_ne (by decide), up2_ne (by decide), up2_at]
  have r4 : h4 b 4 = nI (N 0 2) := by subst e1 e2 e3 e4; rw [up2_ne (by decide), up2_at]
  have r5 : h4 b 5 = h b' 5 := by subst e1 e2 e3 e4; rw [up2_at]
  clear e1 e2 e3 e4 h1 h2 h3
  have at_r : ∀ g r, g b = h4 b → r < N 0 0 → ∀ Q', Q' (some (b + 1 + 1 + 2 * r)) g → wp_X5_reelAt b (nI r) g Q' := by
    intro g r hg hr Q' q'
    unfold wp_X5_reelAt
    rw [hg, r2, hS.1]
    refine cnt_in hr (by omega) (bt' rfl (bt (nI_lt (by omega) (by omega)) ⟨vp_in_nI (by omega) (by omega), ?_⟩))
    rw [nI_clamp (by omega)]
    exact q'
  have at_l : ∀ g l, g b = h4 b → l < N 0 1 → ∀ Q', Q' (some (b + 8 + 1 + 3 * l)) g → wp_X5_loopAt b (nI l) g Q' := by
    intro g r hg hr Q' q'
    unfold wp_X5_loopAt
    rw [hg, r3, hS.2.1]
    refine cnt_in hr (by omega) (bt' rfl (bt (nI_lt (by omega) (by omega)) ⟨vp_in_nI (by omega) (by omega), ?_⟩))
    rw [nI_clamp (by omega)]
    exact q'
  refine ⟨N 0 0 + 1, ?_⟩
  suffices H : ∀ d i g, i + d = N 0 0 → Fr b 21 h g → g b = h4 b → (∀ r, r < i → Re (b + 1 + 1 + 2 * r) (N (1 + r)) g) → wp_X5_copyFrom_b34 b b' Q (d + 1) (nI i) g from H (N 0 0) 0 h4 (by omega) (F4.sub (by omega) (by omega)) rfl (fun r hr => by omega)
  intro d
  induction d with
  | zero =>
    intro i g hi hF hb hP
    unfold wp_X5_copyFrom_b34
    rw [hb, r2]
    refine bt (nI_le (by omega) (by omega)) ⟨N 0 1 + 1, ?_⟩
    suffices H : ∀ d j g, j + d = N 0 1 → Fr b 21 h g → g b = h4 b → (∀ r, r < N 0 0 → Re (b + 1 + 1 + 2 * r) (N (1 + r)) g) → (∀ l, l < j → Lo (b + 8 + 1 + 3 * l) (N (4 + l)) g) → wp_X5_copyFrom_b78 b b' Q (d + 1) (nI j) g from H (N 0 1) 0 g (by omega) hF hb (fun r hr => hP r (by omega)) (fun r hr => by omega)
    clear hP hF hb hi g i
    intro d
    induction d with
    | zero =>
      intro j g hj hF hb hP hL
      unfold wp_X5_copyFrom_b78
      rw [hb, r3]
      refine bt (nI_le (by omega) (by omega)) (q g hF (by rw [hb, r5]) ⟨hS.1, hS.2.1, ?_, ?_, ?_, hP, fun l hl => hL l (by omega)⟩)
      · rw [hb, r2]
      · rw [hb, r3]
      · rw [hb, r4]
    | succ d ih =>
      intro j g hj hF hb hP hL
      unfold wp_X5_copyFrom_b78
      rw [hb, r3]
      have R' : Rl b' N g := hR.fr hI hF (by omega)
      refine bf (nI_ge (by omega) (by omega)) (at_l g j hb (by omega) _ (ok_loopAt R' hI (by omega) (sm_t (sm_t ?_))))
      refine ok_copyLoop (hS.2.2.2 _ (by omega)).1 (hS.2.2.2 _ (by omega)).2 (R'.lo (by omega)) (hI.il (by omega)) (by omega) ?_
      intro h' F' L'
      rintro x rfl
      rw [nI_1]
      refine ih (j + 1) h' (by omega) (hF.tr (F'.sub (by omega) (by omega))) (by rw [F' b (by omega)]; exact hb) (fun r hr => (hP r hr).fr F' (by omega)) (fun l hl => ?_)
      by_cases e : l = j
      · subst e; exact L'
      · exact (hL l (by omega)).fr F' (by omega)
  | succ d ih =>
    intro i g hi hF hb hP
    unfold wp_X5_copyFrom_b34
    rw [hb, r2]
    have R' : Rl b' N g := hR.fr hI hF (by omega)
    refine bf (nI_ge (by omega) (by omega)) (at_r g i hb (by omega) _ (ok_reelAt R' hI (by omega) (sm_t (sm_t ?_))))
    refine ok_copyReel (hS.2.2.1 _ (by omega)) (R'.re (by omega)) (hI.ir (by omega)) (by omega) ?_
    intro h' F' L'
    rintro x rfl
    rw [nI_1]
    refine ih (i + 1) h' (by omega) (hF.tr (F'.sub (by omega) (by omega))) (by rw [F' b (by omega)]; exact hb) (fun r hr => ?_)
    by_cases e : r = i
    · subst e; exact L'
    · exact (hP r (by omega)).fr F' (by omega)
theorem ok_clear {Q : PH → Prop} (hS : SB b) (q : ∀ h', Fr b 21 h h' → h' b 5 = 0 → Rl b zeS h' → Q h') : wp_X5_clear b h Q := by
  unfold wp_X5_clear
  rintro h1 rfl h2 rfl h3 rfl h4 rfl
  refine q _ ((((Fr.rf.u b 2 _ (by omega)).u b 3 _ (by omega)).u b 4 _ (by omega)).u b 5 _ (by omega)) up2_at ⟨hS.1, hS.2.1, ?_, ?_, ?_, fun r hr => absurd hr (Nat.not_lt_zero r), fun r hr => absurd hr (Nat.not_lt_zero r)⟩
  · rw [up2_ne (by decide), up2_ne (by decide), up2_ne (by decide), up2_at]; rfl
  · rw [up2_ne (by decide), up2_ne (by decide), up2_at]; rfl
  · rw [up2_ne (by decide), up2_at]; rfl
end

