theorem arrV_cong {cA : ClassId} {n : Nat} {f g : Nat → Value} (h : ∀ i, i < n → f i = g i) : arrV cA n f = arrV cA n g := by
  unfold arrV
  have e : (fun j : Fin n => f j.val) = (fun j : Fin n => g j.val) := funext fun j => h j.val j.isLt
  rw [e]
theorem at_q {D : va_G} {x : Nat} {cA : ClassId} {n n2 : Nat} {f g : Nat → Option Nat} {H : Heap} (hn : n = n2) (h : ∀ i, i < n → f i = g i) (k : va_at D vwCl (x, .inl (cA, n, .inr (.inr (.inr (.inr f))))) H) : va_at D vwCl (x, .inl (cA, n2, .inr (.inr (.inr (.inr g))))) H := by
  subst hn
  have k1 : H[x]? = some (vp_cell cA (n, .inr (.inr (.inr (.inr f))))) := k
  show H[x]? = some (vp_cell cA (n, .inr (.inr (.inr (.inr g)))))
  rw [vp_cell_q] at k1 ⊢
  rw [k1, arrV_cong (fun i hi => by rw [h i hi])]
theorem gw_fin {D : va_G} {a : Nat → Nat} {c c1 : Nat → va_E} {N : Nat} {H : Heap} (hP : va_P D vwCl (gw a c N) H) (h : ∀ j, j < N → va_at D vwCl (a j, c j) H → va_at D vwCl (a j, c1 j) H) : va_P D vwCl (gw a c1 N) H := by
  intro i q hi
  obtain ⟨h1, rfl⟩ := gw_of hi
  exact h i h1 (hP i _ (gw_get h1))
def rm (j : Nat) : Nat := j + (match kd j with
  | 1 => 341
  | 2 => 8
  | 3 => 1
  | 4 => 2
  | 5 => 1
  | 6 => 1
  | 7 => 2
  | 8 => 6
  | 13 => 5
  | 14 => 10
  | 15 => 232
  | _ => 0)
theorem kd_all : ∀ j, kd j = 0 ∨ kd j = 1 ∨ kd j = 2 ∨ kd j = 3 ∨ kd j = 4 ∨ kd j = 5 ∨ kd j = 6 ∨ kd j = 7 ∨ kd j = 8 ∨ kd j = 10 ∨ kd j = 11 ∨ kd j = 12 ∨ kd j = 13 ∨ kd j = 14 ∨ kd j = 15 := by
  intro j
  rcases Nat.lt_or_ge j 352 with h | h
  · exact (by decide +kernel : ∀ j, j < 352 → (kd j = 0 ∨ kd j = 1 ∨ kd j = 2 ∨ kd j = 3 ∨ kd j = 4 ∨ kd j = 5 ∨ kd j = 6 ∨ kd j = 7 ∨ kd j = 8 ∨ kd j = 10 ∨ kd j = 11 ∨ kd j = 12 ∨ kd j = 13 ∨ kd j = 14 ∨ kd j = 15)) j h
  · exact Or.inl (kd_big h)
theorem ctz_0 {Z : ZT} {a : Nat → Nat} {j : Nat} (e : kd j = 0) : ctz Z a j = .inr (0, []) := by unfold ctz ct; rw [e]; rfl
theorem ctz_1 {Z : ZT} {a : Nat → Nat} {j : Nat} (e : kd j = 1) : ctz Z a j = .inr (6, [.ref (a (j + 1)), .ref (a (j + 22)), .ref (a (j + 43)), .ref (a (j + 297)), .ref (a (j + 319)), .ref (a (j + 341))]) := ct_1 e
theorem ctz_2 {Z : ZT} {a : Nat → Nat} {j : Nat} (e : kd j = 2) : ctz Z a j = .inr (4, [.ref (a (j + 1)), .ref (a (j + 8)), .int 0, .int 0, .int 0, .int 0]) := ct_2 e
theorem ctz_3 {Z : ZT} {a : Nat → Nat} {j : Nat} (e : kd j = 3) : ctz Z a j = .inr (2, [.ref (a (j + 1)), .int 0]) := ct_3 e
theorem ctz_4 {Z : ZT} {a : Nat → Nat} {j : Nat} (e : kd j = 4) : ctz Z a j = .inr (0, [.ref (a (j + 1)), .ref (a (j + 2)), .int 0, .int 0, .int 0, .int 0, .int 0, .int 0]) := ct_4 e
theorem ctz_5 {Z : ZT} {a : Nat → Nat} {j : Nat} (e : kd j = 5) : ctz Z a j = .inr (3, [.ref (a (j + 1)), .int 0]) := ct_5 e
theorem ctz_6 {Z : ZT} {a : Nat → Nat} {j : Nat} (e : kd j = 6) : ctz Z a j = .inr (1, [.ref (a (j + 1)), .int 0, .int 0]) := ct_6 e
theorem ctz_7 {Z : ZT} {a : Nat → Nat} {j : Nat} (e : kd j = 7) : ctz Z a j = .inr (5, [.ref (a (j + 1)), .ref (a (j + 2)), .int 0, .int 0, .int 0]) := ct_7 e
theorem ctz_8 {Z : ZT} {a : Nat → Nat} {j : Nat} (e : kd j = 8) : ctz Z a j = .inr (7, [.int 0, .ref (a (j + 1)), .int 0, .ref (a (j + 2)), .ref (a (j + 3)), .ref (a (j + 4)), .int 0, .ref (a (j + 5)), .ref (a (j + 6)), .int 0, .int 0]) := ct_8 e
theorem ctz_10 {Z : ZT} {a : Nat → Nat} {j : Nat} (e : kd j = 10) : ctz Z a j = .inl (Z.2.1 0, al j, .inl (fun _ => 0)) := ct_10 e
theorem ctz_11 {Z : ZT} {a : Nat → Nat} {j : Nat} (e : kd j = 11) : ctz Z a j = .inl (Z.2.1 1, al j, .inl (fun _ => 0)) := ct_11 e
theorem ctz_12 {Z : ZT} {a : Nat → Nat} {j : Nat} (e : kd j = 12) : ctz Z a j = .inl (Z.2.1 2, al j, .inr (.inl (fun _ => 0))) := ct_12 e
theorem ctz_13 {Z : ZT} {a : Nat → Nat} {j : Nat} (e : kd j = 13) : ctz Z a j = .inl (Z.2.1 3, al j, .inr (.inr (.inr (.inr (fun i => some (a (j + 1 + 2 * i))))))) := ct_13 e
theorem al_13 {j : Nat} (e : kd j = 13) : al j = 3 := (by decide +kernel : ∀ j, j < 352 → kd j = 13 → al j = 3) j (kd_lt e (by decide)) e
theorem ctz_14 {Z : ZT} {a : Nat → Nat} {j : Nat} (e : kd j = 14) : ctz Z a j = .inl (Z.2.1 4, al j, .inr (.inr (.inr (.inr (fun i => some (a (j + 1 + 3 * i))))))) := ct_14 e
theorem al_14 {j : Nat} (e : kd j = 14) : al j = 4 := (by decide +kernel : ∀ j, j < 352 → kd j = 14 → al j = 4) j (kd_lt e (by decide)) e
theorem ctz_15 {Z : ZT} {a : Nat → Nat} {j : Nat} (e : kd j = 15) : ctz Z a j = .inl (Z.2.1 5, al j, .inr (.inr (.inr (.inr (fun i => some (a (j + 1 + 21 * i))))))) := ct_15 e
theorem al_15 {j : Nat} (e : kd j = 15) : al j = 12 := (by decide +kernel : ∀ j, j < 352 → kd j = 15 → al j = 12) j (kd_lt e (by decide)) e
theorem at_cong {Z : ZT} {a a0 : Nat → Nat} {j x : Nat} {H : Heap} (ha : ∀ i, i ≤ rm j → a i = a0 i) (h : va_at Z.1 vwCl (x, ctz Z a0 j) H) : va_at Z.1 vwCl (x, ctz Z a j) H := by
  rcases kd_all j with e | e | e | e | e | e | e | e | e | e | e | e | e | e | e
  · rw [ctz_0 e] at h ⊢; exact h
  · have hr : rm j = j + 341 := by unfold rm; rw [e]; rfl
    rw [ctz_1 e] at h ⊢
    rw [ha (j + 1) (by omega), ha (j + 22) (by omega), ha (j + 43) (by omega), ha (j + 297) (by omega), ha (j + 319) (by omega), ha (j + 341) (by omega)]
    exact h
  · have hr : rm j = j + 8 := by unfold rm; rw [e]; rfl
    rw [ctz_2 e] at h ⊢
    rw [ha (j + 1) (by omega), ha (j + 8) (by omega)]
    exact h
  · have hr : rm j = j + 1 := by unfold rm; rw [e]; rfl
    rw [ctz_3 e] at h ⊢
    rw [ha (j + 1) (by omega)]
    exact h
  · have hr : rm j = j + 2 := by unfold rm; rw [e]; rfl
    rw [ctz_4 e] at h ⊢
    rw [ha (j + 1) (by omega), ha (j + 2) (by omega)]
    exact h
  · have hr : rm j = j + 1 := by unfold rm; rw [e]; rfl
    rw [ctz_5 e] at h ⊢
    rw [ha (j + 1) (by omega)]
    exact h
  · have hr : rm j = j + 1 := by unfold rm; rw [e]; rfl
    rw [ctz_6 e] at h ⊢
    rw [ha (j + 1) (by omega)]
    exact h
  · have hr : rm j = j + 2 := by unfold rm; rw [e]; rfl
    rw [ctz_7 e] at h ⊢
    rw [ha (j + 1) (by omega), ha (j + 2) (by omega)]
    exact h
  · have hr : rm j = j + 6 := by unfold rm; rw [e]; rfl
    rw [ctz_8 e] at h ⊢
    rw [ha (j + 1) (by omega), ha (j + 2) (by omega), ha (j + 3) (by omega), ha (j + 4) (by omega), ha (j + 5) (by omega), ha (j + 6) (by omega)]
    exact h
  · rw [ctz_10 e] at h ⊢; exact h
  · rw [ctz_11 e] at h ⊢; exact h
  · rw [ctz_12 e] at h ⊢; exact h
  · have hr : rm j = j + 5 := by unfold rm; rw [e]; rfl
    rw [ctz_13 e] at h ⊢
    refine at_q rfl (fun i hi => ?_) h
    rw [al_13 e] at hi
    rw [ha (j + 1 + 2 * i) (by omega)]
  · have hr : rm j = j + 10 := by unfold rm; rw [e]; rfl
    rw [ctz_14 e] at h ⊢
    refine at_q rfl (fun i hi => ?_) h
    rw [al_14 e] at hi
    rw [ha (j + 1 + 3 * i) (by omega)]
  · have hr : rm j = j + 232 := by unfold rm; rw [e]; rfl
    rw [ctz_15 e] at h ⊢
    refine at_q rfl (fun i hi => ?_) h
    rw [al_15 e] at hi
    rw [ha (j + 1 + 21 * i) (by omega)]
theorem fb_at {Z : ZT} {a : Nat → Nat} {c : Nat → va_E} {lo hi j x : Nat} {H : Heap} (hb : FB Z a c lo hi) (h1 : lo ≤ j) (h2 : j < hi) (hr : rm j < hi) (h : va_at Z.1 vwCl (x, c j) H) : va_at Z.1 vwCl (x, ctz Z a j) H := by
  obtain ⟨a0, k1, k2⟩ := hb
  rw [k2 j h1 h2] at h
  exact at_cong (fun i hi => k1 i (by omega)) h
theorem rmb_2 {k j : Nat} (e : kd k = 2) (h1 : k ≤ j) (h2 : j < k + 21) : rm j < k + 21 := by
  have h := (by decide +kernel : ∀ k, k < 352 → kd k = 2 → ∀ i, i < 21 → rm (k + i) < k + 21) k (kd_lt e (by decide)) e (j - k) (by omega)
  rwa [show k + (j - k) = j by omega] at h
theorem rmb_3 {k j : Nat} (e : kd k = 3) (h1 : k ≤ j) (h2 : j < k + 2) : rm j < k + 2 := by
  have h := (by decide +kernel : ∀ k, k < 352 → kd k = 3 → ∀ i, i < 2 → rm (k + i) < k + 2) k (kd_lt e (by decide)) e (j - k) (by omega)
  rwa [show k + (j - k) = j by omega] at h
theorem rmb_4 {k j : Nat} (e : kd k = 4) (h1 : k ≤ j) (h2 : j < k + 3) : rm j < k + 3 := by
  have h := (by decide +kernel : ∀ k, k < 352 → kd k = 4 → ∀ i, i < 3 → rm (k + i) < k + 3) k (kd_lt e (by decide)) e (j - k) (by omega)
  rwa [show k + (j - k) = j by omega] at h
theorem rmb_5 {k j : Nat} (e : kd k = 5) (h1 : k ≤ j) (h2 : j < k + 22) : rm j < k + 22 := by
  have h := (by decide +kernel : ∀ k, k < 352 → kd k = 5 → ∀ i, i < 22 → rm (k + i) < k + 22) k (kd_lt e (by decide)) e (j - k) (by omega)
  rwa [show k + (j - k) = j by omega] at h
theorem rmb_6 {k j : Nat} (e : kd k = 6) (h1 : k ≤ j) (h2 : j < k + 254) : rm j < k + 254 := by
  have h := (by decide +kernel : ∀ k, k < 352 → kd k = 6 → ∀ i, i < 254 → rm (k + i) < k + 254) k (kd_lt e (by decide)) e (j - k) (by omega)
  rwa [show k + (j - k) = j by omega] at h
theorem rmb_7 {k j : Nat} (e : kd k = 7) (h1 : k ≤ j) (h2 : j < k + 3) : rm j < k + 3 := by
  have h := (by decide +kernel : ∀ k, k < 352 → kd k = 7 → ∀ i, i < 3 → rm (k + i) < k + 3) k (kd_lt e (by decide)) e (j - k) (by omega)
  rwa [show k + (j - k) = j by omega] at h
