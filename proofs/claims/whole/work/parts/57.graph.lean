/-! ===== the fewest: how far places are from one ===== -/
noncomputable def cN (A : Nat → Prop) : Nat → Nat
  | 0 => 0
  | n + 1 => cN A n + @ite _ (A n) (Classical.propDecidable _) 1 0
theorem cN_le (A : Nat → Prop) (n : Nat) : cN A n ≤ n := by
  induction n with
  | zero => exact Nat.le_refl _
  | succ n ih => unfold cN; split <;> omega
theorem cN_mono {A B : Nat → Prop} (n : Nat) (h : ∀ i, i < n → A i → B i) : cN A n ≤ cN B n := by
  induction n with
  | zero => exact Nat.le_refl _
  | succ n ih =>
    have := ih (fun i hi => h i (by omega))
    have h2 := h n (by omega)
    unfold cN
    by_cases a : A n
    · rw [if_pos a, if_pos (h2 a)]; omega
    · rw [if_neg a]; omega
theorem cN_lt {A B : Nat → Prop} (n : Nat) (h : ∀ i, i < n → A i → B i) {j : Nat} (hj : j < n) (hB : B j) (hA : ¬ A j) : cN A n < cN B n := by
  induction n with
  | zero => omega
  | succ n ih =>
    unfold cN
    by_cases e : j = n
    · subst e
      have := cN_mono j (fun i hi => h i (by omega))
      rw [if_neg hA, if_pos hB]; omega
    · have := ih (fun i hi => h i (by omega)) (by omega)
      have h2 := h n (by omega)
      by_cases a : A n
      · rw [if_pos a, if_pos (h2 a)]; omega
      · rw [if_neg a]; omega
/-- far away -/
def gF : Nat := 1000000
/-- how far p is from t, as far as k ways show it -/
noncomputable def gV (E : Nat → Nat → Prop) (t : Nat) : Nat → Nat → Nat
  | 0, p => if p = t then 0 else gF
  | k + 1, p => if gV E t k p < gF then gV E t k p else @ite _ (∃ q, E p q ∧ gV E t k q = k) (Classical.propDecidable _) (k + 1) gF
section GRAPH
variable {E : Nat → Nat → Prop} {t : Nat}
theorem gV_le : ∀ (k p : Nat), k ≤ 100 → gV E t k p ≤ k ∨ gV E t k p = gF := by
  intro k
  induction k with
  | zero => intro p _; unfold gV; by_cases c : p = t
            · rw [if_pos c]; exact Or.inl (Nat.le_refl _)
            · rw [if_neg c]; exact Or.inr rfl
  | succ k ih =>
    intro p hk
    unfold gV
    by_cases c : gV E t k p < gF
    · rw [if_pos c]
      rcases ih p (by omega) with z | z
      · exact Or.inl (by omega)
      · omega
    · rw [if_neg c]
      split
      · exact Or.inl (Nat.le_refl _)
      · exact Or.inr rfl
theorem gV_keep {k p : Nat} (h : gV E t k p < gF) : gV E t (k + 1) p = gV E t k p := by
  rw [gV, if_pos h]
theorem gV_up {k m p : Nat} (h : gV E t k p < gF) : gV E t (k + m) p = gV E t k p := by
  induction m with
  | zero => rfl
  | succ m ih => rw [← Nat.add_assoc, gV_keep (by rw [ih]; exact h), ih]
theorem gV_ge {k j p : Nat} (hj : k ≤ j) (h : gV E t k p < gF) : gV E t j p = gV E t k p := by
  obtain ⟨m, rfl⟩ := Nat.exists_eq_add_of_le hj
  exact gV_up h
/-- what is told with k ways is told with as many as it says -/
theorem gV_at : ∀ (k p v : Nat), k ≤ 100 → gV E t k p = v → v < gF → gV E t v p = v := by
  intro k
  induction k with
  | zero =>
    intro p v _ h hv
    rcases gV_le (E := E) (t := t) 0 p (by omega) with z | z
    · rw [show v = 0 by omega]; omega
    · omega
  | succ k ih =>
    intro p v hk h hv
    by_cases c : gV E t k p < gF
    · rw [gV_keep c] at h
      exact ih p v (by omega) h hv
    · have h' := h
      rw [gV, if_neg c] at h'
      split at h'
      · rw [← h']; rw [← h'] at h; exact h
      · omega
theorem gV_at' {k p : Nat} (hk : k ≤ 100) (hv : gV E t k p < gF) : gV E t (gV E t k p) p = gV E t k p := gV_at k p _ hk rfl hv
theorem gV_pred {k p v : Nat} (hk : k ≤ 100) (h : gV E t k p = v + 1) (hv : v + 1 < gF) : ∃ q, E p q ∧ gV E t v q = v := by
  have h1 := gV_at k p (v + 1) hk h hv
  have c : ¬ gV E t v p < gF := fun c => by
    have h2 := gV_keep c
    rcases gV_le (E := E) (t := t) v p (by rcases gV_le (E := E) (t := t) k p hk with z | z <;> omega) with z | z <;> omega
  rw [gV, if_neg c] at h1
  split at h1
  · next e => exact e
  · omega
/-- as many places are seen as there are ways, while new ones are -/
theorem gV_cnt {P : Nat} (ht : t < P) (hE : ∀ p q, E p q → p < P ∧ q < P) : ∀ (v p : Nat), v ≤ 100 → gV E t v p = v → p < P → v + 1 ≤ cN (fun q => gV E t v q < gF) P := by
  intro v
  induction v with
  | zero =>
    intro p _ h hp
    have h0 : cN (fun _ => False) P < cN (fun q => gV E t 0 q < gF) P := cN_lt P (fun _ _ q => q.elim) ht (by show gV E t 0 t < gF; unfold gV; rw [if_pos rfl]; decide) (fun q => q)
    omega
  | succ v ih =>
    intro p hv h hp
    obtain ⟨q, hq, e⟩ := gV_pred hv h (by unfold gF; omega)
    have h1 := ih q (by omega) e (hE p q hq).2
    have h2 : cN (fun q => gV E t v q < gF) P < cN (fun q => gV E t (v + 1) q < gF) P := by
      refine cN_lt P (fun i _ hi => ?_) hp ?_ ?_
      · show gV E t (v + 1) i < gF
        rw [gV_keep hi]; exact hi
      · show gV E t (v + 1) p < gF
        rw [h]; unfold gF; omega
      · intro c
        have c' : gV E t v p < gF := c
        have := gV_keep c'
        rcases gV_le (E := E) (t := t) v p (by omega) with z | z <;> omega
    omega
theorem gV_lt {P k p : Nat} (hk : k ≤ 100) (ht : t < P) (hE : ∀ p q, E p q → p < P ∧ q < P) (hp : p < P) (h : gV E t k p < gF) : gV E t k p < P := by
  have hv : gV E t k p ≤ 100 := by rcases gV_le (E := E) (t := t) k p hk with z | z <;> omega
  have h1 := gV_cnt ht hE (gV E t k p) p hv (gV_at' hk h) hp
  have h2 := cN_le (fun q => gV E t (gV E t k p) q < gF) P
  omega
/-- how far it is: 9 ways tell all of at most 10 places -/
noncomputable def gd (E : Nat → Nat → Prop) (t p : Nat) : Nat := gV E t 9 p
theorem gd_cases {P : Nat} (hP : P ≤ 10) (ht : t < P) (hE : ∀ p q, E p q → p < P ∧ q < P) {p : Nat} (hp : p < P) : gd E t p < P ∨ gd E t p = gF := by
  by_cases c : gd E t p < gF
  · exact Or.inl (gV_lt (by omega) ht hE hp c)
  · rcases gV_le (E := E) (t := t) 9 p (by omega) with z | z
    · unfold gd gF at c; omega
    · exact Or.inr z
theorem gd_t : gd E t t = 0 := by
  have h : gV E t 0 t = 0 := by unfold gV; rw [if_pos rfl]
  unfold gd
  rw [gV_ge (k := 0) (by omega) (by rw [h]; decide), h]
theorem gd_0 {p : Nat} (h : gd E t p = 0) : p = t := by
  have h1 := gV_at 9 p 0 (by omega) h (by decide)
  rw [gV] at h1
  by_cases c : p = t
  · exact c
  · rw [if_neg c] at h1; exact absurd h1 (by decide)
theorem gd_pred {p v : Nat} (h : gd E t p = v + 1) (hv : v + 1 < gF) : ∃ q, E p q ∧ gd E t q = v := by
  obtain ⟨q, h1, h2⟩ := gV_pred (k := 9) (by omega) h hv
  have hv9 : v ≤ 9 := by
    have h' : gV E t 9 p = v + 1 := h
    rcases gV_le (E := E) (t := t) 9 p (by omega) with z | z <;> omega
  refine ⟨q, h1, ?_⟩
  unfold gd
  rw [gV_ge hv9 (by rw [h2]; omega), h2]
theorem gd_edge {P : Nat} (hP : P ≤ 10) (ht : t < P) (hE : ∀ p q, E p q → p < P ∧ q < P) {p q : Nat} (h : E p q) (hq : gd E t q < gF) : gd E t p ≤ gd E t q + 1 := by
  have hv := gV_lt (k := 9) (by omega) ht hE (hE p q h).2 hq
  have ea := gV_at' (k := 9) (p := q) (by omega) hq
  have hq' : gV E t 9 q = gd E t q := rfl
  rw [hq'] at ea hv
  generalize gd E t q = v at ea hv hq
  have h1 : gV E t (v + 1) p ≤ v + 1 := by
    rw [gV]
    by_cases c : gV E t v p < gF
    · rw [if_pos c]
      rcases gV_le (E := E) (t := t) v p (by omega) with z | z <;> omega
    · rw [if_neg c, if_pos ⟨q, h, ea⟩]; omega
  have hf : v + 1 < gF := by unfold gF; omega
  by_cases c9 : v + 1 ≤ 9
  · have := gV_ge (E := E) (t := t) (j := 9) (p := p) c9 (by omega)
    unfold gd; omega
  · have h10 : gV E t 10 p < gF := by rw [gV_ge (E := E) (t := t) (k := v + 1) (by omega) (by omega)]; omega
    have h2 := gV_lt (k := 10) (by omega) ht hE (hE p q h).1 h10
    have h3 := gV_at' (k := 10) (p := p) (by omega) h10
    have h4 := gV_ge (E := E) (t := t) (j := 9) (k := gV E t 10 p) (p := p) (by omega) (by rw [h3]; exact h10)
    unfold gd; omega
/-- rows that the relaxing leaves: sound, and all below -/
def gSo (E : Nat → Nat → Prop) (t P : Nat) (R : Nat → Nat) : Prop := ∀ p, p < P → gd E t p ≤ R p ∧ R p ≤ gF
def gCo (E : Nat → Nat → Prop) (t P k : Nat) (R : Nat → Nat) : Prop := ∀ p, p < P → gd E t p ≤ k → R p ≤ gd E t p
theorem gS_step {P : Nat} {R : Nat → Nat} (hP : P ≤ 10) (ht : t < P) (hE : ∀ p q, E p q → p < P ∧ q < P) (h : gSo E t P R) {p q : Nat} (hpq : E p q) : gd E t p ≤ R q + 1 := by
  obtain ⟨h1, h2⟩ := hE p q hpq
  obtain ⟨h3, h4⟩ := h q h2
  by_cases c : gd E t q < gF
  · have := gd_edge hP ht hE hpq c; omega
  · rcases gd_cases hP ht hE h1 with z | z
    · unfold gF at c; omega
    · omega
theorem gC_step {P k : Nat} {R R' : Nat → Nat} (hk : k + 1 < gF) (hE : ∀ p q, E p q → p < P ∧ q < P) (hc : gCo E t P k R) (hle : ∀ p, p < P → R' p ≤ R p) (hr : ∀ p q, E p q → R' p ≤ R q + 1) : gCo E t P (k + 1) R' := by
  intro p hp hd
  by_cases c : gd E t p ≤ k
  · have := hc p hp c
    have := hle p hp
    omega
  · have e : gd E t p = k + 1 := by omega
    obtain ⟨q, h1, h2⟩ := gd_pred e hk
    have h3 := hc q (hE p q h1).2 (by omega)
    have h4 := hr p q h1
    omega
theorem gC_all {P k : Nat} {R : Nat → Nat} (hP : P ≤ 10) (ht : t < P) (hE : ∀ p q, E p q → p < P ∧ q < P) (hk : P ≤ k + 1) (hs : gSo E t P R) (hc : gCo E t P k R) {p : Nat} (hp : p < P) : R p = gd E t p := by
  obtain ⟨h1, h2⟩ := hs p hp
  rcases gd_cases hP ht hE hp with z | z
  · have := hc p hp (by omega); omega
  · omega
end GRAPH
