/-! ===== changes: the rides that count ===== -/
def aE (P : Nat) (T : Nat → Nat → Nat) (S : Nat → Prop) (p q : Nat) : Prop := p < P ∧ q < P ∧ S p ∧ sUp T p 36 q
def bE (P : Nat) (T : Nat → Nat → Nat) (In : Nat → Prop) (f t p q : Nat) : Prop := p < P ∧ q < P ∧ sUp T p 36 q ∧ (q = t ∨ q = f ∨ In q)
theorem aE_lt {P : Nat} {T : Nat → Nat → Nat} {S : Nat → Prop} : ∀ p q, aE P T S p q → p < P ∧ q < P := fun _ _ h => ⟨h.1, h.2.1⟩
theorem bE_lt {P : Nat} {T : Nat → Nat → Nat} {In : Nat → Prop} {f t : Nat} : ∀ p q, bE P T In f t p q → p < P ∧ q < P := fun _ _ h => ⟨h.1, h.2.1⟩
section CHG
variable {P Q f t : Nat} {σ0 τ0 : jT} {T : Nat → Nat → Nat} {In : Nat → Prop}
theorem sv_in {q : Nat} (h : gd (sE P T In) f q < gF) : q = f ∨ In q := by
  cases e : gd (sE P T In) f q with
  | zero => exact Or.inl (gd_0 e)
  | succ v =>
    obtain ⟨p, h1, _⟩ := gd_pred e (by omega)
    exact Or.inr h1.2.2.2
theorem sv_go (hP : P ≤ 10) (hf : f < P) {p q : Nat} (hp : p < P) (hq : q < P) (h : gd (sE P T In) f p < gF) (hu : sUp T p 36 q) (hi : q = f ∨ In q) : gd (sE P T In) f q < gF := by
  rcases hi with rfl | hi
  · rw [gd_t]; decide
  · have := gd_edge hP hf sE_lt (show sE P T In q p from ⟨hq, hp, hu, hi⟩) h
    have h2 := gd_cases hP hf (sE_lt (T := T) (In := In)) hp
    have hgF : gF = 1000000 := rfl
    omega
theorem ab_le (hP : P ≤ 10) (ht : t < P) : ∀ v p, gd (aE P T (fun p => gd (sE P T In) f p < gF)) t p = v → v < gF → gd (bE P T In f t) t p ≤ v := by
  intro v
  induction v with
  | zero => intro p h _; rw [gd_0 h, gd_t]; omega
  | succ v ih =>
    intro p h hv
    obtain ⟨q, ⟨h1, h2, h3, h4⟩, h5⟩ := gd_pred h hv
    have h6 := ih q h5 (by omega)
    have hq : q = t ∨ q = f ∨ In q := by
      cases v with
      | zero => exact Or.inl (gd_0 h5)
      | succ w =>
        obtain ⟨q', ⟨_, _, h7, _⟩, _⟩ := gd_pred h5 (by omega)
        exact Or.inr (sv_in h7)
    have := gd_edge hP ht bE_lt (show bE P T In f t p q from ⟨h1, h2, h4, hq⟩) (by omega)
    omega
theorem ba_le (hP : P ≤ 10) (ht : t < P) (hf : f < P) : ∀ v p, gd (sE P T In) f p < gF → gd (bE P T In f t) t p = v → v < gF → gd (aE P T (fun p => gd (sE P T In) f p < gF)) t p ≤ v := by
  intro v
  induction v with
  | zero => intro p _ h _; rw [gd_0 h, gd_t]; omega
  | succ v ih =>
    intro p hs h hv
    obtain ⟨q, ⟨h1, h2, h3, h4⟩, h5⟩ := gd_pred h hv
    have h6 : gd (aE P T (fun p => gd (sE P T In) f p < gF)) t q ≤ v := by
      by_cases c : q = t
      · rw [c, gd_t]; omega
      · exact ih q (sv_go hP hf h1 h2 hs h3 (h4.resolve_left c)) h5 (by omega)
    have := gd_edge hP ht aE_lt (show aE P T (fun p => gd (sE P T In) f p < gF) p q from ⟨h1, h2, hs, h3⟩) (by omega)
    omega
theorem ab_eq (hP : P ≤ 10) (ht : t < P) (hf : f < P) {p : Nat} (hp : p < P) (hs : gd (sE P T In) f p < gF) : gd (aE P T (fun p => gd (sE P T In) f p < gF)) t p = gd (bE P T In f t) t p := by
  have h1 := gd_cases hP ht (aE_lt (T := T) (S := fun p => gd (sE P T In) f p < gF)) hp
  have h2 := gd_cases hP ht (bE_lt (T := T) (In := In) (f := f) (t := t)) hp
  have h3 := ab_le (T := T) (In := In) (f := f) hP ht _ p rfl
  have h4 := ba_le (T := T) (In := In) hP ht hf _ p hs rfl
  have hgF : gF = 1000000 := rfl
  rcases h1 with h1 | h1 <;> rcases h2 with h2 | h2
  · have a := h3 (by omega); have b := h4 (by omega); omega
  · have a := h3 (by omega); omega
  · have b := h4 (by omega); omega
  · omega
/-- both pick the same ride -/
theorem ab_pick (hP : P ≤ 10) (ht : t < P) (hf : f < P) {p q v : Nat} (hv : v < gF) (hp : p < P) (hq : q < P) (hs : gd (sE P T In) f p < gF) (hu : sUp T p 36 q) : ((q = t ∨ q = f ∨ In q) ∧ gd (bE P T In f t) t q = v) ↔ gd (aE P T (fun p => gd (sE P T In) f p < gF)) t q = v := by
  constructor
  · rintro ⟨h1, h2⟩
    by_cases c : q = t
    · rw [c, gd_t] at h2 ⊢; exact h2
    · rw [ab_eq hP ht hf hq (sv_go hP hf hp hq hs hu (h1.resolve_left c))]; exact h2
  · intro h
    by_cases c : q = t
    · rw [c, gd_t] at h ⊢; exact ⟨Or.inl rfl, h⟩
    · cases v with
      | zero => exact absurd (gd_0 h) c
      | succ w =>
        obtain ⟨q', ⟨_, _, h7, _⟩, _⟩ := gd_pred h hv
        rw [ab_eq hP ht hf hq h7] at h
        exact ⟨Or.inr (sv_in h7), h⟩
end CHG
/-! the class looks for a pair -/
theorem ix36 {p z : Nat} (hp : p < 10) (hz : z < 36) : nI p * 36 + nI z = nI (36 * p + z) := by
  have h : ∀ p, p < 10 → nI p * 36 = nI (36 * p) := by decide
  rw [h p hp]; exact ja_add _ _
theorem c_pairTo {P Q p n : Nat} {σ0 τ0 σ : jT} {T : Nat → Nat → Nat} {S : Nat → Prop} {R : Nat → Nat} (hP : P ≤ 10) (p1 : σ.1 195 = nI P) (hT : tOk P Q σ0 τ0 T) (hp : p < P) (hn : n ≤ 100) (h56 : ∀ z, z < 36 → (S p → σ.2 56 (36 * p + z) = tI (T p z)) ∧ (¬ S p → σ.2 56 (36 * p + z) = -1)) (hr : ∀ q, q < P → σ.2 57 q = fI (R q)) (hR : ∀ q, q < P → R q ≤ 100 ∨ R q = gF) :
    ∀ (m z fu : Nat), z + m = 36 → m < fu → (∀ z', z' < z → ¬ (S p ∧ T p z' < 10 ∧ R (T p z') = n)) → ∃ r, f_X0_pairTo_b15 fu (nI p) (nI n) (nI z) σ = some (r, σ) ∧ ((r = -1 ∧ ∀ z', z' < 36 → ¬ (S p ∧ T p z' < 10 ∧ R (T p z') = n)) ∨ ∃ z1, z1 < 36 ∧ r = nI z1 ∧ (S p ∧ T p z1 < 10 ∧ R (T p z1) = n) ∧ ∀ z', z' < z1 → ¬ (S p ∧ T p z' < 10 ∧ R (T p z') = n)) := by
  intro m
  induction m with
  | zero =>
    intro z fu hz hf h
    obtain ⟨fu, rfl⟩ : ∃ f', fu = f' + 1 := ⟨fu - 1, by omega⟩
    rw [f_X0_pairTo_b15, if_pos (show (36 : Int32) ≤ nI z from by rw [show z = 36 by omega]; decide)]
    exact ⟨-1, rfl, Or.inl ⟨rfl, fun z' hz' => h z' (by omega)⟩⟩
  | succ m ih =>
    intro z fu hz hf h
    obtain ⟨fu, rfl⟩ : ∃ f', fu = f' + 1 := ⟨fu - 1, by omega⟩
    obtain ⟨a1, a2⟩ := h56 z (by omega)
    rw [f_X0_pairTo_b15, if_neg (show ¬ (36 : Int32) ≤ nI z from nI_ge (b := 36) (by omega) (by omega)), ix36 (by omega) (by omega), if_pos (ja_in (n := 360) (by omega) (by omega)), nI_clamp (by omega)]
    have nxt : ¬ (S p ∧ T p z < 10 ∧ R (T p z) = n) → ∃ r, f_X0_pairTo_b15 fu (nI p) (nI n) (nI (z + 1)) σ = some (r, σ) ∧ ((r = -1 ∧ ∀ z', z' < 36 → ¬ (S p ∧ T p z' < 10 ∧ R (T p z') = n)) ∨ ∃ z1, z1 < 36 ∧ r = nI z1 ∧ (S p ∧ T p z1 < 10 ∧ R (T p z1) = n) ∧ ∀ z', z' < z1 → ¬ (S p ∧ T p z' < 10 ∧ R (T p z') = n)) := fun c => ih (z + 1) fu (by omega) (by omega) (fun z' hz' => by
        by_cases w : z' = z
        · rw [w]; exact c
        · exact h z' (by omega))
    have none1 : σ.2 56 (36 * p + z) = -1 → ¬ (S p ∧ T p z < 10 ∧ R (T p z) = n) → ∃ r, ((f_X0_farOf (σ.2 56 (36 * p + z)) σ).bind fun q3 => if ¬ q3.1 = nI n then f_X0_pairTo_b15 fu (nI p) (nI n) (nI z + 1) q3.2 else some (nI z, q3.2)) = some (r, σ) ∧ ((r = -1 ∧ ∀ z', z' < 36 → ¬ (S p ∧ T p z' < 10 ∧ R (T p z') = n)) ∨ ∃ z1, z1 < 36 ∧ r = nI z1 ∧ (S p ∧ T p z1 < 10 ∧ R (T p z1) = n) ∧ ∀ z', z' < z1 → ¬ (S p ∧ T p z' < 10 ∧ R (T p z') = n)) := fun e c => by
      rw [e, c_far_n p1]
      simp only [bnd]
      rw [if_pos (fun q => ja_neg1 (by omega) q.symm), nS]
      exact nxt c
    by_cases cS : S p
    · by_cases c10 : T p z < 10
      · have hTP : T p z < P := by rcases tOk_lt hT hp (show z < 36 by omega) with w | w <;> omega
        rw [a1 cS, tI_t c10, c_far p1 hP hTP, hr _ hTP]
        simp only [bnd]
        have e := fI_n (hR _ hTP) hn
        by_cases c : R (T p z) = n
        · rw [if_neg (fun q => q (e.2 c))]
          exact ⟨nI z, rfl, Or.inr ⟨z, by omega, rfl, ⟨cS, c10, c⟩, h⟩⟩
        · rw [if_pos (fun q => c (e.1 q)), nS]
          exact nxt (fun w => c w.2.2)
      · exact none1 (by rw [a1 cS, tI_f c10]) (fun w => c10 w.2.1)
    · exact none1 (a2 cS) (fun w => cS w.1)
theorem c_pairTo1 {P p : Nat} {x r : Int32} {σ : jT} (hP : P ≤ 10) (p1 : σ.1 195 = nI P) (hp : p < P) (e : f_X0_pairTo_b15 1000 (nI p) x (nI 0) σ = some (r, σ)) : f_X0_pairTo (nI p) x σ = some (r, σ) := by
  unfold f_X0_pairTo
  rw [c_hp_t p1 hP hp]
  show (if ¬ (1 : Int32) = 0 then f_X0_pairTo_b15 1000 (nI p) x 0 σ else some (-1, σ)) = some (r, σ)
  rw [if_pos (show ¬ (1 : Int32) = 0 by decide)]
  exact e
theorem ch_next {P Q : Nat} {σ0 τ0 σ1 : jT} {T : Nat → Nat → Nat} {S : Nat → Prop} (hP : P ≤ 10) (p1 : σ1.1 195 = nI P) (hT : tOk P Q σ0 τ0 T) (h56 : ∀ p z, p < 10 → z < 36 → (S p → σ1.2 56 (36 * p + z) = tI (T p z)) ∧ (¬ S p → σ1.2 56 (36 * p + z) = -1)) : fNext (aE P T S) P 0 σ1 := by
  intro p n σ R hp hn hc hr hR
  have p1' : σ.1 195 = nI P := by rw [hc.1]; exact p1
  obtain ⟨r, e, h⟩ := c_pairTo hP p1' hT hp (show n ≤ 100 by omega) (fun z hz => by rw [hc.2 56 (by decide)]; exact h56 p z (by omega) hz) hr hR 36 0 1000 (by omega) (by omega) (fun w' h => absurd h (Nat.not_lt_zero _))
  have e' : f_X0_pairTo (nI p) (nI n) σ = some (r, σ) := c_pairTo1 hP p1' hp e
  refine ⟨r, by rw [if_pos rfl]; exact e', ?_⟩
  rcases h with ⟨rfl, h⟩ | ⟨z1, h1, rfl, h2, -⟩
  · exact ⟨fun _ ⟨q, ⟨_, _, hS, h3, z, hz, hq⟩, hR⟩ => h z hz ⟨hS, by omega, by rw [hq]; exact hR⟩, fun _ => rfl⟩
  · have hTP : T p z1 < P := by rcases tOk_lt hT hp h1 with w | w <;> omega
    exact ⟨fun q => absurd q (ja_neg1 (by omega)), fun q => absurd ⟨T p z1, ⟨hp, hTP, h2.1, h2.2.1, z1, h1, rfl⟩, h2.2.2⟩ q⟩
