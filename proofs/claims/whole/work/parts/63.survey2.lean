/-! ===== the whole survey ===== -/
/-- p is an INN where a ride from q stops -/
def sE (P : Nat) (T : Nat → Nat → Nat) (In : Nat → Prop) (p q : Nat) : Prop := p < P ∧ q < P ∧ sUp T q 36 p ∧ In p
def svd (P : Nat) (T : Nat → Nat → Nat) (In : Nat → Prop) (f r p : Nat) : Prop := 1 ≤ r ∧ gV (sE P T In) f (r - 1) p < gF
def sInv (T : Nat → Nat → Nat) (D : Nat → Prop) (x : Int32) (σ : jT) : Prop := rep x (fun q => ∃ p, D p ∧ sUp T p 36 q) ∧ ∀ p z, p < 10 → z < 36 → (D p → σ.2 56 (36 * p + z) = tI (T p z)) ∧ (¬ D p → σ.2 56 (36 * p + z) = -1)
theorem sInv_iff {T : Nat → Nat → Nat} {D D' : Nat → Prop} {x : Int32} {σ : jT} (h : sInv T D x σ) (hD : ∀ p, D p ↔ D' p) : sInv T D' x σ := by
  refine ⟨rep_iff h.1 (fun q => ⟨fun ⟨p, a, b⟩ => ⟨p, (hD p).1 a, b⟩, fun ⟨p, a, b⟩ => ⟨p, (hD p).2 a, b⟩⟩), fun p z hp hz => ?_⟩
  obtain ⟨a, b⟩ := h.2 p z hp hz
  exact ⟨fun c => a ((hD p).2 c), fun c => b (fun q => c ((hD p).1 q))⟩
theorem gV_P {E : Nat → Nat → Prop} {P t : Nat} (ht : t < P) (hE : ∀ p q, E p q → p < P ∧ q < P) : ∀ (k p : Nat), gV E t k p < gF → p < P := by
  intro k
  induction k with
  | zero => intro p h; rw [gV_0.1 h]; exact ht
  | succ k ih =>
    intro p h
    by_cases c : gV E t k p < gF
    · exact ih p c
    · rw [gV, if_neg c] at h
      split at h
      · next e => obtain ⟨q, e1, _⟩ := e; exact (hE p q e1).1
      · omega
theorem sE_lt {P : Nat} {T : Nat → Nat → Nat} {In : Nat → Prop} : ∀ p q, sE P T In p q → p < P ∧ q < P := fun _ _ h => ⟨h.1, h.2.1⟩
theorem sUp_P {P Q p q : Nat} {σ0 τ0 : jT} {T : Nat → Nat → Nat} (hT : tOk P Q σ0 τ0 T) (hp : p < P) (h : sUp T p 36 q) : q < P := by
  obtain ⟨h1, z, h2, h3⟩ := h
  rcases tOk_lt hT hp h2 with w | w <;> omega
/-- where the next round begins -/
theorem sv_next {P Q f r : Nat} {σ0 τ0 : jT} {T : Nat → Nat → Nat} {In : Nat → Prop} (hT : tOk P Q σ0 τ0 T) (hf : f < P) (hr : r ≤ 20) (p : Nat) : (p = f ∨ (∃ p', svd P T In f r p' ∧ sUp T p' 36 p) ∧ In p) ↔ gV (sE P T In) f r p < gF := by
  cases r with
  | zero =>
    rw [gV_0]
    exact ⟨fun h => h.elim id (fun ⟨⟨p', h1, _⟩, _⟩ => absurd h1.1 (by omega)), Or.inl⟩
  | succ r =>
    constructor
    · rintro (rfl | ⟨⟨p', ⟨_, h1⟩, h2⟩, h3⟩)
      · exact gV_t
      · have h1' : gV (sE P T In) f r p' < gF := h1
        have hp' := gV_P hf sE_lt r p' h1'
        exact gV_edge (by omega) ⟨sUp_P hT hp' h2, hp', h2, h3⟩ h1'
    · intro h
      rcases gV_inv (by omega) h with h | ⟨q, h1, h2⟩
      · exact Or.inl h
      · exact Or.inr ⟨⟨q, ⟨by omega, h2⟩, h1.2.2.1⟩, h1.2.2.2⟩
theorem sv_p {P Q : Nat} {σ0 τ0 : jT} {T : Nat → Nat → Nat} {x1 x3 x4 x5 : Int32} {D0 B : Nat → Prop} (hP : P ≤ 10) (hQ : Q ≤ 6) (p1 : σ0.1 195 = nI P) (q1 : σ0.1 197 = nI Q) (hT : tOk P Q σ0 τ0 T) (hB : rep x5 B) (hBD : ∀ p, B p → ¬ D0 p) (k29 : Int32 → Int32 → Int32 → Int32 → jT → Option (Int32 × jT)) :
    ∀ (m k fu : Nat) (x : Int32) (σ : jT), k + m = P → m < fu → sC σ0 σ → sInv T (fun p => D0 p ∨ (p < k ∧ B p)) x σ → ∃ x' σ', f_X0_survey_b58 k29 fu x1 x x3 x4 x5 (nI k) σ = k29 x1 x' (x3 ||| x5) (x4 + 1) σ' ∧ sC σ0 σ' ∧ sInv T (fun p => D0 p ∨ (p < P ∧ B p)) x' σ' := by
  intro m
  induction m with
  | zero =>
    intro k fu x σ hk hf hs hi
    obtain ⟨fu, rfl⟩ : ∃ f', fu = f' + 1 := ⟨fu - 1, by omega⟩
    rw [f_X0_survey_b58]
    unfold f_X3_places
    simp only [bnd]
    rw [hs.1 195 (by decide), p1, if_pos ((ja_le (by omega) (by omega)).2 (by omega))]
    exact ⟨x, σ, rfl, hs, by rw [show P = k by omega]; exact hi⟩
  | succ m ih =>
    intro k fu x σ hk hf hs hi
    obtain ⟨fu, rfl⟩ : ∃ f', fu = f' + 1 := ⟨fu - 1, by omega⟩
    rw [f_X0_survey_b58]
    unfold f_X3_places f_X0_survey_b91
    simp only [bnd]
    rw [hs.1 195 (by decide), p1, if_neg (fun c => by have := (ja_le (by omega) (by omega)).1 c; omega), nS]
    obtain ⟨t1, t2⟩ := rep_test hB (q := k) (by omega)
    by_cases c : B k
    · rw [t1 c, if_neg (show ¬ (1 : Int32) = 0 by decide)]
      have hnk : ¬ (D0 k ∨ (k < k ∧ B k)) := fun q => q.elim (hBD k c) (fun w => absurd w.1 (Nat.lt_irrefl _))
      obtain ⟨y, σ1, e1, e2, e3, e4⟩ := c_sFrom hP hQ q1 hT (show k < P by omega) hs (fun z hz => (hi.2 k z (by omega) hz).2 hnk)
      rw [e1]
      simp only [bnd]
      refine ih (k + 1) fu _ σ1 (by omega) (by omega) e2 ⟨rep_iff (rep_or hi.1 e4) (fun q => ⟨?_, ?_⟩), fun p z hp hz => ?_⟩
      · rintro (⟨p, h1, h2⟩ | h)
        · exact ⟨p, h1.elim Or.inl (fun w => Or.inr ⟨by omega, w.2⟩), h2⟩
        · exact ⟨k, Or.inr ⟨by omega, c⟩, h⟩
      · rintro ⟨p, h1, h2⟩
        by_cases z : p = k
        · subst z; exact Or.inr h2
        · exact Or.inl ⟨p, h1.elim Or.inl (fun w => Or.inr ⟨by omega, w.2⟩), h2⟩
      · by_cases zk : p = k
        · subst zk
          have := e3.2 z hz
          rw [if_pos hz] at this
          exact ⟨fun _ => this, fun w => absurd (Or.inr ⟨by omega, c⟩) w⟩
        · have h0 : σ1.2 56 (36 * p + z) = σ.2 56 (36 * p + z) := e3.1 _ (by omega)
          rw [h0]
          obtain ⟨a, b⟩ := hi.2 p z hp hz
          exact ⟨fun w => a (w.elim Or.inl (fun w => Or.inr ⟨by omega, w.2⟩)), fun w => b (fun q => w (q.elim Or.inl (fun q => Or.inr ⟨by omega, q.2⟩)))⟩
    · rw [t2 c, if_pos rfl, Int32.or_zero]
      refine ih (k + 1) fu x σ (by omega) (by omega) hs (sInv_iff hi (fun p => ⟨fun w => w.elim Or.inl (fun w => Or.inr ⟨by omega, w.2⟩), fun w => w.elim Or.inl (fun w => ?_)⟩))
      by_cases z : p = k
      · subst z; exact absurd w.2 c
      · exact Or.inr ⟨by omega, w.2⟩
theorem c_survey {P Q f : Nat} {σ0 τ0 : jT} {T : Nat → Nat → Nat} {In : Nat → Prop} (hP : P ≤ 10) (hQ : Q ≤ 6) (p1 : σ0.1 195 = nI P) (q1 : σ0.1 197 = nI Q) (hI : rep (σ0.1 196) In) (hT : tOk P Q σ0 τ0 T) (hf : f < P) :
    ∃ x σ', f_X0_survey (nI f) σ0 = some (x, σ') ∧ sC σ0 σ' ∧ sInv T (fun p => gd (sE P T In) f p < gF) x σ' := by
  have rounds : ∀ (m r fu : Nat) (x y : Int32) (σ : jT), r + m = 10 → m < fu → sC σ0 σ → sInv T (svd P T In f r) x σ → rep y (svd P T In f r) → ∃ x' σ', f_X0_survey_b29 fu (nI f) x y (nI r) σ = some (x', σ') ∧ sC σ0 σ' ∧ sInv T (fun p => gd (sE P T In) f p < gF) x' σ' := by
    intro m
    induction m with
    | zero =>
      intro r fu x y σ hr hfu hs hi hy
      obtain ⟨fu, rfl⟩ : ∃ f', fu = f' + 1 := ⟨fu - 1, by omega⟩
      obtain rfl : r = 10 := by omega
      rw [f_X0_survey_b29, if_pos (by decide)]
      exact ⟨x, σ, rfl, hs, sInv_iff hi (fun p => ⟨fun w => w.2, fun w => ⟨by omega, w⟩⟩)⟩
    | succ m ih =>
      intro r fu x y σ hr hfu hs hi hy
      obtain ⟨fu, rfl⟩ : ∃ f', fu = f' + 1 := ⟨fu - 1, by omega⟩
      rw [f_X0_survey_b29, if_neg (show ¬ (10 : Int32) ≤ nI r from nI_ge (b := 10) (by omega) (by omega))]
      unfold f_X3_inns
      simp only [bnd]
      rw [hs.1 196 (by decide)]
      have hB : rep (((1 <<< (nI f &&& 31)) ||| (x &&& σ0.1 196)) &&& (y ^^^ (-1))) (fun p => gV (sE P T In) f r p < gF ∧ ¬ svd P T In f r p) :=
        rep_iff (rep_dif (rep_or (rep_bit (show f < 10 by omega)) (rep_and hi.1 hI)) hy) (fun p => by rw [sv_next hT hf (by omega)])
      obtain ⟨x', σ', e1, e2, e3⟩ := sv_p (x1 := nI f) (x3 := y) (x4 := nI r) (D0 := svd P T In f r) hP hQ p1 q1 hT hB (fun p h => h.2) (f_X0_survey_b29 fu) P 0 1000 x σ (by omega) (by omega) hs (sInv_iff hi (fun p => ⟨Or.inl, fun w => w.elim id (fun w => absurd w.1 (Nat.not_lt_zero _))⟩))
      have e1' : f_X0_survey_b58 (f_X0_survey_b29 fu) 1000 (nI f) x y (nI r) (((1 <<< (nI f &&& 31)) ||| (x &&& σ0.1 196)) &&& (y ^^^ (-1))) 0 σ = _ := e1
      rw [e1', nS]
      have hst : ∀ p, svd P T In f r p → gV (sE P T In) f r p < gF := fun p h => gV_mono (by omega) h.2
      refine ih (r + 1) fu x' _ σ' (by omega) (by omega) e2 (sInv_iff e3 (fun p => ⟨fun w => ⟨by omega, ?_⟩, fun w => ?_⟩)) (rep_iff (rep_or hy hB) (fun p => ⟨fun w => ⟨by omega, ?_⟩, fun w => ?_⟩))
      · exact w.elim (hst p) (fun w => w.2.1)
      · have w2 : gV (sE P T In) f r p < gF := w.2
        by_cases c : svd P T In f r p
        · exact Or.inl c
        · exact Or.inr ⟨gV_P hf sE_lt r p w2, w2, c⟩
      · exact w.elim (hst p) (fun w => w.1)
      · have w2 : gV (sE P T In) f r p < gF := w.2
        by_cases c : svd P T In f r p
        · exact Or.inl c
        · exact Or.inr ⟨w2, c⟩
  have init : ∀ (m k fu : Nat) (σ : jT), k + m = 360 → m < fu → sC σ0 σ → (∀ i, i < k → σ.2 56 i = -1) → ∃ σ', f_X0_survey_b2 fu (nI f) (nI k) σ = f_X0_survey_b29 1000 (nI f) 0 0 0 σ' ∧ sC σ0 σ' ∧ ∀ i, i < 360 → σ'.2 56 i = -1 := by
    intro m
    induction m with
    | zero =>
      intro k fu σ hk hfu hs hi
      obtain ⟨fu, rfl⟩ : ∃ f', fu = f' + 1 := ⟨fu - 1, by omega⟩
      rw [f_X0_survey_b2, if_pos (show (360 : Int32) ≤ nI k from by rw [show k = 360 by omega]; decide)]
      exact ⟨σ, rfl, hs, fun i h => hi i (by omega)⟩
    | succ m ih =>
      intro k fu σ hk hfu hs hi
      obtain ⟨fu, rfl⟩ : ∃ f', fu = f' + 1 := ⟨fu - 1, by omega⟩
      rw [f_X0_survey_b2, if_neg (show ¬ (360 : Int32) ≤ nI k from nI_ge (b := 360) (by omega) (by omega)), if_pos (ja_in (n := 360) (by omega) (by omega)), nI_clamp (by omega), nS]
      refine ih (k + 1) fu _ (by omega) (by omega) (sC_trans hs sC_gA) (fun i h => ?_)
      rw [ja_gA]
      by_cases z : i = k
      · rw [if_pos ⟨rfl, z⟩]
      · rw [if_neg (fun w => z w.2)]; exact hi i (by omega)
  obtain ⟨σ1, e1, e2, e3⟩ := init 360 0 1000 σ0 (by omega) (by omega) (sC_refl _) (fun i h => absurd h (Nat.not_lt_zero _))
  unfold f_X0_survey
  have e1' : f_X0_survey_b2 1000 (nI f) 0 σ0 = _ := e1
  rw [e1']
  have h0 : ∀ p, ¬ svd P T In f 0 p := fun p h => absurd h.1 (by omega)
  exact rounds 10 0 1000 0 0 σ1 (by omega) (by omega) e2 ⟨rep_iff rep_0 (fun q => ⟨False.elim, fun ⟨p, h, _⟩ => h0 p h⟩), fun p z hp hz => ⟨fun h => absurd h (h0 p), fun _ => e3 _ (by omega)⟩⟩ (rep_iff rep_0 (fun q => ⟨False.elim, fun h => h0 q h⟩))
