/-! ===== the survey ===== -/
def sC (σ σ' : jT) : Prop := (∀ i, i < 3144 ∨ 3148 < i → σ'.1 i = σ.1 i) ∧ ∀ o, o ≠ 10 → o ≠ 11 → o ≠ 56 → o < 50 ∨ 54 < o → σ'.2 o = σ.2 o
theorem sC_refl (σ : jT) : sC σ σ := ⟨fun _ _ => rfl, fun _ _ _ _ _ => rfl⟩
theorem sC_trans {a b c : jT} (h1 : sC a b) (h2 : sC b c) : sC a c := ⟨fun i h => (h2.1 i h).trans (h1.1 i h), fun o a1 a2 a3 a4 => (h2.2 o a1 a2 a3 a4).trans (h1.2 o a1 a2 a3 a4)⟩
theorem sC_q {a b : jT} (h : qC a b) : sC a b := ⟨h.1, fun o a1 a2 _ a4 => h.2 o a1 a2 a4⟩
theorem sC_gA {a : jT} {k : Nat} {v : Int32} : sC a (gA a 56 k v) := ⟨fun _ _ => rfl, fun o _ _ ho _ => funext fun j => by rw [ja_gA, if_neg (fun q => ho q.1)]⟩
theorem sC_g {σ σ' : jT} (h : sC σ σ') : coreGC σ' = coreGC σ := by
  unfold coreGC
  rw [h.1 195 (by decide), h.1 196 (by decide), h.1 197 (by decide), h.1 452 (by decide), h.2 4 (by decide) (by decide) (by decide) (by decide), h.2 5 (by decide) (by decide) (by decide) (by decide), h.2 6 (by decide) (by decide) (by decide) (by decide), h.2 13 (by decide) (by decide) (by decide) (by decide), h.2 8 (by decide) (by decide) (by decide) (by decide)]
theorem sC_core {σ σ' : jT} (h : sC σ σ') : coreC σ' = coreC σ := by
  have hp : pastC σ' = pastC σ := by
    funext i
    unfold pastC
    split <;> exact h.2 _ (by decide) (by decide) (by decide) (by decide)
  have hk : keptC σ' = keptC σ := by
    funext i
    unfold keptC
    split <;> exact h.2 _ (by decide) (by decide) (by decide) (by decide)
  unfold coreC
  rw [hp, hk, h.1 65 (by decide), h.1 195 (by decide), h.1 196 (by decide), h.1 197 (by decide), h.1 452 (by decide), h.1 898 (by decide), h.1 899 (by decide), h.1 900 (by decide), h.1 3009 (by decide), h.1 12 (by decide),
    h.2 2 (by decide) (by decide) (by decide) (by decide), h.2 4 (by decide) (by decide) (by decide) (by decide), h.2 5 (by decide) (by decide) (by decide) (by decide), h.2 6 (by decide) (by decide) (by decide) (by decide), h.2 13 (by decide) (by decide) (by decide) (by decide), h.2 8 (by decide) (by decide) (by decide) (by decide), h.2 48 (by decide) (by decide) (by decide) (by decide), h.2 62 (by decide) (by decide) (by decide) (by decide)]
/-- the ends of one place's rides, laid up to z; all others as they were -/
def eRow (T : Nat → Nat → Nat) (p z : Nat) (r0 r : Nat → Int32) : Prop := (∀ i, i < 36 * p ∨ 36 * p + 36 ≤ i → r i = r0 i) ∧ ∀ z', z' < 36 → r (36 * p + z') = if z' < z then tI (T p z') else -1
def sUp (T : Nat → Nat → Nat) (p z q : Nat) : Prop := q < 10 ∧ ∃ z', z' < z ∧ T p z' = q
theorem ix6' {p a b : Nat} (hp : p < 10) (ha : a < 6) (hb : b < 6) : (nI p * 36 + nI a * 6) + nI b = nI (36 * p + (6 * a + b)) := by
  have h : ∀ p, p < 10 → ∀ a, a < 6 → (nI p * 36 + nI a * 6) = nI (36 * p + 6 * a) := by decide
  rw [h p hp a ha, ja_add, Nat.add_assoc]
theorem e_skip {T : Nat → Nat → Nat} {p z z2 : Nat} {r0 r : Nat → Int32} (h : eRow T p z r0 r) (hz : z ≤ z2) (hT : ∀ z', z ≤ z' → z' < z2 → z' < 36 → T p z' = 99) : eRow T p z2 r0 r := by
  refine ⟨h.1, fun z' hz' => ?_⟩
  rw [h.2 z' hz']
  by_cases c : z' < z
  · rw [if_pos c, if_pos (by omega)]
  · rw [if_neg c]
    by_cases c2 : z' < z2
    · rw [if_pos c2, hT z' (by omega) c2 hz', tI_f (by omega)]
    · rw [if_neg c2]
theorem s_skip {T : Nat → Nat → Nat} {p z z2 : Nat} (hz : z ≤ z2) (hT : ∀ z', z ≤ z' → z' < z2 → T p z' = 99) : ∀ q, sUp T p z q ↔ sUp T p z2 q := by
  intro q
  constructor
  · rintro ⟨h1, z', h2, h3⟩
    exact ⟨h1, z', by omega, h3⟩
  · rintro ⟨h1, z', h2, h3⟩
    refine ⟨h1, z', ?_, h3⟩
    by_cases c : z' < z
    · exact c
    · have := hT z' (by omega) h2; omega
theorem sf_b {P Q p a : Nat} {σ0 τ0 : jT} {T : Nat → Nat → Nat} (hP : P ≤ 10) (hQ : Q ≤ 6) (q1 : σ0.1 197 = nI Q) (hT : tOk P Q σ0 τ0 T) (hp : p < P) (ha : a < Q) (r0 : Nat → Int32) (k4 : Int32 → Int32 → Int32 → jT → Option (Int32 × jT)) : ∀ (m b fu : Nat) (x : Int32) (σ : jT), b + m = Q → m < fu → sC σ0 σ → eRow T p (6 * a + b) r0 (σ.2 56) → rep x (sUp T p (6 * a + b)) →
    ∃ x' σ', f_X0_surveyFrom_b18 k4 fu (nI p) x (nI a) (nI b) σ = k4 (nI p) x' (nI (a + 1)) σ' ∧ sC σ0 σ' ∧ eRow T p (6 * (a + 1)) r0 (σ'.2 56) ∧ rep x' (sUp T p (6 * (a + 1))) := by
  intro m
  induction m with
  | zero =>
    intro b fu x σ hb hf hs he hx
    obtain ⟨fu, rfl⟩ : ∃ f', fu = f' + 1 := ⟨fu - 1, by omega⟩
    rw [f_X0_surveyFrom_b18]
    unfold f_X3_riderCount
    simp only [bnd]
    rw [hs.1 197 (by decide), q1, if_pos ((ja_le (by omega) (by omega)).2 (by omega)), nS]
    have h99 : ∀ z', 6 * a + b ≤ z' → z' < 6 * (a + 1) → T p z' = 99 := fun z' h1 h2 => by
      have := tOk_Q (a := a) (b := z' - 6 * a) hT hp (by omega) (by omega) (by omega)
      rw [show 6 * a + (z' - 6 * a) = z' by omega] at this
      exact this
    exact ⟨x, σ, rfl, hs, e_skip he (by omega) (fun z' h1 h2 _ => h99 z' h1 h2), rep_iff hx (s_skip (by omega) h99)⟩
  | succ m ih =>
    intro b fu x σ hb hf hs he hx
    obtain ⟨fu, rfl⟩ : ∃ f', fu = f' + 1 := ⟨fu - 1, by omega⟩
    rw [f_X0_surveyFrom_b18]
    unfold f_X3_riderCount f_X0_surveyFrom_b100
    simp only [bnd]
    rw [hs.1 197 (by decide), q1, if_neg (fun c => by have := (ja_le (by omega) (by omega)).1 c; omega)]
    obtain ⟨t1, t2⟩ := hT p a b hp (by omega) (by omega)
    by_cases c : a = b
    · rw [if_pos (by rw [c]), nS]
      have h99 : ∀ z', 6 * a + b ≤ z' → z' < 6 * a + (b + 1) → T p z' = 99 := fun z' h1 h2 => by
        rw [show z' = 6 * a + b by omega]; exact t2 (fun q => q.2.2 c)
      exact ih (b + 1) fu x σ (by omega) (by omega) hs (e_skip he (by omega) (fun z' h1 h2 _ => h99 z' h1 h2)) (rep_iff hx (s_skip (by omega) h99))
    · rw [if_neg (fun q => c ((ja_eq (by omega) (by omega)).1 q)), nS]
      obtain ⟨tl, tc, -⟩ := t1 ⟨ha, by omega, c⟩
      obtain ⟨σ1, σ2, q, e1, e2, e3, e4, hqP, e5⟩ := tc σ (sC_g hs)
      rw [e1]
      simp only [bnd]
      rw [e2]
      simp only [bnd]
      unfold f_X5_hasStopped f_X5_spot
      have hs2 := sC_trans hs (sC_q e3)
      have r2 : σ2.2 56 = σ.2 56 := e3.2 56 (by decide) (by decide) (by decide)
      rcases e5 with ⟨z1, z2⟩ | ⟨z1, z2⟩
      · rw [z1, if_pos (Or.inl rfl)]
        simp only [bnd]
        rw [iT]
        have h99 : ∀ z', 6 * a + b ≤ z' → z' < 6 * a + (b + 1) → T p z' = 99 := fun z' h1 h2 => by
          rw [show z' = 6 * a + b by omega]; exact z2
        exact ih (b + 1) fu x σ2 (by omega) (by omega) hs2 (e_skip (by rw [r2]; exact he) (by omega) (fun z' h1 h2 _ => h99 z' h1 h2)) (rep_iff hx (s_skip (by omega) h99))
      · rw [z1, if_pos (Or.inr rfl)]
        simp only [bnd]
        rw [if_neg (show ¬ (1 : Int32) = 0 by decide), ix6' (by omega) (by omega) (by omega), if_pos (ja_in (n := 360) (by omega) (by omega)), nI_clamp (by omega), show (gA σ2 56 (36 * p + (6 * a + b)) (σ2.1 3144)).1 3144 = σ2.1 3144 from rfl, e4]
        have hq10 : q < 10 ∨ q = 99 := by omega
        rcases hq10 with hq10 | hq10
        · refine ih (b + 1) fu _ _ (by omega) (by omega) (sC_trans hs2 sC_gA) ⟨fun i hi => ?_, fun z' hz' => ?_⟩ (rep_iff (rep_or hx (rep_bit hq10)) (fun i => ⟨?_, ?_⟩))
          · rw [ja_gA, if_neg (fun w => by omega), r2]; exact he.1 i hi
          · rw [ja_gA]
            by_cases cz : z' = 6 * a + b
            · rw [if_pos ⟨rfl, by omega⟩, if_pos (by omega), cz, z2, tI_t hq10]
            · rw [if_neg (fun w => cz (by omega)), r2, he.2 z' hz']
              by_cases cl : z' < 6 * a + b
              · rw [if_pos cl, if_pos (by omega)]
              · rw [if_neg cl, if_neg (by omega)]
          · rintro (⟨h1, z', h2, h3⟩ | rfl)
            · exact ⟨h1, z', by omega, h3⟩
            · exact ⟨hq10, 6 * a + b, by omega, z2⟩
          · rintro ⟨h1, z', h2, h3⟩
            by_cases cz : z' = 6 * a + b
            · right; rw [← h3, cz]; exact z2
            · exact Or.inl ⟨h1, z', by omega, h3⟩
        · exfalso
          omega
theorem sf_a {P Q p : Nat} {σ0 τ0 : jT} {T : Nat → Nat → Nat} (hP : P ≤ 10) (hQ : Q ≤ 6) (q1 : σ0.1 197 = nI Q) (hT : tOk P Q σ0 τ0 T) (hp : p < P) (r0 : Nat → Int32) : ∀ (m a fu : Nat) (x : Int32) (σ : jT), a + m = Q → m < fu → sC σ0 σ → eRow T p (6 * a) r0 (σ.2 56) → rep x (sUp T p (6 * a)) →
    ∃ x' σ', f_X0_surveyFrom_b4 fu (nI p) x (nI a) σ = some (x', σ') ∧ sC σ0 σ' ∧ eRow T p 36 r0 (σ'.2 56) ∧ rep x' (sUp T p 36) := by
  intro m
  induction m with
  | zero =>
    intro a fu x σ ha hf hs he hx
    obtain ⟨fu, rfl⟩ : ∃ f', fu = f' + 1 := ⟨fu - 1, by omega⟩
    rw [f_X0_surveyFrom_b4]
    unfold f_X3_riderCount
    simp only [bnd]
    rw [hs.1 197 (by decide), q1, if_pos ((ja_le (by omega) (by omega)).2 (by omega))]
    have h99 : ∀ z', 6 * a ≤ z' → z' < 36 → T p z' = 99 := fun z' h1 h2 => by
      have := tOk_Q (a := z' / 6) (b := z' % 6) hT hp (by omega) (by omega) (by omega)
      rw [show 6 * (z' / 6) + z' % 6 = z' by omega] at this
      exact this
    exact ⟨x, σ, rfl, hs, e_skip he (by omega) (fun z' h1 h2 _ => h99 z' h1 h2), rep_iff hx (s_skip (by omega) h99)⟩
  | succ m ih =>
    intro a fu x σ ha hf hs he hx
    obtain ⟨fu, rfl⟩ : ∃ f', fu = f' + 1 := ⟨fu - 1, by omega⟩
    rw [f_X0_surveyFrom_b4]
    unfold f_X3_riderCount
    simp only [bnd]
    rw [hs.1 197 (by decide), q1, if_neg (fun c => by have := (ja_le (by omega) (by omega)).1 c; omega)]
    obtain ⟨x1, σ1, e1, e2, e3, e4⟩ := sf_b hP hQ q1 hT hp (show a < Q by omega) r0 (f_X0_surveyFrom_b4 fu) Q 0 1000 x σ (by omega) (by omega) hs he hx
    have e1' : f_X0_surveyFrom_b18 (f_X0_surveyFrom_b4 fu) 1000 (nI p) x (nI a) 0 σ = _ := e1
    rw [e1']
    exact ih (a + 1) fu x1 σ1 (by omega) (by omega) e2 e3 e4
theorem c_sFrom {P Q p : Nat} {σ0 τ0 σ : jT} {T : Nat → Nat → Nat} (hP : P ≤ 10) (hQ : Q ≤ 6) (q1 : σ0.1 197 = nI Q) (hT : tOk P Q σ0 τ0 T) (hp : p < P) (hs : sC σ0 σ) (h1 : ∀ z, z < 36 → σ.2 56 (36 * p + z) = -1) :
    ∃ x' σ', f_X0_surveyFrom (nI p) σ = some (x', σ') ∧ sC σ0 σ' ∧ eRow T p 36 (σ.2 56) (σ'.2 56) ∧ rep x' (sUp T p 36) :=
  sf_a hP hQ q1 hT hp (σ.2 56) Q 0 1000 0 σ (by omega) (by omega) hs ⟨fun _ _ => rfl, fun z' hz' => by rw [h1 z' hz', if_neg (by omega)]⟩ (rep_iff rep_0 (fun i => ⟨False.elim, fun ⟨_, z', h, _⟩ => by omega⟩))
