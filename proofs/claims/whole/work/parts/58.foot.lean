/-! ===== foot ===== -/
def fI (v : Nat) : Int32 := if v < gF then nI v else -1
def fC (σ σ' : jT) : Prop := σ'.1 = σ.1 ∧ ∀ o, o ≠ 57 → σ'.2 o = σ.2 o
theorem fI_t {v : Nat} (h : v < gF) : fI v = nI v := if_pos h
theorem fI_F : fI gF = -1 := if_neg (by omega)
theorem fI_m {v : Nat} (h : v ≤ 100 ∨ v = gF) : fI v = -1 ↔ v = gF := by
  rcases h with h | rfl
  · rw [fI_t (by unfold gF; omega)]
    exact ⟨fun q => absurd q (ja_neg1 (by omega)), fun q => by unfold gF at q; omega⟩
  · exact ⟨fun _ => rfl, fun _ => fI_F⟩
theorem fI_n {v n : Nat} (h : v ≤ 100 ∨ v = gF) (hn : n ≤ 100) : fI v = nI n ↔ v = n := by
  rcases h with h | rfl
  · rw [fI_t (by unfold gF; omega)]; exact ja_eq (by omega) (by omega)
  · rw [fI_F]
    exact ⟨fun q => absurd q.symm (ja_neg1 (by omega)), fun q => by unfold gF at q; omega⟩
theorem c_far {P q : Nat} {σ : jT} (p1 : σ.1 195 = nI P) (hP : P ≤ 10) (hq : q < P) : f_X0_farOf (nI q) σ = some (σ.2 57 q, σ) := by
  unfold f_X0_farOf
  rw [c_hp_t p1 hP hq]
  simp only [bnd]
  rw [if_neg (show ¬ (1 : Int32) = 0 by decide), if_pos (ja_in (n := 10) (by omega) (by omega)), nI_clamp (by omega)]
theorem c_far_n {P : Nat} {σ : jT} (p1 : σ.1 195 = nI P) : f_X0_farOf (-1) σ = some (-1, σ) := by
  unfold f_X0_farOf
  rw [c_hp_f p1 (Or.inl (by decide))]
  rfl
theorem c_beginAt {t : Nat} (ht : t < 10) : ∀ (m k fu : Nat) (σ : jT), k + m = 10 → m < fu → (∀ j, j < k → σ.2 57 j = if j = t then 0 else -1) → ∃ σ', f_X0_beginAt_b2 fu (nI t) (nI k) σ = some (0, σ') ∧ fC σ σ' ∧ ∀ j, j < 10 → σ'.2 57 j = if j = t then 0 else -1 := by
  intro m
  induction m with
  | zero =>
    intro k fu σ hk hf h
    obtain ⟨fu, rfl⟩ : ∃ f', fu = f' + 1 := ⟨fu - 1, by omega⟩
    rw [f_X0_beginAt_b2, if_pos (show (10 : Int32) ≤ nI k from by rw [show k = 10 by omega]; decide)]
    exact ⟨σ, rfl, ⟨rfl, fun _ _ => rfl⟩, fun j hj => h j (by omega)⟩
  | succ m ih =>
    intro k fu σ hk hf h
    obtain ⟨fu, rfl⟩ : ∃ f', fu = f' + 1 := ⟨fu - 1, by omega⟩
    rw [f_X0_beginAt_b2, if_neg (show ¬ (10 : Int32) ≤ nI k from nI_ge (b := 10) (by omega) (by omega))]
    have key : ∀ v : Int32, (v = if k = t then 0 else -1) → ∃ σ', f_X0_beginAt_b23 (f_X0_beginAt_b2 fu) (nI t) (nI k) v (nI k) σ = some (0, σ') ∧ fC σ σ' ∧ ∀ j, j < 10 → σ'.2 57 j = if j = t then 0 else -1 := by
      intro v hv
      unfold f_X0_beginAt_b23
      rw [if_pos (ja_in (n := 10) (by omega) (by omega)), nI_clamp (by omega), nS]
      obtain ⟨σ', g1, g2, g3⟩ := ih (k + 1) fu (gA σ 57 k v) (by omega) (by omega) (fun j hj => by
        rw [ja_gA]
        by_cases z : j = k
        · rw [if_pos ⟨rfl, z⟩, hv, z]
        · rw [if_neg (fun q => z q.2)]; exact h j (by omega))
      refine ⟨σ', g1, ⟨g2.1, fun o ho => (g2.2 o ho).trans (funext fun j => ?_)⟩, g3⟩
      rw [ja_gA, if_neg (fun q => ho q.1)]
    by_cases c : k = t
    · rw [if_neg (fun q => q (by rw [c]))]
      exact key 0 (by rw [if_pos c])
    · rw [if_pos (fun q => c ((ja_eq (by omega) (by omega)).1 q))]
      exact key (-1) (by rw [if_neg c])
theorem fC_trans {a b c : jT} (h1 : fC a b) (h2 : fC b c) : fC a c := ⟨h2.1.trans h1.1, fun o ho => (h2.2 o ho).trans (h1.2 o ho)⟩
/-- what the class asks for: a next place that is just so far -/
def fNext (E : Nat → Nat → Prop) (P : Nat) (x3 : Int32) (σ0 : jT) : Prop := ∀ (p n : Nat) (σ : jT) (R : Nat → Nat), p < P → n ≤ 9 → fC σ0 σ → (∀ q, q < P → σ.2 57 q = fI (R q)) → (∀ q, q < P → R q ≤ 100 ∨ R q = gF) → ∃ r, (if x3 = 0 then f_X0_pairTo (nI p) (nI n) σ else f_X0_wayTo (nI p) (nI n) σ) = some (r, σ) ∧ (r = -1 ↔ ¬ ∃ q, E p q ∧ R q = n)
theorem fw_in {E : Nat → Nat → Prop} {t P n : Nat} {x1 x3 : Int32} {σ0 : jT} (hP : P ≤ 10) (hE : ∀ p q, E p q → p < P ∧ q < P) (p1 : σ0.1 195 = nI P) (hn9 : n < 9) (hN : fNext E P x3 σ0) (k8 : Int32 → Int32 → Int32 → jT → Option (Int32 × jT)) :
    ∀ (m k fu : Nat) (σ : jT), k + m = P → m < fu → fC σ0 σ → (∀ q, q < P → σ.2 57 q = fI (if q < k then gV E t (n + 1) q else gV E t n q)) → ∃ σ', f_X0_fewest_b18 k8 fu x1 x3 (nI (n + 1)) (nI k) σ = k8 x1 x3 (nI (n + 2)) σ' ∧ fC σ0 σ' ∧ ∀ q, q < P → σ'.2 57 q = fI (gV E t (n + 1) q) := by
  intro m
  induction m with
  | zero =>
    intro k fu σ hk hf hc hr
    obtain ⟨fu, rfl⟩ : ∃ f', fu = f' + 1 := ⟨fu - 1, by omega⟩
    rw [f_X0_fewest_b18]
    unfold f_X3_places
    simp only [bnd]
    rw [hc.1, p1, if_pos ((ja_le (by omega) (by omega)).2 (by omega)), nS]
    exact ⟨σ, rfl, hc, fun q hq => by rw [hr q hq, if_pos (by omega)]⟩
  | succ m ih =>
    intro k fu σ hk hf hc hr
    obtain ⟨fu, rfl⟩ : ∃ f', fu = f' + 1 := ⟨fu - 1, by omega⟩
    rw [f_X0_fewest_b18]
    unfold f_X3_places
    simp only [bnd]
    rw [hc.1, p1, if_neg (fun c => by have := (ja_le (by omega) (by omega)).1 c; omega), if_pos (ja_in (n := 10) (by omega) (by omega)), nI_clamp (by omega), hr k (by omega), if_neg (Nat.lt_irrefl k)]
    have hb : ∀ q, gV E t n q ≤ 100 ∨ gV E t n q = gF := fun q => by rcases gV_le (E := E) (t := t) n q (by omega) with z | z <;> omega
    have hb1 : ∀ q, gV E t (n + 1) q ≤ 100 ∨ gV E t (n + 1) q = gF := fun q => by rcases gV_le (E := E) (t := t) (n + 1) q (by omega) with z | z <;> omega
    unfold f_X0_fewest_b89
    by_cases c : gV E t n k < gF
    · rw [if_pos (fun q => by have := (fI_m (hb k)).1 q; omega), nS]
      refine ih (k + 1) fu σ (by omega) (by omega) hc (fun q hq => ?_)
      rw [hr q hq]
      by_cases z : q = k
      · subst z
        rw [if_neg (Nat.lt_irrefl _), if_pos (by omega), gV_keep c]
      · by_cases z2 : q < k
        · rw [if_pos z2, if_pos (by omega)]
        · rw [if_neg z2, if_neg (by omega)]
    · have cF : gV E t n k = gF := by
        rcases gV_le (E := E) (t := t) n k (by omega) with z | z
        · unfold gF at c; omega
        · exact z
      rw [cF, if_neg (fun q => q fI_F)]
      obtain ⟨r, e1, e2⟩ := hN k n σ (fun q => if q < k then gV E t (n + 1) q else gV E t n q) (by omega) (by omega) hc hr (fun q hq => by
        by_cases z : q < k
        · simp only [if_pos z]; exact hb1 q
        · simp only [if_neg z]; exact hb q)
      have e2' : r = -1 ↔ ¬ ∃ q, E k q ∧ gV E t n q = n := by
        rw [e2]
        have : ∀ q, ((if q < k then gV E t (n + 1) q else gV E t n q) = n) ↔ gV E t n q = n := by
          intro q
          by_cases z : q < k
          · rw [if_pos z, gV]
            by_cases c2 : gV E t n q < gF
            · rw [if_pos c2]
            · rw [if_neg c2]
              constructor
              · intro h
                split at h <;> unfold gF at * <;> omega
              · intro h; unfold gF at c2; omega
          · rw [if_neg z]
        simp only [this]
      have key : f_X0_fewest_b18 k8 (fu + 1) x1 x3 (nI (n + 1)) (nI k) σ = f_X0_fewest_b68 (f_X0_fewest_b18 k8 fu) x1 x3 (nI (n + 1)) (nI k) r σ := by
        rw [f_X0_fewest_b18]
        unfold f_X3_places
        simp only [bnd]
        rw [hc.1, p1, if_neg (fun c => by have := (ja_le (by omega) (by omega)).1 c; omega), if_pos (ja_in (n := 10) (by omega) (by omega)), nI_clamp (by omega), hr k (by omega), if_neg (Nat.lt_irrefl k), cF, if_neg (fun q => q fI_F), nI_pred]
        by_cases z : x3 = 0
        · rw [if_pos z] at e1 ⊢
          rw [e1]; simp only [bnd]
        · rw [if_neg z] at e1 ⊢
          rw [e1]; simp only [bnd]
      have key2 : f_X0_fewest_b68 (f_X0_fewest_b18 k8 fu) x1 x3 (nI (n + 1)) (nI k) r σ = f_X0_fewest_b18 k8 fu x1 x3 (nI (n + 1)) (nI (k + 1)) (gA σ 57 k (fI (gV E t (n + 1) k))) := by
        unfold f_X0_fewest_b68 f_X0_fewest_b88 f_X0_fewest_b89
        rw [if_pos (ja_in (n := 10) (by omega) (by omega)), if_pos (ja_in (n := 10) (by omega) (by omega)), nI_clamp (by omega), nS]
        by_cases z : r = -1
        · rw [if_neg (fun q => q z), show gV E t (n + 1) k = gF by rw [gV, if_neg c, if_neg (e2'.1 z)], fI_F]
        · rw [if_pos z, show gV E t (n + 1) k = n + 1 by rw [gV, if_neg c, if_pos (Classical.not_not.1 (fun q => z (e2'.2 q)))], fI_t (by unfold gF; omega)]
      have key3 := key.trans key2
      rw [f_X0_fewest_b18] at key3
      unfold f_X3_places f_X0_fewest_b89 at key3
      simp only [bnd] at key3
      rw [hc.1, p1, if_neg (fun c => by have := (ja_le (by omega) (by omega)).1 c; omega), if_pos (ja_in (n := 10) (by omega) (by omega)), nI_clamp (by omega), hr k (by omega), if_neg (Nat.lt_irrefl k), cF, if_neg (fun q => q fI_F)] at key3
      rw [key3]
      refine ih (k + 1) fu _ (by omega) (by omega) (fC_trans hc ⟨rfl, fun o ho => funext fun j => by rw [ja_gA, if_neg (fun q => ho q.1)]⟩) (fun q hq => ?_)
      rw [ja_gA]
      by_cases z : q = k
      · rw [if_pos ⟨rfl, z⟩, z, if_pos (by omega)]
      · rw [if_neg (fun w => z w.2), hr q hq]
        by_cases z2 : q < k
        · rw [if_pos z2, if_pos (by omega)]
        · rw [if_neg z2, if_neg (by omega)]
theorem fw_c {E : Nat → Nat → Prop} {t P f : Nat} {x3 : Int32} {σ0 : jT} (hP : P ≤ 10) (ht : t < P) (hf : f < P) (hE : ∀ p q, E p q → p < P ∧ q < P) (p1 : σ0.1 195 = nI P) (hN : fNext E P x3 σ0) :
    ∃ σ', f_X0_fewest (nI f) (nI t) x3 σ0 = some (fI (gd E t f), σ') ∧ fC σ0 σ' ∧ ∀ q, q < P → σ'.2 57 q = fI (gd E t q) := by
  have rounds : ∀ (m n fu : Nat) (σ : jT), n + m = 9 → m < fu → fC σ0 σ → (∀ q, q < P → σ.2 57 q = fI (gV E t n q)) → ∃ σ', f_X0_fewest_b8 fu (nI f) x3 (nI (n + 1)) σ = some (fI (gd E t f), σ') ∧ fC σ0 σ' ∧ ∀ q, q < P → σ'.2 57 q = fI (gd E t q) := by
    intro m
    induction m with
    | zero =>
      intro n fu σ hn hfu hc hr
      obtain ⟨fu, rfl⟩ : ∃ f', fu = f' + 1 := ⟨fu - 1, by omega⟩
      obtain rfl : n = 9 := by omega
      rw [f_X0_fewest_b8, if_pos (by decide), c_far (P := P) (by rw [hc.1]; exact p1) hP hf]
      simp only [bnd]
      rw [hr f hf]
      exact ⟨σ, rfl, hc, hr⟩
    | succ m ih =>
      intro n fu σ hn hfu hc hr
      obtain ⟨fu, rfl⟩ : ∃ f', fu = f' + 1 := ⟨fu - 1, by omega⟩
      rw [f_X0_fewest_b8, if_neg (show ¬ (10 : Int32) ≤ nI (n + 1) from nI_ge (b := 10) (by omega) (by omega))]
      obtain ⟨σ1, g1, g2, g3⟩ := fw_in (t := t) (x1 := nI f) hP hE p1 (show n < 9 by omega) hN (f_X0_fewest_b8 fu) P 0 1000 σ (by omega) (by omega) hc (fun q hq => by rw [hr q hq, if_neg (Nat.not_lt_zero _)])
      have g1' : f_X0_fewest_b18 (f_X0_fewest_b8 fu) 1000 (nI f) x3 (nI (n + 1)) 0 σ = _ := g1
      rw [g1']
      exact ih (n + 1) fu σ1 (by omega) (by omega) g2 g3
  unfold f_X0_fewest f_X0_beginAt
  obtain ⟨σ1, g1, g2, g3⟩ := c_beginAt (show t < 10 by omega) 10 0 1000 σ0 (by omega) (by omega) (fun j hj => absurd hj (Nat.not_lt_zero _))
  have g1' : f_X0_beginAt_b2 1000 (nI t) 0 σ0 = _ := g1
  rw [g1']
  simp only [bnd]
  exact rounds 9 0 1000 σ1 (by omega) (by omega) g2 (fun q hq => by
    rw [g3 q (by omega), gV]
    by_cases z : q = t
    · rw [if_pos z, if_pos z]; rfl
    · rw [if_neg z, if_neg z, fI_F])
/-- where the ways lead, on both sides -/
def lWay (P : Nat) (wy : Nat → Nat) (ld : Nat → Nat → Nat) (σ τ : jT) : Prop := ∀ p, p < P → wy p ≤ 3 ∧ σ.2 4 p = nI (wy p) ∧ τ.2 67 p = nI (wy p) ∧ ∀ w, w < wy p → ld p w < P ∧ σ.2 5 (3 * p + w) = nI (ld p w) ∧ τ.2 68 (3 * p + w) = nI (ld p w)
theorem lWay_of {P : Nat} {σ τ : jT} (h : rL P σ τ) : ∃ wy ld, lWay P wy ld σ τ := by
  obtain ⟨hP, -, -, -, hl, -⟩ := h
  have h1 : ∀ p, ∃ w, p < P → w ≤ 3 ∧ σ.2 4 p = nI w ∧ τ.2 67 p = nI w ∧ (∀ k, k < w → ∃ q, q < P ∧ σ.2 5 (3 * p + k) = nI q ∧ τ.2 68 (3 * p + k) = nI q) := by
    intro p
    by_cases hp : p < P
    · obtain ⟨w, a1, a2, a3, a4, -⟩ := hl p hp
      exact ⟨w, fun _ => ⟨a1, a2, a3, a4⟩⟩
    · exact ⟨0, fun q => absurd q hp⟩
  have h2 : ∀ p w, ∃ q, p < P → w < Classical.choose (h1 p) → q < P ∧ σ.2 5 (3 * p + w) = nI q ∧ τ.2 68 (3 * p + w) = nI q := by
    intro p w
    by_cases hp : p < P
    · by_cases hw : w < Classical.choose (h1 p)
      · obtain ⟨q, hq⟩ := (Classical.choose_spec (h1 p) hp).2.2.2 w hw
        exact ⟨q, fun _ _ => hq⟩
      · exact ⟨0, fun _ q => absurd q hw⟩
    · exact ⟨0, fun q => absurd q hp⟩
  refine ⟨fun p => Classical.choose (h1 p), fun p w => Classical.choose (h2 p w), fun p hp => ?_⟩
  obtain ⟨a1, a2, a3, -⟩ := Classical.choose_spec (h1 p) hp
  exact ⟨a1, a2, a3, fun w hw => Classical.choose_spec (h2 p w) hp hw⟩
def fE (P : Nat) (wy : Nat → Nat) (ld : Nat → Nat → Nat) (p q : Nat) : Prop := p < P ∧ ∃ w, w < wy p ∧ ld p w = q
theorem c_wayTo {P p n : Nat} {wy : Nat → Nat} {ld : Nat → Nat → Nat} {σ τ : jT} {R : Nat → Nat} (hP : P ≤ 10) (p1 : σ.1 195 = nI P) (hl : lWay P wy ld σ τ) (hp : p < P) (hn : n ≤ 100) (hr : ∀ q, q < P → σ.2 57 q = fI (R q)) (hR : ∀ q, q < P → R q ≤ 100 ∨ R q = gF) :
    ∀ (m w fu : Nat), w + m = wy p → m < fu → (∀ w', w' < w → R (ld p w') ≠ n) → ∃ r, f_X0_wayTo_b2 fu (nI p) (nI n) (nI w) σ = some (r, σ) ∧ ((r = -1 ∧ ∀ w', w' < wy p → R (ld p w') ≠ n) ∨ ∃ w1, w1 < wy p ∧ r = nI w1 ∧ R (ld p w1) = n ∧ ∀ w', w' < w1 → R (ld p w') ≠ n) := by
  obtain ⟨hw3, a1, -, a2⟩ := hl p hp
  intro m
  induction m with
  | zero =>
    intro w fu hw hf h
    obtain ⟨fu, rfl⟩ : ∃ f', fu = f' + 1 := ⟨fu - 1, by omega⟩
    rw [f_X0_wayTo_b2, c_ways_t p1 hP hp, a1]
    simp only [bnd]
    rw [if_pos ((ja_le (by omega) (by omega)).2 (by omega))]
    exact ⟨-1, rfl, Or.inl ⟨rfl, fun w' hw' => h w' (by omega)⟩⟩
  | succ m ih =>
    intro w fu hw hf h
    obtain ⟨fu, rfl⟩ : ∃ f', fu = f' + 1 := ⟨fu - 1, by omega⟩
    obtain ⟨b1, b2, -⟩ := a2 w (by omega)
    rw [f_X0_wayTo_b2, c_ways_t p1 hP hp, a1]
    simp only [bnd]
    rw [if_neg (fun c => by have := (ja_le (by omega) (by omega)).1 c; omega), c_leads_t p1 hP hp a1 hw3 (by omega), b2]
    simp only [bnd]
    rw [c_far p1 hP b1, hr _ b1]
    simp only [bnd]
    have e := fI_n (hR _ b1) hn
    by_cases c : R (ld p w) = n
    · rw [if_neg (fun q => q (e.2 c))]
      exact ⟨nI w, rfl, Or.inr ⟨w, by omega, rfl, c, h⟩⟩
    · rw [if_pos (fun q => c (e.1 q)), nS]
      refine ih (w + 1) fu (by omega) (by omega) (fun w' hw' => ?_)
      by_cases z : w' = w
      · rw [z]; exact c
      · exact h w' (by omega)
theorem ft_next {P : Nat} {wy : Nat → Nat} {ld : Nat → Nat → Nat} {σ0 τ : jT} (hP : P ≤ 10) (p1 : σ0.1 195 = nI P) (hl : lWay P wy ld σ0 τ) : fNext (fE P wy ld) P 1 σ0 := by
  intro p n σ R hp hn hc hr hR
  have hl' : lWay P wy ld σ τ := by
    unfold lWay
    rw [hc.2 4 (by decide), hc.2 5 (by decide)]; exact hl
  have p1' : σ.1 195 = nI P := by rw [hc.1]; exact p1
  obtain ⟨r, e, h⟩ := c_wayTo hP p1' hl' hp (show n ≤ 100 by omega) hr hR (wy p) 0 1000 (by omega) (by have := (hl p hp).1; omega) (fun w' h => absurd h (Nat.not_lt_zero _))
  have e' : f_X0_wayTo (nI p) (nI n) σ = some (r, σ) := e
  refine ⟨r, by rw [if_neg (by decide)]; exact e', ?_⟩
  rcases h with ⟨rfl, h⟩ | ⟨w1, h1, rfl, h2, -⟩
  · exact ⟨fun _ ⟨q, ⟨_, w, hw, hq⟩, hR⟩ => h w hw (by rw [hq]; exact hR), fun _ => rfl⟩
  · have := (hl p hp).1
    exact ⟨fun q => absurd q (ja_neg1 (by omega)), fun q => absurd ⟨ld p w1, ⟨hp, w1, h1, rfl⟩, h2⟩ q⟩
/-! the model relaxes -/
theorem mn_min (a b : Nat) (ha : a < 2 ^ 31) (hb : b < 2 ^ 31) : jx_min (nI a) (nI b) = nI (min a b) := by
  unfold jx_min
  by_cases c : b < a
  · rw [if_pos ((ja_lt hb ha).2 c), Nat.min_eq_right (by omega)]
  · rw [if_neg (fun q => c ((ja_lt hb ha).1 q)), Nat.min_eq_left (by omega)]
def fM (τ τ' : jT) : Prop := τ'.1 = τ.1 ∧ ∀ o, o ≠ 85 → τ'.2 o = τ.2 o
theorem fM_trans {a b c : jT} (h1 : fM a b) (h2 : fM b c) : fM a c := ⟨h2.1.trans h1.1, fun o ho => (h2.2 o ho).trans (h1.2 o ho)⟩
theorem lWay_m {P : Nat} {wy : Nat → Nat} {ld : Nat → Nat → Nat} {σ τ τ' : jT} (h : lWay P wy ld σ τ) (hf : fM τ τ') : lWay P wy ld σ τ' := by
  unfold lWay
  rw [hf.2 67 (by decide), hf.2 68 (by decide)]; exact h
theorem ix3 {p w : Nat} (hp : p < 10) (hw : w < 3) : (3 : Int32) * nI p + nI w = nI (3 * p + w) := by
  have : ∀ p, p < 10 → (3 : Int32) * nI p = nI (3 * p) := by decide
  rw [this p hp]; exact ja_add _ _
section FOOT
variable {P t : Nat} {wy : Nat → Nat} {ld : Nat → Nat → Nat} {σ0 τ0 : jT}
theorem fE_lt (hP : P ≤ 10) (ht : t < P) (hl : lWay P wy ld σ0 τ0) : ∀ p q, fE P wy ld p q → p < P ∧ q < P := fun p q ⟨h1, w, h2, h3⟩ => ⟨h1, by rw [← h3]; exact ((hl p h1).2.2.2 w h2).1⟩
theorem ft_w (hP : P ≤ 10) (ht : t < P) (hl : lWay P wy ld σ0 τ0) {p : Nat} (hp : p < P) {x1 x2 x3 : Int32} (k70 : Int32 → Int32 → Int32 → Int32 → jT → Option (Int32 × jT)) : ∀ (m w fu : Nat) (τ : jT) (R : Nat → Nat), w + m = wy p → m < fu → fM τ0 τ → gSo (fE P wy ld) t P R → (∀ q, q < P → τ.2 85 q = nI (R q)) →
    ∃ τ' R', f_X11_foot_b82 k70 fu x1 x2 x3 (nI p) (nI w) τ = k70 x1 x2 x3 (nI (p + 1)) τ' ∧ fM τ0 τ' ∧ gSo (fE P wy ld) t P R' ∧ (∀ q, q < P → τ'.2 85 q = nI (R' q)) ∧ (∀ q, q < P → R' q ≤ R q) ∧ ∀ w', w ≤ w' → w' < wy p → R' p ≤ R (ld p w') + 1 := by
  have hE := fE_lt hP ht hl
  intro m
  induction m with
  | zero =>
    intro w fu τ R hw hf hm hs hr
    obtain ⟨fu, rfl⟩ : ∃ f', fu = f' + 1 := ⟨fu - 1, by omega⟩
    obtain ⟨hw3, -, a1, a2⟩ := lWay_m hl hm p hp
    rw [f_X11_foot_b82, if_pos (ja_in (n := 10) (by omega) (by omega)), nI_clamp (by omega), a1, if_pos ((ja_le (by omega) (by omega)).2 (by omega)), nS]
    exact ⟨τ, R, rfl, hm, hs, hr, fun _ _ => Nat.le_refl _, fun w' h1 h2 => by omega⟩
  | succ m ih =>
    intro w fu τ R hw hf hm hs hr
    obtain ⟨fu, rfl⟩ : ∃ f', fu = f' + 1 := ⟨fu - 1, by omega⟩
    obtain ⟨hw3, -, a1, a2⟩ := lWay_m hl hm p hp
    obtain ⟨b1, -, b2⟩ := a2 w (by omega)
    have s1 := hs p hp
    have s2 := hs _ b1
    have hgF : gF = 1000000 := rfl
    rw [f_X11_foot_b82, if_pos (ja_in (n := 10) (by omega) (by omega)), nI_clamp (by omega), a1, if_neg (fun c => by have := (ja_le (by omega) (by omega)).1 c; omega), ix3 (by omega) (by omega), if_pos (ja_in (n := 30) (by omega) (by omega)), nI_clamp (by omega), b2, if_pos (ja_in (n := 10) (by omega) (by omega)), nI_clamp (by omega), hr p hp, hr _ b1, nS w, nS (R (ld p w)), mn_min _ _ (by omega) (by omega)]
    have hedge : fE P wy ld p (ld p w) := ⟨hp, w, by omega, rfl⟩
    have hg := gS_step hP ht hE hs hedge
    obtain ⟨τ', R', g1, g2, g3, g4, g5, g6⟩ := ih (w + 1) fu (gA τ 85 p (nI (min (R p) (R (ld p w) + 1)))) (fun q => if q = p then min (R p) (R (ld p w) + 1) else R q) (by omega) (by omega) (fM_trans hm ⟨rfl, fun o ho => funext fun j => by rw [ja_gA, if_neg (fun q => ho q.1)]⟩) (fun q hq => by
        show gd (fE P wy ld) t q ≤ (if q = p then min (R p) (R (ld p w) + 1) else R q) ∧ (if q = p then min (R p) (R (ld p w) + 1) else R q) ≤ gF
        by_cases z : q = p
        · subst z
          rw [if_pos rfl]; omega
        · rw [if_neg z]; exact hs q hq) (fun q hq => by
        rw [ja_gA]
        by_cases z : q = p
        · rw [if_pos ⟨rfl, z⟩, if_pos z]
        · rw [if_neg (fun w => z w.2), if_neg z]; exact hr q hq)
    refine ⟨τ', R', g1, g2, g3, g4, fun q hq => ?_, fun w' h1 h2 => ?_⟩
    · have := g5 q hq
      by_cases z : q = p
      · subst z; rw [if_pos rfl] at this; omega
      · rw [if_neg z] at this; exact this
    · by_cases z : w' = w
      · subst z
        have := g5 p hp
        rw [if_pos rfl] at this
        omega
      · have := g6 w' (by omega) h2
        by_cases z2 : ld p w' = p
        · rw [if_pos z2] at this
          rw [z2]
          have := g5 p hp
          rw [if_pos rfl] at this
          omega
        · rw [if_neg z2] at this; exact this
theorem ft_p (hP : P ≤ 10) (ht : t < P) (p2 : τ0.1 4161 = nI P) (hl : lWay P wy ld σ0 τ0) {x1 x2 x3 : Int32} (k59 : Int32 → Int32 → Int32 → jT → Option (Int32 × jT)) : ∀ (m p fu : Nat) (τ : jT) (R : Nat → Nat), p + m = P → m < fu → fM τ0 τ → gSo (fE P wy ld) t P R → (∀ q, q < P → τ.2 85 q = nI (R q)) →
    ∃ τ' R', f_X11_foot_b70 k59 fu x1 x2 x3 (nI p) τ = k59 x1 x2 (x3 + 1) τ' ∧ fM τ0 τ' ∧ gSo (fE P wy ld) t P R' ∧ (∀ q, q < P → τ'.2 85 q = nI (R' q)) ∧ (∀ q, q < P → R' q ≤ R q) ∧ ∀ p' q, p ≤ p' → fE P wy ld p' q → R' p' ≤ R q + 1 := by
  have hE := fE_lt hP ht hl
  intro m
  induction m with
  | zero =>
    intro p fu τ R hp hf hm hs hr
    obtain ⟨fu, rfl⟩ : ∃ f', fu = f' + 1 := ⟨fu - 1, by omega⟩
    rw [f_X11_foot_b70, hm.1, p2, if_pos ((ja_le (by omega) (by omega)).2 (by omega))]
    exact ⟨τ, R, rfl, hm, hs, hr, fun _ _ => Nat.le_refl _, fun p' q h1 h2 => by have := (hE _ _ h2).1; omega⟩
  | succ m ih =>
    intro p fu τ R hp hf hm hs hr
    obtain ⟨fu, rfl⟩ : ∃ f', fu = f' + 1 := ⟨fu - 1, by omega⟩
    rw [f_X11_foot_b70, hm.1, p2, if_neg (fun c => by have := (ja_le (by omega) (by omega)).1 c; omega)]
    obtain ⟨τ1, R1, g1, g2, g3, g4, g5, g6⟩ := ft_w hP ht hl (show p < P by omega) (x1 := x1) (x2 := x2) (x3 := x3) (f_X11_foot_b70 k59 fu) (wy p) 0 1000 τ R (by omega) (by have := (hl p (by omega)).1; omega) hm hs hr
    have g1' : f_X11_foot_b82 (f_X11_foot_b70 k59 fu) 1000 x1 x2 x3 (nI p) 0 τ = _ := g1
    rw [g1']
    obtain ⟨τ2, R2, f1, f2, f3, f4, f5, f6⟩ := ih (p + 1) fu τ1 R1 (by omega) (by omega) g2 g3 g4
    refine ⟨τ2, R2, f1, f2, f3, f4, fun q hq => Nat.le_trans (f5 q hq) (g5 q hq), fun p' q h1 h2 => ?_⟩
    have hq := (hE _ _ h2).2
    by_cases z : p' = p
    · subst z
      obtain ⟨_, w, h3, h4⟩ := h2
      have a1 := g6 w (Nat.zero_le _) h3
      rw [h4] at a1
      have a2 := f5 p' (by omega)
      omega
    · have a1 := f6 p' q (by omega) h2
      have a2 := g5 q hq
      omega
theorem ft_k (hP : P ≤ 10) (ht : t < P) (p2 : τ0.1 4161 = nI P) (hl : lWay P wy ld σ0 τ0) {f : Nat} {x2 : Int32} (hf10 : f < P) : ∀ (m k fu : Nat) (τ : jT) (R : Nat → Nat), k + m = P → m < fu → fM τ0 τ → gSo (fE P wy ld) t P R → gCo (fE P wy ld) t P k R → (∀ q, q < P → τ.2 85 q = nI (R q)) →
    ∃ τ', f_X11_foot_b59 fu (nI f) x2 (nI k) τ = (if gd (fE P wy ld) t f < gF then f_X11_foot_b170 1000 (nI f) x2 (nI f) (gs τ' 4171 0) else some (-2, τ')) ∧ fM τ0 τ' ∧ ∀ q, q < P → τ'.2 85 q = nI (gd (fE P wy ld) t q) := by
  have hE := fE_lt hP ht hl
  have hgF : gF = 1000000 := rfl
  intro m
  induction m with
  | zero =>
    intro k fu τ R hk hf hm hs hc hr
    obtain ⟨fu, rfl⟩ : ∃ f', fu = f' + 1 := ⟨fu - 1, by omega⟩
    have hall : ∀ q, q < P → R q = gd (fE P wy ld) t q := fun q hq => gC_all hP ht hE (by omega) hs hc hq
    refine ⟨τ, ?_, hm, fun q hq => by rw [hr q hq, hall q hq]⟩
    rw [f_X11_foot_b59, hm.1, p2, if_pos ((ja_le (by omega) (by omega)).2 (by omega)), if_pos (ja_in (n := 10) (by omega) (by omega)), nI_clamp (by omega), hr f hf10, hall f hf10]
    have hd := gd_cases hP ht hE hf10
    by_cases c : gd (fE P wy ld) t f < gF
    · rw [if_pos c, if_pos (show nI (gd (fE P wy ld) t f) < 1000000 from (ja_lt (b := 1000000) (by omega) (by omega)).2 (by omega))]
    · rw [if_neg c, if_neg (show ¬ nI (gd (fE P wy ld) t f) < 1000000 from fun q => by have := (ja_lt (b := 1000000) (by omega) (by omega)).1 q; omega)]
  | succ m ih =>
    intro k fu τ R hk hf hm hs hc hr
    obtain ⟨fu, rfl⟩ : ∃ f', fu = f' + 1 := ⟨fu - 1, by omega⟩
    rw [f_X11_foot_b59, hm.1, p2, if_neg (fun c => by have := (ja_le (by omega) (by omega)).1 c; omega)]
    obtain ⟨τ1, R1, g1, g2, g3, g4, g5, g6⟩ := ft_p hP ht p2 hl (x1 := nI f) (x2 := x2) (x3 := nI k) (f_X11_foot_b59 fu) P 0 1000 τ R (by omega) (by omega) hm hs hr
    have g1' : f_X11_foot_b70 (f_X11_foot_b59 fu) 1000 (nI f) x2 (nI k) 0 τ = _ := g1
    rw [g1', nS]
    exact ih (k + 1) fu τ1 R1 (by omega) (by omega) g2 g3 (gC_step (by omega) hE hc g5 (fun p q h => g6 p q (Nat.zero_le _) h)) g4
theorem ft_b (hP : P ≤ 10) (ht : t < P) (p2 : τ0.1 4161 = nI P) (hl : lWay P wy ld σ0 τ0) {x1 : Int32} : ∀ (m k fu : Nat) (τ : jT), k + m = P → m < fu → fM τ0 τ → (∀ q, q < k → τ.2 85 q = nI (if q = t then 0 else gF)) → ∃ τ', f_X11_foot_b25 fu x1 (nI t) (nI k) τ = f_X11_foot_b59 1000 x1 (nI t) 0 τ' ∧ fM τ0 τ' ∧ ∀ q, q < P → τ'.2 85 q = nI (if q = t then 0 else gF) := by
  intro m
  induction m with
  | zero =>
    intro k fu τ hk hf hm hr
    obtain ⟨fu, rfl⟩ : ∃ f', fu = f' + 1 := ⟨fu - 1, by omega⟩
    rw [f_X11_foot_b25, hm.1, p2, if_pos ((ja_le (by omega) (by omega)).2 (by omega))]
    exact ⟨τ, rfl, hm, fun q hq => hr q (by omega)⟩
  | succ m ih =>
    intro k fu τ hk hf hm hr
    obtain ⟨fu, rfl⟩ : ∃ f', fu = f' + 1 := ⟨fu - 1, by omega⟩
    rw [f_X11_foot_b25, hm.1, p2, if_neg (fun c => by have := (ja_le (by omega) (by omega)).1 c; omega)]
    have key : ∀ v : Int32, (v = nI (if k = t then 0 else gF)) → ∃ τ', f_X11_foot_b50 (f_X11_foot_b25 fu) x1 (nI t) (nI k) v (nI k) τ = f_X11_foot_b59 1000 x1 (nI t) 0 τ' ∧ fM τ0 τ' ∧ ∀ q, q < P → τ'.2 85 q = nI (if q = t then 0 else gF) := by
      intro v hv
      unfold f_X11_foot_b50
      rw [if_pos (ja_in (n := 10) (by omega) (by omega)), nI_clamp (by omega), nS]
      refine ih (k + 1) fu _ (by omega) (by omega) (fM_trans hm ⟨rfl, fun o ho => funext fun j => by rw [ja_gA, if_neg (fun q => ho q.1)]⟩) (fun q hq => ?_)
      rw [ja_gA]
      by_cases z : q = k
      · rw [if_pos ⟨rfl, z⟩, z, hv]
      · rw [if_neg (fun w => z w.2)]; exact hr q (by omega)
    by_cases c : k = t
    · rw [if_neg (fun q => q (by rw [c]))]
      exact key 0 (by rw [if_pos c]; rfl)
    · rw [if_pos (fun q => c ((ja_eq (by omega) (by omega)).1 q))]
      exact key 1000000 (by rw [if_neg c]; rfl)
end FOOT
