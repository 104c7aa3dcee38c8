/-! ===== changes: the rides told ===== -/
section CHP
variable {P Q f t : Nat} {σ1 τ1 τ0 : jT} {T : Nat → Nat → Nat} {In : Nat → Prop}
theorem bz_first (hT : tOk P Q σ1 τ1 T) {p v : Nat} (h : gd (bE P T In f t) t p = v + 1) (hv : v + 1 < gF) : ∃ z, z < 36 ∧ (bZ T In f t p z ∧ gd (bE P T In f t) t (T p z) = v) ∧ ∀ z', z' < z → ¬ (bZ T In f t p z' ∧ gd (bE P T In f t) t (T p z') = v) := by
  obtain ⟨q, ⟨h1, h2, ⟨h3, z, h4, h5⟩, h6⟩, h7⟩ := gd_pred h hv
  have key : ∀ n z, z < n → z < 36 → (bZ T In f t p z ∧ gd (bE P T In f t) t (T p z) = v) → ∃ z, z < 36 ∧ (bZ T In f t p z ∧ gd (bE P T In f t) t (T p z) = v) ∧ ∀ z', z' < z → ¬ (bZ T In f t p z' ∧ gd (bE P T In f t) t (T p z') = v) := by
    intro n
    induction n with
    | zero => intro z h; omega
    | succ n ih =>
      intro z hn hw he
      by_cases c : ∃ z', z' < z ∧ bZ T In f t p z' ∧ gd (bE P T In f t) t (T p z') = v
      · obtain ⟨z', c1, c2⟩ := c
        exact ih z' (by omega) (by omega) c2
      · exact ⟨z, hw, he, fun z' hz' q => c ⟨z', hz', q⟩⟩
  exact key (z + 1) z (by omega) h4 ⟨⟨by omega, by rw [h5]; exact h6⟩, by rw [h5]; exact h7⟩
/-- what the model looks at, when it tells its way -/
def chQ (P : Nat) (T : Nat → Nat → Nat) (In : Nat → Prop) (f t : Nat) (τ : jT) : Prop := rep (τ.1 4164) In ∧ lRow T P 0 (τ.2 84) ∧ ∀ q, q < P → τ.2 85 q = nI (gd (bE P T In f t) t q)
theorem ch_step (hP : P ≤ 10) (hT : tOk P Q σ1 τ1 T) (hf : f < P) (ht : t < P) {p v i z1 : Nat} {τ τ2 : jT} (hp : p < P) (hi : i ≤ 30) (hq : chQ P T In f t τ) (hd : gd (bE P T In f t) t p = v + 1) (hv : v + 1 < gF) (hz1 : z1 < 36) (h1 : bZ T In f t p z1 ∧ gd (bE P T In f t) t (T p z1) = v) (h2 : ∀ z', z' < z1 → ¬ (bZ T In f t p z' ∧ gd (bE P T In f t) t (T p z') = v)) (h84 : τ2.2 84 = τ.2 84)
    (htl : i < 5 → ∃ τ3, f_X11_tell (nI (z1 / 6)) τ = some (0, τ3) ∧ f_X11_tell (nI (z1 % 6)) τ3 = some (0, τ2)) (hnt : 5 ≤ i → τ2 = τ) (k192 : Int32 → Int32 → Int32 → Int32 → jT → Option (Int32 × jT)) :
    ∀ (m z fu : Nat), z + m = z1 → m < fu → f_X11_changes_b201 k192 fu (nI f) (nI t) (nI p) (nI i) (nI z) τ = k192 (nI f) (nI t) (nI (T p z1)) (nI (i + 1)) τ2 := by
  have hgF : gF = 1000000 := rfl
  obtain ⟨hI, hr84, hr⟩ := hq
  have hb : ∀ q, q < P → gd (bE P T In f t) t q < P ∨ gd (bE P T In f t) t q = gF := fun q hq => gd_cases hP ht bE_lt hq
  intro m
  induction m with
  | zero =>
    intro z fu hz hfu
    obtain ⟨fu, rfl⟩ : ∃ f', fu = f' + 1 := ⟨fu - 1, by omega⟩
    obtain rfl : z = z1 := by omega
    obtain ⟨d1, d2⟩ := dv6 hz1
    have e6 : 6 * (z / 6) + z % 6 = z := by omega
    obtain ⟨w, e1, e2, e3⟩ := m_ridesBy (a := z / 6) (b := z % 6) (In := In) (f := f) hP hT hI hr84 hp (by omega) (by omega) hf ht hr (fun q hq => by have := hb q hq; omega) gd_t
    rw [e6] at e2 e3
    have ew : w = v + 1 := by rw [e2 h1.1, h1.2]; omega
    have es : f_X11_stopAt (nI p) (nI (z / 6)) (nI (z % 6)) τ2 = some (nI (T p z), τ2) := by
      rw [m_stopAt hP (by rw [h84]; exact hr84) hp (by omega) (by omega), e6, tI_t h1.1.1]
    rw [f_X11_changes_b201, d1]
    rw [show nI z - nI (z / 6) * 6 = nI (z % 6) by rw [← d1]; exact d2, e1]
    simp only [bnd]
    unfold f_X11_changes_b259
    rw [if_pos (ja_in (n := 10) (by omega) (by omega)), nI_clamp (by omega), hr p hp, hd, ew, if_pos rfl, d1, show nI z - nI (z / 6) * 6 = nI (z % 6) by rw [← d1]; exact d2]
    by_cases c : 5 ≤ i
    · rw [if_pos (show (5 : Int32) ≤ nI i from (ja_le (a := 5) (by omega) (by omega)).2 c), ← hnt c, es]
      simp only [bnd]
      rw [nS]
    · rw [if_neg (show ¬ (5 : Int32) ≤ nI i from nI_ge (b := 5) (by omega) (by omega))]
      obtain ⟨τ3, g1, g2⟩ := htl (by omega)
      rw [g1]
      simp only [bnd]
      rw [g2]
      simp only [bnd]
      rw [es]
      simp only [bnd]
      rw [nS]
  | succ m ih =>
    intro z fu hz hfu
    obtain ⟨fu, rfl⟩ : ∃ f', fu = f' + 1 := ⟨fu - 1, by omega⟩
    obtain ⟨d1, d2⟩ := dv6 (show z < 36 by omega)
    have e6 : 6 * (z / 6) + z % 6 = z := by omega
    obtain ⟨w, e1, e2, e3⟩ := m_ridesBy (a := z / 6) (b := z % 6) (In := In) (f := f) hP hT hI hr84 hp (by omega) (by omega) hf ht hr (fun q hq => by have := hb q hq; omega) gd_t
    rw [e6] at e2 e3
    have ew : w ≤ gF ∧ w ≠ v + 1 := by
      by_cases c : bZ T In f t p z
      · have hTP : T p z < P := by rcases tOk_lt hT hp (show z < 36 by omega) with w | w <;> have := c.1 <;> omega
        have hn := h2 z (by omega)
        have hne : gd (bE P T In f t) t (T p z) ≠ v := fun w => hn ⟨c, w⟩
        have hbq := hb _ hTP
        rw [e2 c]; omega
      · rw [e3 c]; omega
    rw [f_X11_changes_b201, d1, show nI z - nI (z / 6) * 6 = nI (z % 6) by rw [← d1]; exact d2, e1]
    simp only [bnd]
    rw [if_pos (ja_in (n := 10) (by omega) (by omega)), nI_clamp (by omega), hr p hp, hd, if_neg (fun q => by have := (ja_eq (by omega) (by omega)).1 q; omega), nS]
    exact ih (z + 1) fu (by omega) (by omega)
theorem ch_tail (hP : P ≤ 10) (hT : tOk P Q σ1 τ1 T) (hf : f < P) (ht : t < P) {τ : jT} (hq : chQ P T In f t τ) : ∀ (v p i fu : Nat), v < fu → 5 ≤ i → i + v ≤ 20 → p < P → gd (bE P T In f t) t p = v → f_X11_changes_b192 fu (nI f) (nI t) (nI p) (nI i) τ = some (nI (gd (bE P T In f t) t f), τ) := by
  have hgF : gF = 1000000 := rfl
  intro v
  induction v with
  | zero =>
    intro p i fu hfu hi hiv hp hd
    obtain ⟨fu, rfl⟩ : ∃ f', fu = f' + 1 := ⟨fu - 1, by omega⟩
    rw [f_X11_changes_b192, if_pos (by rw [gd_0 hd]), if_pos (ja_in (n := 10) (by omega) (by omega)), nI_clamp (by omega), hq.2.2 f hf]
  | succ v ih =>
    intro p i fu hfu hi hiv hp hd
    obtain ⟨fu, rfl⟩ : ∃ f', fu = f' + 1 := ⟨fu - 1, by omega⟩
    have hpt : ¬ nI p = nI t := fun q => by
      have e := (ja_eq (by omega) (by omega)).1 q
      rw [e, gd_t] at hd; omega
    obtain ⟨z1, h1, h2, h3⟩ := bz_first hT hd (by omega)
    have hTP : T p z1 < P := by rcases tOk_lt hT hp h1 with w | w <;> have := h2.1.1 <;> omega
    have e := ch_step hP hT hf ht (τ2 := τ) hp (show i ≤ 30 by omega) hq hd (by omega) h1 h2 h3 rfl (fun w => by omega) (fun _ => rfl) (f_X11_changes_b192 fu) z1 0 1000 (by omega) (by omega)
    have e' : f_X11_changes_b201 (f_X11_changes_b192 fu) 1000 (nI f) (nI t) (nI p) (nI i) 0 τ = _ := e
    rw [f_X11_changes_b192, if_neg hpt, e']
    exact ih (T p z1) (i + 1) fu (by omega) (by omega) (by omega) hTP h2.2
theorem ch_path {n : Nat} (hP : P ≤ 10) (hT : tOk P Q σ1 τ1 T) (hf : f < P) (ht : t < P) (hD : gd (bE P T In f t) t f < P) : ∀ (v p i fu fu' : Nat) (σ τ : jT), i + v = gd (bE P T In f t) t f → v < fu → v < fu' → p < P → i ≤ 5 → gd (bE P T In f t) t p = v → (gd (sE P T In) f p < gF ∨ v = 0) → rAll n P Q σ τ → τ.1 4172 = 0 → τ.1 4171 = nI (2 * i) → chQ P T In f t τ → (∀ q, q < P → σ.2 57 q = fI (gd (aE P T (fun p => gd (sE P T In) f p < gF)) t q)) → (∀ p z, p < 10 → z < 36 → (gd (sE P T In) f p < gF → σ.2 56 (36 * p + z) = tI (T p z)) ∧ (¬ gd (sE P T In) f p < gF → σ.2 56 (36 * p + z) = -1)) →
    ∃ σ' τ', f_X0_tellRides_47_b20 fu (nI p) (nI (min (gd (bE P T In f t) t f) 5)) (nI i) σ = some (0, σ') ∧ f_X11_changes_b192 fu' (nI f) (nI t) (nI p) (nI i) τ = some (nI (gd (bE P T In f t) t f), τ') ∧ rAll n P Q σ' τ' ∧ τ'.1 4172 = 0 := by
  have hgF : gF = 1000000 := rfl
  have hbA : ∀ q, q < P → gd (aE P T (fun p => gd (sE P T In) f p < gF)) t q < P ∨ gd (aE P T (fun p => gd (sE P T In) f p < gF)) t q = gF := fun q hq => gd_cases hP ht aE_lt hq
  intro v
  induction v with
  | zero =>
    intro p i fu fu' σ τ hi hfu hfu' hp hi5 hd hs h hth hsz hq h57 h56
    obtain ⟨fu, rfl⟩ : ∃ f', fu = f' + 1 := ⟨fu - 1, by omega⟩
    obtain ⟨fu', rfl⟩ : ∃ f', fu' = f' + 1 := ⟨fu' - 1, by omega⟩
    rw [f_X0_tellRides_47_b20, if_pos ((ja_le (by omega) (by omega)).2 (by omega)), f_X11_changes_b192, if_pos (by rw [gd_0 hd]), if_pos (ja_in (n := 10) (by omega) (by omega)), nI_clamp (by omega), hq.2.2 f hf]
    exact ⟨σ, τ, rfl, rfl, h, hth⟩
  | succ v ih =>
    intro p i fu fu' σ τ hi hfu hfu' hp hi5 hd hs h hth hsz hq h57 h56
    by_cases c5 : i = 5
    · rw [ch_tail hP hT hf ht hq (v + 1) p i fu' hfu' (by omega) (by omega) hp hd]
      obtain ⟨fu, rfl⟩ : ∃ f', fu = f' + 1 := ⟨fu - 1, by omega⟩
      rw [f_X0_tellRides_47_b20, if_pos ((ja_le (by omega) (by omega)).2 (by omega))]
      exact ⟨σ, τ, rfl, rfl, h, hth⟩
    · obtain ⟨fu, rfl⟩ : ∃ f', fu = f' + 1 := ⟨fu - 1, by omega⟩
      obtain ⟨fu', rfl⟩ : ∃ f', fu' = f' + 1 := ⟨fu' - 1, by omega⟩
      have hs' : gd (sE P T In) f p < gF := hs.resolve_right (by omega)
      obtain ⟨-, ⟨-, p1, p2, -⟩, -⟩ := id h
      have hpt : ¬ nI p = nI t := fun q => by
        have e := (ja_eq (by omega) (by omega)).1 q
        rw [e, gd_t] at hd; omega
      obtain ⟨z1, h1, h2, h3⟩ := bz_first hT hd (by omega)
      have hTP : T p z1 < P := by rcases tOk_lt hT hp h1 with w | w <;> have := h2.1.1 <;> omega
      obtain ⟨d1, d2⟩ := dv6 h1
      obtain ⟨σa, τa, a1, a2, a3, a4, a5, a6, a7, a8⟩ := put_both h hsz (by omega) (nI (z1 / 6))
      obtain ⟨σb, τb, b1, b2, b3, b4, b5, b6, b7, b8⟩ := put_both a3 a4 (by omega) (nI (z1 % 6))
      have em := ch_step hP hT hf ht (τ2 := τb) hp (show i ≤ 30 by omega) hq hd (by omega) h1 h2 h3 ((b8 84 (by decide)).trans (a8 84 (by decide))) (fun _ => ⟨τa, a2, b2⟩) (fun w => by omega) (f_X11_changes_b192 fu') z1 0 1000 (by omega) (by omega)
      have em' : f_X11_changes_b201 (f_X11_changes_b192 fu') 1000 (nI f) (nI t) (nI p) (nI i) 0 τ = _ := em
      rw [f_X11_changes_b192, if_neg hpt, em']
      have hdA : gd (aE P T (fun p => gd (sE P T In) f p < gF)) t p = v + 1 := by rw [ab_eq hP ht hf hp hs']; exact hd
      rw [f_X0_tellRides_47_b20, if_neg (fun c => by have := (ja_le (by omega) (by omega)).1 c; omega), c_far p1 hP hp, h57 p hp, hdA, fI_t (by omega)]
      simp only [bnd]
      rw [nI_pred]
      obtain ⟨r, e, hh⟩ := c_pairTo (n := v) (S := fun p => gd (sE P T In) f p < gF) hP p1 hT hp (by omega) (fun z hz => h56 p z (by omega) hz) h57 (fun q hq => by have := hbA q hq; omega) 36 0 1000 (by omega) (by omega) (fun w' h => absurd h (Nat.not_lt_zero _))
      have e' : f_X0_pairTo (nI p) (nI v) σ = some (r, σ) := c_pairTo1 hP p1 hp e
      have hiff : ∀ z, z < 36 → ((gd (sE P T In) f p < gF ∧ T p z < 10 ∧ gd (aE P T (fun p => gd (sE P T In) f p < gF)) t (T p z) = v) ↔ (bZ T In f t p z ∧ gd (bE P T In f t) t (T p z) = v)) := by
        intro z hz
        constructor
        · rintro ⟨_, g2, g3⟩
          have hTq : T p z < P := by rcases tOk_lt hT hp hz with w | w <;> omega
          have := (ab_pick hP ht hf (show v < gF by omega) hp hTq hs' ⟨g2, z, hz, rfl⟩).2 g3
          exact ⟨⟨g2, this.1⟩, this.2⟩
        · rintro ⟨⟨g1, g2⟩, g3⟩
          have hTq : T p z < P := by rcases tOk_lt hT hp hz with w | w <;> omega
          exact ⟨hs', g1, (ab_pick hP ht hf (show v < gF by omega) hp hTq hs' ⟨g1, z, hz, rfl⟩).1 ⟨g2, g3⟩⟩
      have hr : r = nI z1 := by
        rcases hh with ⟨_, hh⟩ | ⟨z2, g1, g2, g3, g4⟩
        · exact absurd ((hiff z1 h1).2 h2) (hh z1 h1)
        · have : z2 = z1 := by
            by_cases z : z2 < z1
            · exact absurd ((hiff z2 g1).1 g3) (h3 z2 z)
            · by_cases zz : z1 < z2
              · exact absurd ((hiff z1 h1).2 h2) (g4 z1 zz)
              · omega
          rw [g2, this]
      rw [e', hr]
      simp only [bnd]
      rw [if_neg (ja_neg1 (by omega)), d1, show nI z1 - nI (z1 / 6) * 6 = nI (z1 % 6) by rw [← d1]; exact d2, a1]
      simp only [bnd]
      rw [b1]
      simp only [bnd]
      unfold f_X0_tellRides_47_b78
      rw [ix36 (by omega) h1, if_pos (ja_in (n := 360) (by omega) (by omega)), nI_clamp (by omega), nS, b6 56 (by decide), a6 56 (by decide), (h56 p z1 (by omega) h1).1 hs', tI_t h2.1.1]
      refine ih (T p z1) (i + 1) fu fu' σb τb (by omega) (by omega) (by omega) hTP (by omega) h2.2 ?_ b3 ?_ ?_ ?_ ?_ ?_
      · by_cases cv : v = 0
        · exact Or.inr cv
        · left
          refine sv_go hP hf hp hTP hs' ⟨h2.1.1, z1, h1, rfl⟩ (h2.1.2.resolve_left (fun w => ?_))
          have := h2.2
          rw [w, gd_t] at this
          omega
      · rw [b7 4172 (by decide), a7 4172 (by decide)]; exact hth
      · rw [b4, show 2 * (i + 1) = 2 * i + 1 + 1 by omega]
      · refine ⟨?_, ?_, ?_⟩
        · rw [b7 4164 (by decide), a7 4164 (by decide)]; exact hq.1
        · rw [b8 84 (by decide), a8 84 (by decide)]; exact hq.2.1
        · rw [b8 85 (by decide), a8 85 (by decide)]; exact hq.2.2
      · rw [b6 57 (by decide), a6 57 (by decide)]; exact h57
      · rw [b6 56 (by decide), a6 56 (by decide)]; exact h56
end CHP
theorem eq_changes {n P Q : Nat} {σ τ : jT} (h : rAll n P Q σ τ) (x y : Int32) : rEq n (f_X10_changes x y σ) (f_X11_changes x y τ) := by
  have h0 : rAll n P Q σ (gs τ 4172 0) := rAll_core h rfl rfl
  have hth : (gs τ 4172 0).1 4172 = 0 := rfl
  obtain ⟨-, hL, ⟨hQ, q1, q2, -⟩, -⟩ := id h0
  obtain ⟨hP, p1, p2, -⟩ := id hL
  obtain ⟨In, hI1, hI2⟩ := inn_rep hL
  have hgF : gF = 1000000 := rfl
  unfold f_X10_changes f_X11_changes
  rcases vd_cases x (n := P) (by omega) with ⟨f, hf, rfl⟩ | hx
  rotate_left
  · rw [c_hp_f p1 hx, m_isPlace_f p2 hP hx]
    simp only [bnd]
    exact rEq_same h rfl rfl rfl rfl rfl
  rw [c_hp_t p1 hP hf, m_isPlace_t p2 hP hf]
  simp only [bnd]
  rw [if_neg (show ¬ (1 : Int32) = 0 by decide), if_neg (show ¬ (1 : Int32) = 0 by decide)]
  rcases vd_cases y (n := P) (by omega) with ⟨t, ht, rfl⟩ | hy
  rotate_left
  · rw [c_hp_f p1 hy, m_isPlace_f p2 hP hy]
    simp only [bnd]
    exact rEq_same h rfl rfl rfl rfl rfl
  rw [c_hp_t p1 hP ht, m_isPlace_t p2 hP ht]
  simp only [bnd]
  rw [if_pos (show ¬ (1 : Int32) = 0 by decide), if_pos (show ¬ (1 : Int32) = 0 by decide)]
  generalize gs τ 4172 0 = τ at h0 hth p2 q2 hL hI2
  obtain ⟨T, hT⟩ := fs_table (rG_of h0)
  obtain ⟨y, σ1, c1, c2, c3⟩ := c_survey hP hQ p1 q1 hI1 hT hf
  obtain ⟨τ1, m1, m2, m3⟩ := m_layStops hP hQ p2 q2 hT
  rw [c1, m1]
  simp only [bnd]
  have q1I : rep (τ1.1 4164) In := by rw [m2.1 4164 (by decide) (by decide) (by decide) (by decide) (by decide)]; exact hI2
  have q1P : τ1.1 4161 = nI P := by rw [m2.1 4161 (by decide) (by decide) (by decide) (by decide) (by decide)]; exact p2
  have q1Q : τ1.1 4165 = nI Q := by rw [m2.1 4165 (by decide) (by decide) (by decide) (by decide) (by decide)]; exact q2
  have s1P : σ1.1 195 = nI P := by rw [c2.1 195 (by decide)]; exact p1
  obtain ⟨σ2, d1, d2, d3⟩ := fw_c (E := aE P T (fun p => gd (sE P T In) f p < gF)) (x3 := 0) hP ht hf aE_lt s1P (ch_next hP s1P hT c3.2)
  obtain ⟨τ2, e1, e2, e3⟩ := ch_init (τ0 := τ1) (x1 := nI f) hP q1P ht P 0 1000 τ1 (by omega) (by omega) ⟨rfl, fun _ _ => rfl⟩ (fun q hq => absurd hq (Nat.not_lt_zero _))
  have e1' : f_X11_changes_b29 1000 (nI f) (nI t) 0 τ1 = _ := e1
  obtain ⟨τ3, g1, g2, g3, g4, g5⟩ := ch_while hP hQ q1P q1Q q1I hT m3 hf ht 10 0 1000 τ2 (fun q => if q = t then 0 else gF) (by omega) (by omega) ⟨e2, fun q hq => by
      show gd (bE P T In f t) t q ≤ (if q = t then 0 else gF) ∧ (if q = t then 0 else gF) ≤ gF
      by_cases z : q = t
      · rw [if_pos z, z, gd_t]; omega
      · rw [if_neg z]
        have := gd_cases hP ht (bE_lt (T := T) (In := In) (f := f) (t := t)) hq
        omega, e3, by show (if t = t then 0 else gF) = 0; rw [if_pos rfl]⟩ (fun q hq hd => by
      show (if q = t then 0 else gF) ≤ gd (bE P T In f t) t q
      rw [if_pos (gd_0 (show gd (bE P T In f t) t q = 0 by omega))]; omega)
  rw [d1, e1', g1]
  simp only [bnd]
  have hsf : gd (sE P T In) f f < gF := by rw [gd_t]; decide
  rw [ab_eq hP ht hf hf hsf]
  have hA : rAll n P Q σ2 τ3 := rAll_core h0 ((fC_core d2).trans (sC_core c2)) ((fM_core g2).trans (qL_core m2))
  have hth3 : τ3.1 4172 = 0 := by rw [g2.1, m2.1 4172 (by decide) (by decide) (by decide) (by decide) (by decide)]; exact hth
  have hd := gd_cases hP ht (bE_lt (T := T) (In := In) (f := f) (t := t)) hf
  by_cases c : gd (bE P T In f t) t f < gF
  · rw [fI_t c, if_pos (ja_neg1 (by omega)), if_pos c]
    unfold f_X0_tellRides_47 f_X6_clear
    simp only [bnd]
    have s2P : (gs σ2 3009 0).1 195 = nI P := by
      show σ2.1 195 = nI P
      rw [d2.1]; exact s1P
    rw [c_far s2P hP hf, show (gs σ2 3009 0).2 57 f = nI (gd (bE P T In f t) t f) from (d3 f hf).trans (by rw [ab_eq hP ht hf hf hsf, fI_t c])]
    simp only [bnd]
    have emin : jx_min (nI (gd (bE P T In f t) t f)) 5 = nI (min (gd (bE P T In f t) t f) 5) := mn_min _ 5 (by omega) (by omega)
    rw [emin]
    obtain ⟨σ', τ', z1, z2, z3, z4⟩ := ch_path (n := n) hP hT hf ht (show gd (bE P T In f t) t f < P by omega) (gd (bE P T In f t) t f) f 0 1000 1000 (gs σ2 3009 0) (gs τ3 4171 0) (by omega) (by omega) (by omega) hf (by omega) rfl (Or.inl hsf) (rAll_row hA rfl rfl (rW0 rfl rfl)) hth3 rfl ⟨by
        show rep (τ3.1 4164) In
        rw [g2.1]; exact q1I, by
        show lRow T P 0 (τ3.2 84)
        rw [g2.2 84 (by decide)]; exact m3, g4⟩ d3 (fun p z hp hz => by
        show (gd (sE P T In) f p < gF → σ2.2 56 (36 * p + z) = tI (T p z)) ∧ (¬ gd (sE P T In) f p < gF → σ2.2 56 (36 * p + z) = -1)
        rw [d2.2 56 (by decide)]; exact c3.2 p z hp hz)
    have z1' : f_X0_tellRides_47_b20 1000 (nI f) (nI (min (gd (bE P T In f t) t f) 5)) 0 (gs σ2 3009 0) = _ := z1
    have z2' : f_X11_changes_b192 1000 (nI f) (nI t) (nI f) 0 (gs τ3 4171 0) = _ := z2
    rw [z1', z2']
    simp only [bnd]
    exact ⟨_, _, _, P, Q, rfl, rfl, z4, rAll_step z3⟩
  · rw [show gd (bE P T In f t) t f = gF by omega, fI_F, if_neg (fun q => q rfl), if_neg (by omega)]
    exact rEq_same h0 rfl rfl ((fC_core d2).trans (sC_core c2)) ((fM_core g2).trans (qL_core m2)) hth3
