/-! ===== foot: the ways told ===== -/
/-- the first way that leads one nearer -/
theorem ft_first {P t p v : Nat} {wy : Nat → Nat} {ld : Nat → Nat → Nat} (h : gd (fE P wy ld) t p = v + 1) (hv : v + 1 < gF) : ∃ w, w < wy p ∧ gd (fE P wy ld) t (ld p w) = v ∧ ∀ w', w' < w → gd (fE P wy ld) t (ld p w') ≠ v := by
  obtain ⟨q, ⟨_, w, h1, h2⟩, h3⟩ := gd_pred h hv
  have key : ∀ n w, w < n → w < wy p → gd (fE P wy ld) t (ld p w) = v → ∃ w, w < wy p ∧ gd (fE P wy ld) t (ld p w) = v ∧ ∀ w', w' < w → gd (fE P wy ld) t (ld p w') ≠ v := by
    intro n
    induction n with
    | zero => intro w h; omega
    | succ n ih =>
      intro w hn hw he
      by_cases c : ∃ w', w' < w ∧ gd (fE P wy ld) t (ld p w') = v
      · obtain ⟨w', c1, c2⟩ := c
        exact ih w' (by omega) (by omega) c2
      · exact ⟨w, hw, he, fun w' hw' q => c ⟨w', hw', q⟩⟩
  exact key (w + 1) w (by omega) h1 (by rw [h2]; exact h3)
theorem ft_mw {P t p v w1 : Nat} {wy : Nat → Nat} {ld : Nat → Nat → Nat} {σ0 τ τ' : jT} {x1 x2 : Int32} (hP : P ≤ 10) (hl : lWay P wy ld σ0 τ) (hp : p < P) (hb : ∀ q, q < P → gd (fE P wy ld) t q < P ∨ gd (fE P wy ld) t q = gF) (hr : ∀ q, q < P → τ.2 85 q = nI (gd (fE P wy ld) t q)) (hv : gd (fE P wy ld) t p = v + 1) (hvP : v + 1 < P) (h1 : w1 < wy p) (h2 : gd (fE P wy ld) t (ld p w1) = v) (h3 : ∀ w', w' < w1 → gd (fE P wy ld) t (ld p w') ≠ v) (et : f_X11_tell (nI w1) τ = some (0, τ')) (e68 : τ'.2 68 = τ.2 68) (k170 : Int32 → Int32 → Int32 → jT → Option (Int32 × jT)) :
    ∀ (m w fu : Nat), w + m = w1 → m < fu → f_X11_foot_b178 k170 fu x1 x2 (nI p) (nI w) τ = k170 x1 x2 (nI (ld p w1)) τ' := by
  obtain ⟨hw3, -, a1, a2⟩ := hl p hp
  have hgF : gF = 1000000 := rfl
  intro m
  induction m with
  | zero =>
    intro w fu hw hf
    obtain ⟨fu, rfl⟩ : ∃ f', fu = f' + 1 := ⟨fu - 1, by omega⟩
    obtain rfl : w = w1 := by omega
    obtain ⟨b1, -, b2⟩ := a2 w h1
    rw [f_X11_foot_b178, ix3 (by omega) (by omega), if_pos (ja_in (n := 30) (by omega) (by omega)), nI_clamp (by omega), b2, if_pos (ja_in (n := 10) (by omega) (by omega)), if_pos (ja_in (n := 10) (by omega) (by omega)), nI_clamp (by omega), nI_clamp (by omega), hr _ b1, hr p hp, h2, hv, nS, if_pos rfl, et]
    simp only [bnd]
    rw [e68, b2]
  | succ m ih =>
    intro w fu hw hf
    obtain ⟨fu, rfl⟩ : ∃ f', fu = f' + 1 := ⟨fu - 1, by omega⟩
    obtain ⟨b1, -, b2⟩ := a2 w (by omega)
    have hb1 := hb _ b1
    have hne := h3 w (by omega)
    rw [f_X11_foot_b178, ix3 (by omega) (by omega), if_pos (ja_in (n := 30) (by omega) (by omega)), nI_clamp (by omega), b2, if_pos (ja_in (n := 10) (by omega) (by omega)), if_pos (ja_in (n := 10) (by omega) (by omega)), nI_clamp (by omega), nI_clamp (by omega), hr _ b1, hr p hp, hv, nS (gd (fE P wy ld) t (ld p w)), if_neg (fun q => by have := (ja_eq (by omega) (by omega)).1 q; omega), nS]
    exact ih (w + 1) fu (by omega) (by omega)
theorem ft_path {n P Q t f : Nat} {wy : Nat → Nat} {ld : Nat → Nat → Nat} (hP : P ≤ 10) (ht : t < P) (hf : f < P) (hE : ∀ p q, fE P wy ld p q → p < P ∧ q < P) (hD : gd (fE P wy ld) t f < P) : ∀ (v p i fu fu' : Nat) (σ τ : jT), i + v = gd (fE P wy ld) t f → v < fu → v < fu' → p < P → gd (fE P wy ld) t p = v → rAll n P Q σ τ → τ.1 4172 = 0 → τ.1 4171 = nI i → lWay P wy ld σ τ → (∀ q, q < P → σ.2 57 q = fI (gd (fE P wy ld) t q)) → (∀ q, q < P → τ.2 85 q = nI (gd (fE P wy ld) t q)) →
    ∃ σ' τ', f_X0_tellWays_47_b16 fu (nI p) (nI (gd (fE P wy ld) t f)) (nI i) σ = some (0, σ') ∧ f_X11_foot_b170 fu' (nI f) (nI t) (nI p) τ = some (nI (gd (fE P wy ld) t f), τ') ∧ rAll n P Q σ' τ' ∧ τ'.1 4172 = 0 := by
  have hgF : gF = 1000000 := rfl
  have hb : ∀ q, q < P → gd (fE P wy ld) t q < P ∨ gd (fE P wy ld) t q = gF := fun q hq => gd_cases hP ht hE hq
  intro v
  induction v with
  | zero =>
    intro p i fu fu' σ τ hi hfu hfu' hp hd h hth hs hl hrc hrm
    obtain ⟨fu, rfl⟩ : ∃ f', fu = f' + 1 := ⟨fu - 1, by omega⟩
    obtain ⟨fu', rfl⟩ : ∃ f', fu' = f' + 1 := ⟨fu' - 1, by omega⟩
    have e := gd_0 hd
    rw [f_X0_tellWays_47_b16, if_pos ((ja_le (by omega) (by omega)).2 (by omega)), f_X11_foot_b170, if_pos (by rw [e]), if_pos (ja_in (n := 10) (by omega) (by omega)), nI_clamp (by omega), hrm f hf]
    exact ⟨σ, τ, rfl, rfl, h, hth⟩
  | succ v ih =>
    intro p i fu fu' σ τ hi hfu hfu' hp hd h hth hs hl hrc hrm
    obtain ⟨fu, rfl⟩ : ∃ f', fu = f' + 1 := ⟨fu - 1, by omega⟩
    obtain ⟨fu', rfl⟩ : ∃ f', fu' = f' + 1 := ⟨fu' - 1, by omega⟩
    obtain ⟨-, ⟨-, p1, p2, -⟩, -⟩ := id h
    obtain ⟨w1, h1, h2, h3⟩ := ft_first hd (by omega)
    obtain ⟨hw3, a0, a1, a2⟩ := hl p hp
    obtain ⟨b1, b2, b3⟩ := a2 w1 h1
    have hpt : ¬ nI p = nI t := fun q => by
      have e := (ja_eq (by omega) (by omega)).1 q
      rw [e, gd_t] at hd; omega
    obtain ⟨σ1, τ1, c1, c2, c3, c4, c5, c6, c7, c8⟩ := put_both h hs (by omega) (nI w1)
    rw [f_X0_tellWays_47_b16, if_neg (fun c => by have := (ja_le (by omega) (by omega)).1 c; omega), c_far p1 hP hp, hrc p hp, hd, fI_t (by omega)]
    simp only [bnd]
    rw [nI_pred]
    obtain ⟨r, e, hh⟩ := c_wayTo (n := v) hP p1 hl hp (by omega) hrc (fun q hq => by have := hb q hq; omega) (wy p) 0 1000 (by omega) (by omega) (fun w' h => absurd h (Nat.not_lt_zero _))
    have e' : f_X0_wayTo (nI p) (nI v) σ = some (r, σ) := e
    have hr : r = nI w1 := by
      rcases hh with ⟨_, hh⟩ | ⟨w2, g1, g2, g3, g4⟩
      · exact absurd h2 (hh w1 h1)
      · have : w2 = w1 := by
          by_cases z : w2 < w1
          · exact absurd g3 (h3 w2 z)
          · by_cases z2 : w1 < w2
            · exact absurd h2 (g4 w1 z2)
            · omega
        rw [g2, this]
    rw [e', hr]
    simp only [bnd]
    rw [c1]
    simp only [bnd]
    have p1' : σ1.1 195 = nI P := by rw [c5 195 (by decide)]; exact p1
    have a0' : σ1.2 4 p = nI (wy p) := by rw [c6 4 (by decide)]; exact a0
    rw [c_leads_t p1' hP hp a0' hw3 h1, c6 5 (by decide), b2]
    simp only [bnd]
    rw [nS, f_X11_foot_b170, if_neg hpt]
    have em := ft_mw (x1 := nI f) (x2 := nI t) hP hl hp hb hrm hd (by omega) h1 h2 h3 c2 (c8 68 (by decide)) (f_X11_foot_b170 fu') w1 0 1000 (by omega) (by omega)
    have em' : f_X11_foot_b178 (f_X11_foot_b170 fu') 1000 (nI f) (nI t) (nI p) 0 τ = _ := em
    rw [em']
    refine ih (ld p w1) (i + 1) fu fu' σ1 τ1 (by omega) (by omega) (by omega) b1 h2 c3 ?_ c4 ?_ ?_ ?_
    · rw [c7 4172 (by decide)]; exact hth
    · unfold lWay
      rw [c6 4 (by decide), c6 5 (by decide), c8 67 (by decide), c8 68 (by decide)]; exact hl
    · rw [c6 57 (by decide)]; exact hrc
    · rw [c8 85 (by decide)]; exact hrm
theorem fC_core {σ σ' : jT} (h : fC σ σ') : coreC σ' = coreC σ := by
  have hp : pastC σ' = pastC σ := by
    funext i
    unfold pastC
    split <;> exact h.2 _ (by decide)
  have hk : keptC σ' = keptC σ := by
    funext i
    unfold keptC
    split <;> exact h.2 _ (by decide)
  unfold coreC
  rw [hp, hk, h.1, h.2 2 (by decide), h.2 4 (by decide), h.2 5 (by decide), h.2 6 (by decide), h.2 13 (by decide), h.2 8 (by decide), h.2 48 (by decide), h.2 62 (by decide)]
theorem fM_core {τ τ' : jT} (h : fM τ τ') : coreM τ' = coreM τ := by
  unfold coreM
  rw [h.1, h.2 71 (by decide), h.2 67 (by decide), h.2 68 (by decide), h.2 69 (by decide), h.2 70 (by decide), h.2 66 (by decide), h.2 77 (by decide), h.2 79 (by decide), h.2 92 (by decide), h.2 93 (by decide), h.2 94 (by decide), h.2 72 (by decide), h.2 88 (by decide)]
theorem eq_foot {n P Q : Nat} {σ τ : jT} (h : rAll n P Q σ τ) (x y : Int32) : rEq n (f_X10_foot x y σ) (f_X11_foot x y τ) := by
  have h0 : rAll n P Q σ (gs τ 4172 0) := rAll_core h rfl rfl
  have hth : (gs τ 4172 0).1 4172 = 0 := rfl
  obtain ⟨-, hL, -⟩ := id h0
  obtain ⟨hP, p1, p2, -⟩ := id hL
  obtain ⟨wy, ld, hl⟩ := lWay_of hL
  have hgF : gF = 1000000 := rfl
  unfold f_X10_foot f_X11_foot
  rcases vd_cases x (n := P) (by omega) with ⟨f, hf, rfl⟩ | hx
  rotate_left
  · rw [c_hp_f p1 hx, m_isPlace_f p2 hP hx]
    simp only [bnd]
    exact rEq_same h rfl rfl rfl rfl rfl
  rw [c_hp_t p1 hP hf, m_isPlace_t p2 hP hf]
  simp only [bnd]
  rw [if_neg (show ¬ (1 : Int32) = 0 by decide), if_neg (show ¬ (1 : Int32) = 0 by decide)]
  rcases vd_cases y (n := P) (by omega) with ⟨t, ht, rfl⟩ | hy
  rotate_left
  · rw [c_hp_f p1 hy, m_isPlace_f p2 hP hy]
    simp only [bnd]
    exact rEq_same h rfl rfl rfl rfl rfl
  rw [c_hp_t p1 hP ht, m_isPlace_t p2 hP ht]
  simp only [bnd]
  rw [if_pos (show ¬ (1 : Int32) = 0 by decide), if_pos (show ¬ (1 : Int32) = 0 by decide)]
  generalize gs τ 4172 0 = τ at h0 hth p2 hL hl
  have hE := fE_lt hP ht hl
  obtain ⟨σ1, c1, c2, c3⟩ := fw_c hP ht hf hE p1 (ft_next hP p1 hl)
  obtain ⟨τ1, m1, m2, m3⟩ := ft_b hP ht p2 hl (x1 := nI f) P 0 1000 τ (by omega) (by omega) ⟨rfl, fun _ _ => rfl⟩ (fun q hq => absurd hq (Nat.not_lt_zero _))
  have m1' : f_X11_foot_b25 1000 (nI f) (nI t) 0 τ = _ := m1
  obtain ⟨τ2, n1, n2, n3⟩ := ft_k hP ht p2 hl (x2 := nI t) hf P 0 1000 τ1 (fun q => if q = t then 0 else gF) (by omega) (by omega) m2 (fun q hq => by
      show gd (fE P wy ld) t q ≤ (if q = t then 0 else gF) ∧ (if q = t then 0 else gF) ≤ gF
      by_cases z : q = t
      · rw [if_pos z, z, gd_t]; omega
      · rw [if_neg z]
        have := gd_cases hP ht hE hq
        omega) (fun q hq hd => by
      show (if q = t then 0 else gF) ≤ gd (fE P wy ld) t q
      rw [if_pos (gd_0 (show gd (fE P wy ld) t q = 0 by omega))]; omega) m3
  have n1' : f_X11_foot_b59 1000 (nI f) (nI t) 0 τ1 = _ := n1
  rw [c1, m1', n1']
  simp only [bnd]
  have hA : rAll n P Q σ1 τ2 := rAll_core h0 (fC_core c2) (fM_core n2)
  have hth2 : τ2.1 4172 = 0 := by rw [n2.1]; exact hth
  have hd := gd_cases hP ht hE hf
  by_cases c : gd (fE P wy ld) t f < gF
  · rw [fI_t c, if_pos (ja_neg1 (by omega)), if_pos c]
    unfold f_X0_tellWays_47 f_X6_clear
    simp only [bnd]
    have p1' : (gs σ1 3009 0).1 195 = nI P := by
      show σ1.1 195 = nI P
      rw [c2.1]; exact p1
    rw [c_far p1' hP hf, show (gs σ1 3009 0).2 57 f = nI (gd (fE P wy ld) t f) from (c3 f hf).trans (fI_t c)]
    simp only [bnd]
    have hl2 : lWay P wy ld σ1 τ2 := by
      unfold lWay
      rw [c2.2 4 (by decide), c2.2 5 (by decide), n2.2 67 (by decide), n2.2 68 (by decide)]; exact hl
    obtain ⟨σ', τ', e1, e2, e3, e4⟩ := ft_path (n := n) (Q := Q) hP ht hf hE (by omega) (gd (fE P wy ld) t f) f 0 1000 1000 (gs σ1 3009 0) (gs τ2 4171 0) (by omega) (by omega) (by omega) hf rfl (rAll_row hA rfl rfl (rW0 rfl rfl)) hth2 rfl hl2 c3 n3
    have e1' : f_X0_tellWays_47_b16 1000 (nI f) (nI (gd (fE P wy ld) t f)) 0 (gs σ1 3009 0) = _ := e1
    rw [e1', e2]
    simp only [bnd]
    exact ⟨_, _, _, P, Q, rfl, rfl, e4, rAll_step e3⟩
  · rw [show gd (fE P wy ld) t f = gF by omega, fI_F, if_neg (fun q => q rfl), if_neg (by omega)]
    exact rEq_same h0 rfl rfl (fC_core c2) (fM_core n2) hth2
