/-! ===== where, stops, reaches ===== -/
theorem bnd {α β : Type} (a : α) (f : α → Option β) : (some a).bind f = f a := (Option.bind_some a f).trans (Eq.refl _)
theorem goesOn_mv {P Q f g : Nat} {b : Int32} {σ τ τ2 : jT} (hQ : Q ≤ 6) (hL : rL P σ τ) (hD : rD P Q 82 f g σ τ) (e : f_X11_goesOn_82 τ = some (b, τ)) (r82 : τ2.2 82 = τ.2 82) (r67 : τ2.2 67 = τ.2 67) (r68 : τ2.2 68 = τ.2 68) (r69 : τ2.2 69 = τ.2 69) (r70 : τ2.2 70 = τ.2 70) (a1 : τ2.1 4161 = τ.1 4161) (a2 : τ2.1 4164 = τ.1 4164) : f_X11_goesOn_82 τ2 = some (b, τ2) := by
  have hL2 : rL P σ τ2 := rL_congr hL rfl rfl rfl rfl a1 a2 r67 r68
  have hD2 : rD P Q 82 f g σ τ2 := by
    obtain ⟨c1, c2, c3, c4, c5, c6, c7, c8, c9, d0, d1⟩ := hD
    exact ⟨c1, c2, c3, c4, c5, by rw [r82]; exact c6, by rw [r82]; exact c7, by rw [r82]; exact c8, by rw [r82]; exact c9, rDi_congr d0 rfl rfl rfl rfl rfl r69 r70 (fun z _ => by rw [r82]) hQ c1, rDi_congr d1 rfl rfl rfl rfl rfl r69 r70 (fun z _ => by rw [r82]) hQ c2⟩
  obtain ⟨v0, v1, e0, e1, e2, -⟩ := look_82 hQ hL hD
  obtain ⟨w0, w1, t0, t1, t2, -⟩ := look_82 hQ hL2 hD2
  rw [t0] at e0
  rw [t1] at e1
  obtain ⟨rfl, -⟩ := Prod.mk.inj (Option.some.inj e0)
  obtain ⟨rfl, -⟩ := Prod.mk.inj (Option.some.inj e1)
  rw [e2] at e
  obtain ⟨rfl, -⟩ := Prod.mk.inj (Option.some.inj e)
  exact t2
theorem m_lay82 (τ : jT) : f_X11_lay_66_82 0 τ = some (0, lyT τ 66 82 0 28) := m_lay_66_82 (a := 0) τ (by omega)
theorem goOut_eq : ∀ (fu : Nat) (x : Int32) (σ : jT), f_X5_goOut_b2 fu x σ = (f_X5_go_b2 fu 200 x σ).bind fun q => f_X5_goOut_b22 q.2 := by
  intro fu
  induction fu with
  | zero => intro x σ; rfl
  | succ fu ih =>
    intro x σ
    rw [f_X5_goOut_b2, f_X5_go_b2]
    by_cases h : (200 : Int32) ≤ x
    · rw [if_pos h, if_pos h]; rfl
    · rw [if_neg h, if_neg h]
      cases hs : f_X5_step σ with
      | none => rfl
      | some q =>
        simp only [Option.bind_some]
        by_cases hq : q.1 = 0
        · rw [if_pos hq, if_pos hq]; rfl
        · rw [if_neg hq, if_neg hq]
          exact ih _ _
theorem ride_82 {P Q f g N : Nat} {σ τ : jT} (hQ : Q ≤ 6) (hN : N ≤ 900) (hL : rL P σ τ) (hU : rU σ τ) (hD : rD P Q 82 f g σ τ) (hs : atStart σ) :
    ∃ k σ' τ', f_X5_go (nI N) σ = some (0, σ') ∧ f_X11_goRide_82 (nI N) τ = some (nI k, τ') ∧ k ≤ N ∧ qC σ σ' ∧ qM τ τ' ∧ rD P Q 82 f g σ' τ' ∧ σ'.1 3146 = nI k ∧ τ'.1 4191 = σ'.1 3147 ∧ rL P σ' τ' ∧ rU σ' τ' ∧
      ((σ'.1 3148 = 0 ∧ k = N) ∨ (σ'.1 3148 = 1 ∧ k < N ∧ f_X11_goesOn_82 τ' = some (0, τ'))) := by
  obtain ⟨k, σ', τ', g1, g2, g3, g4, g5, g6, g7, g8, g9, g10, g11, g12, -⟩ := go_82 hQ hN N 0 1000 σ (gs τ 4191 (-1)) (by omega) (by omega) (rL_congr hL rfl rfl rfl rfl rfl rfl rfl rfl) (rU_congr hU rfl rfl rfl rfl) (rD_1 hD rfl rfl rfl rfl rfl) hs.1 hs.2.2 hs.2.1.symm
  have hN2 : frN 82 τ τ' := frN_trans (b := gs τ 4191 (-1)) ⟨fun i _ _ _ h4 => if_neg h4, fun _ _ _ => rfl⟩ g6
  exact ⟨k, σ', τ', g1, g2, g4, frC_q g5, frN_q hN2, g7, g8, g9, frN_L (by decide) hL g5 hN2, frN_U (by decide) hU g5 hN2, g12⟩
/-- a ride as far as is looked on -/
theorem out_82 {P Q f g : Nat} {σ τ : jT} (hQ : Q ≤ 6) (hL : rL P σ τ) (hU : rU σ τ) (hD : rD P Q 82 f g σ τ) (hs : atStart σ) :
    ∃ k σ' τ' b, f_X5_goOut σ = some (0, σ') ∧ f_X11_goRide_82 200 τ = some (nI k, τ') ∧ k ≤ 200 ∧ qC σ σ' ∧ qM τ τ' ∧ rD P Q 82 f g σ' τ' ∧ σ'.1 3146 = nI k ∧ τ'.1 4191 = σ'.1 3147 ∧ rL P σ' τ' ∧ rU σ' τ' ∧ f_X11_goesOn_82 τ' = some (b, τ') ∧ ((σ'.1 3148 = 0 ∧ b = 1) ∨ (σ'.1 3148 = 1 ∧ b = 0)) := by
  obtain ⟨k, σ', τ', g1, g2, g3, g4, g5, g6, g7, g8, g9, g10, g11⟩ := ride_82 (N := 200) hQ (by omega) hL hU hD hs
  have hq : ∀ v : Int32, qC σ (gs σ' 3148 v) := fun v => qC_trans g4 ⟨fun i hi => if_neg (by omega), fun _ _ _ _ => rfl⟩
  have hgo : f_X5_goOut σ = f_X5_goOut_b22 σ' := by
    unfold f_X5_goOut
    rw [goOut_eq]
    show (f_X5_go (nI 200) σ).bind _ = _
    rw [g1]; rfl
  rw [hgo]
  unfold f_X5_goOut_b22 f_X5_goOut_b67 f_X5_goOut_b72
  rcases g11 with ⟨c1, c2⟩ | ⟨c1, c2, c3⟩
  · rw [c1, if_neg (fun q => q rfl)]
    obtain ⟨v0, v1, e0, e1, e2, -⟩ := look_82 hQ g9 g6
    rw [e0]
    simp only [Option.bind_some]
    rw [e1]
    simp only [Option.bind_some]
    by_cases hv : v0 = v1
    · rw [if_neg (fun q => q hv), if_pos (by decide)]
      rw [if_pos hv] at e2
      exact ⟨k, gs σ' 3148 1, τ', 0, rfl, g2, g3, hq 1, g5, rD_1 g6 rfl rfl rfl rfl rfl, g7, g8, rL_congr g9 rfl rfl rfl rfl rfl rfl rfl rfl, rU_congr g10 rfl rfl rfl rfl, e2, Or.inr ⟨rfl, rfl⟩⟩
    · rw [if_pos hv, if_pos (by decide)]
      rw [if_neg hv] at e2
      exact ⟨k, gs σ' 3148 0, τ', 1, rfl, g2, g3, hq 0, g5, rD_1 g6 rfl rfl rfl rfl rfl, g7, g8, rL_congr g9 rfl rfl rfl rfl rfl rfl rfl rfl, rU_congr g10 rfl rfl rfl rfl, e2, Or.inl ⟨rfl, rfl⟩⟩
  · rw [c1, if_pos (by decide), if_pos (by decide)]
    exact ⟨k, gs σ' 3148 1, τ', 0, rfl, g2, g3, hq 1, g5, rD_1 g6 rfl rfl rfl rfl rfl, g7, g8, rL_congr g9 rfl rfl rfl rfl rfl rfl rfl rfl, rU_congr g10 rfl rfl rfl rfl, c3, Or.inr ⟨rfl, rfl⟩⟩
theorem can_both {n P Q : Nat} {σ τ : jT} (h : rAll n P Q σ τ) (x y z : Int32) : (∃ f g p, f < Q ∧ g < Q ∧ f ≠ g ∧ p < P ∧ x = nI f ∧ y = nI g ∧ z = nI p ∧ f_X10_canRide x y z σ = some (1, σ) ∧ f_X11_canRide x y z τ = some (1, τ)) ∨ (f_X10_canRide x y z σ = some (0, σ) ∧ f_X11_canRide x y z τ = some (0, τ)) := by
  obtain ⟨-, ⟨hP, l1, l2, -⟩, -⟩ := id h
  unfold f_X10_canRide f_X11_canRide
  rcases two_cases h x y with ⟨r, g, hr, hg, hne, rfl, rfl, e1, e2⟩ | ⟨e1, e2⟩
  · rw [e1, e2]
    simp only [Option.bind_some]
    rw [if_neg (by decide), if_neg (by decide)]
    rcases vd_cases z (n := P) (by omega) with ⟨p, hp, rfl⟩ | hz
    · rw [c_hp_t l1 hP hp, m_isPlace_t l2 hP hp]
      exact Or.inl ⟨r, g, p, hr, hg, hne, hp, rfl, rfl, rfl, rfl, rfl⟩
    · rw [c_hp_f l1 hz, m_isPlace_f l2 hP hz]
      exact Or.inr ⟨rfl, rfl⟩
  · rw [e1, e2]
    exact Or.inr ⟨rfl, rfl⟩
theorem eq_stops {n P Q : Nat} {σ τ : jT} (h : rAll n P Q σ τ) (x y z : Int32) : rEq n (f_X10_stops x y z σ) (f_X11_stops x y z τ) := by
  have h0 : rAll n P Q σ (gs τ 4172 0) := rAll_core h rfl rfl
  unfold f_X10_stops f_X11_stops
  rcases can_both h0 x y z with ⟨f, g, p, hf, hg, hfg, hp, rfl, rfl, rfl, e1, e2⟩ | ⟨e1, e2⟩
  · rw [e1, e2]
    simp only [Option.bind_some]
    rw [if_pos (by decide), if_pos (by decide)]
    obtain ⟨σ1, τ1, b1, b2, b3, b4, b5, b6, -⟩ := bg_82 (rG_of h0) hf hg hfg (Or.inl hp)
    have h1 := q_all h0 b3 b4
    obtain ⟨-, hL1, ⟨hQ, -⟩, -, hU1, -⟩ := id h1
    obtain ⟨k, σ2, τ2, b, c1, c2, c3, c4, c5, c6, c7, c8, c9, c10, c11, c12⟩ := out_82 hQ hL1 hU1 b5 b6
    have h2 := q_all h1 c4 c5
    have ht : τ2.1 4172 = 0 := q_th c5 (q_th b4 rfl)
    obtain ⟨hP, l1, l2, -, lw, l0⟩ := id c9
    obtain ⟨-, -, -, -, -, -, -, ⟨q, hq, pc, pm⟩, -⟩ := id c6
    rw [b1, b2]
    simp only [Option.bind_some]
    rw [c1, c2]
    simp only [Option.bind_some]
    have et := m_tell1 τ2 (nI q)
    unfold mRow0 at et
    rw [pm, et]
    simp only [Option.bind_some]
    rw [goesOn_mv (τ2 := mRow1 τ2 (nI q)) hQ c9 c6 c11 rfl rfl rfl rfl rfl rfl rfl]
    simp only [Option.bind_some]
    unfold f_X5_hasStopped f_X5_spot
    rcases c12 with ⟨d1, rfl⟩ | ⟨d1, rfl⟩
    · rw [d1, if_pos (by decide)]
      simp only [Option.bind_some]
      rw [if_neg (by simp), if_neg (by decide), pc, c_tell1]
      exact rEq_row h2 rfl rfl rfl rfl (rW1 _ _ _) ht
    · rw [d1, if_pos (by decide)]
      simp only [Option.bind_some]
      rw [if_pos (by decide), if_pos trivial, pc]
      have hpm : (mRow1 τ2 (nI q)).2 82 0 = nI q := pm
      rw [hpm]
      have tl : ∀ s : Int32, rEq n (f_X10_stops_b89 s (nI q) σ2) (f_X11_stops_b87 (nI k) s (mRow1 τ2 (nI q))) := by
        intro s
        unfold f_X10_stops_b89 f_X11_stops_b87 f_X5_latest f_X5_taken
        simp only [Option.bind_some]
        rw [c_tell3, m_tell2]
        simp only [Option.bind_some]
        have e4 : (mRow2 τ2 (nI q) s).1 4191 = σ2.1 3147 := c8
        rw [e4, m_tell3]
        have e5 : (cRow3 σ2 (nI q) s (σ2.1 3147)).1 3146 = nI k := c7
        rw [e5]
        exact rEq_row h2 rfl rfl rfl rfl (rW3 _ _ _ _ _) ht
      rcases hq with hq | ⟨rfl, rfl⟩
      · obtain ⟨w, hw3, cw, mw, -⟩ := lw q hq
        have mw' : (mRow1 τ2 (nI q)).2 67 q = nI w := mw
        rw [c_ways_t l1 hP hq, if_pos (ja_in (by omega) (by omega)), nI_clamp (by omega), mw', cw]
        simp only [Option.bind_some]
        by_cases hw : nI w = 0
        · rw [if_neg (fun q => q hw), if_neg (fun q => q hw)]; exact tl 0
        · rw [if_pos hw, if_pos hw]; exact tl 1
      · have mw' : (mRow1 τ2 (nI 0)).2 67 0 = 0 := l0 rfl
        rw [c_ways_f l1 (Or.inr (by decide)), if_pos (by decide), show (nI 0).toNatClampNeg = 0 from rfl, mw']
        simp only [Option.bind_some]
        rw [if_neg (by simp), if_neg (by simp)]
        exact tl 0
  · rw [e1, e2]
    exact rEq_same h0 rfl rfl rfl rfl rfl
/-- a place that is told is come by on both sides, as late -/
theorem comes_82 {P Q f g : Nat} {t : Int32} (hQ : Q ≤ 6) : ∀ (m k fu : Nat) (σ τ : jT), k + m = 200 → m < fu → rL P σ τ → rU σ τ → rD P Q 82 f g σ τ → σ.1 3146 = nI k →
    ∃ (b : Int32) (a : Int32) (σ' τ' : jT), f_X5_comesTo_b5 fu t (nI k) σ = some (b, σ') ∧ f_X11_reaches_b37 fu t (nI k) τ = some (a, τ') ∧ qC σ σ' ∧ qM τ τ' ∧ ((b = 0 ∧ a = -2) ∨ (b = 1 ∧ a = σ'.1 3146)) := by
  intro m
  induction m with
  | zero =>
    intro k fu σ τ hk hfu hL hU hD c1
    obtain ⟨fu, rfl⟩ : ∃ f', fu = f' + 1 := ⟨fu - 1, by omega⟩
    obtain ⟨-, -, -, -, -, -, -, ⟨q, hq, pc, pm⟩, -⟩ := id hD
    have hk2 : k = 200 := by omega
    subst hk2
    rw [f_X5_comesTo_b5, f_X11_reaches_b37, if_pos (by decide), pm]
    unfold f_X5_comesTo_b33
    rw [pc]
    by_cases ht : nI q = t
    · rw [if_neg (fun q => q ht), if_pos ht]
      exact ⟨1, _, σ, τ, rfl, rfl, qC_refl σ, qM_refl τ, Or.inr ⟨rfl, c1.symm⟩⟩
    · rw [if_pos ht, if_neg ht, if_pos (by decide)]
      exact ⟨0, _, σ, τ, rfl, rfl, qC_refl σ, qM_refl τ, Or.inl ⟨rfl, rfl⟩⟩
  | succ m ih =>
    intro k fu σ τ hk hfu hL hU hD c1
    obtain ⟨fu, rfl⟩ : ∃ f', fu = f' + 1 := ⟨fu - 1, by omega⟩
    obtain ⟨-, -, -, -, -, -, -, ⟨q, hq, pc, pm⟩, -⟩ := id hD
    have h200 : ¬ (200 : Int32) ≤ nI k := fun q => by rw [show (200 : Int32) = nI 200 from rfl, ja_le (by omega) (by omega)] at q; omega
    have h200' : ¬ nI k = 200 := fun q => by rw [show (200 : Int32) = nI 200 from rfl, ja_eq (by omega) (by omega)] at q; omega
    rw [f_X5_comesTo_b5, f_X11_reaches_b37, if_neg h200, pm, pc]
    by_cases ht : nI q = t
    · unfold f_X5_comesTo_b33
      rw [if_pos ht, if_pos ht, pc, if_neg (fun q => q ht)]
      exact ⟨1, _, σ, τ, rfl, rfl, qC_refl σ, qM_refl τ, Or.inr ⟨rfl, c1.symm⟩⟩
    · rw [if_neg ht, if_neg ht, if_neg h200']
      rcases step_82 hQ hL hU hD with ⟨e1, e2, e3⟩ | ⟨σ1, τ1, e1, e2, -, hst⟩
      · rw [e1, e2]
        simp only [Option.bind_some]
        unfold f_X5_comesTo_b33
        have pc' : (gs σ 3148 1).1 3144 = nI q := pc
        rw [if_pos trivial, pc', if_pos ht, if_neg (by simp)]
        exact ⟨0, _, gs σ 3148 1, τ, rfl, rfl, ⟨fun i hi => if_neg (by omega), fun _ _ _ _ => rfl⟩, qM_refl τ, Or.inl ⟨rfl, rfl⟩⟩
      · rw [e1, e2]
        simp only [Option.bind_some]
        rw [if_neg (by decide), if_pos (by decide), ← nI_succ]
        obtain ⟨s1, s2, s3, s4, s5, s6, -⟩ := hst
        obtain ⟨b, a, σ', τ', g1, g2, g3, g4, g5⟩ := ih (k + 1) fu σ1 τ1 (by omega) (by omega) (fr_L (by decide) hL s1 s2) (fr_U (by decide) hU s1 s2) s3 (by rw [s6, c1, nI_succ])
        exact ⟨b, a, σ', τ', g1, g2, qC_trans (frC_q s1) g3, qM_trans (frM_q s2) g4, g5⟩
theorem eq_reaches {n P Q : Nat} {σ τ : jT} (h : rAll n P Q σ τ) (x y z t : Int32) : rEq n (f_X10_reaches x y z t σ) (f_X11_reaches x y z t τ) := by
  have h0 : rAll n P Q σ (gs τ 4172 0) := rAll_core h rfl rfl
  obtain ⟨-, ⟨hP, l1, l2, -⟩, -⟩ := id h0
  unfold f_X10_reaches f_X11_reaches
  rcases can_both h0 x y z with ⟨f, g, p, hf, hg, hfg, hp, rfl, rfl, rfl, e1, e2⟩ | ⟨e1, e2⟩
  · rw [e1, e2]
    simp only [Option.bind_some]
    rw [if_neg (by decide), if_neg (by decide)]
    rcases vd_cases t (n := P) (by omega) with ⟨t, ht, rfl⟩ | hx
    · rw [c_hp_t l1 hP ht, m_isPlace_t l2 hP ht]
      simp only [Option.bind_some]
      rw [if_pos (by decide), if_pos (by decide)]
      obtain ⟨σ1, τ1, b1, b2, b3, b4, b5, b6, -⟩ := bg_82 (rG_of h0) hf hg hfg (Or.inl hp)
      have h1 := q_all h0 b3 b4
      obtain ⟨-, hL1, ⟨hQ, -⟩, -, hU1, -⟩ := id h1
      obtain ⟨b, a, σ2, τ2, g1, g2, g3, g4, g5⟩ := comes_82 (t := nI t) hQ 200 0 1000 σ1 τ1 (by omega) (by omega) hL1 hU1 b5 b6.1
      have h2 := q_all h1 g3 g4
      have ht : τ2.1 4172 = 0 := q_th g4 (q_th b4 rfl)
      rw [b1, b2]
      simp only [Option.bind_some]
      unfold f_X5_comesTo
      have g2' : f_X11_reaches_b37 1000 (nI t) 0 τ1 = some (a, τ2) := g2
      rw [b6.1, g1, g2']
      simp only [Option.bind_some]
      rcases g5 with ⟨rfl, rfl⟩ | ⟨rfl, rfl⟩
      · rw [if_pos (by simp)]
        exact rEq_same h2 rfl rfl rfl rfl ht
      · rw [if_neg (by decide)]
        exact rEq_same h2 rfl rfl rfl rfl ht
    · rw [c_hp_f l1 hx, m_isPlace_f l2 hP hx]
      exact rEq_same h0 rfl rfl rfl rfl rfl
  · rw [e1, e2]
    exact rEq_same h0 rfl rfl rfl rfl rfl
theorem eq_where {n P Q : Nat} {σ τ : jT} (h : rAll n P Q σ τ) (x : Int32) : rEq n (f_X10_where x σ) (f_X11_where x τ) := by
  have h0 : rAll n P Q σ (gs τ 4172 0) := rAll_core h rfl rfl
  obtain ⟨-, ⟨hP, l1, l2, -⟩, ⟨hQ, -⟩, ⟨⟨⟨hh, -, nh1, nh2⟩, -⟩, -⟩, -⟩ := id h0
  unfold f_X10_where f_X11_where
  rcases vd_cases x (n := 201) (by omega) with ⟨k, hk, rfl⟩ | hx
  · have hle : nI k ≤ 200 := (ja_le (a := k) (b := 200) (by omega) (by omega)).mpr (by omega)
    rw [if_neg (nI_pos (by omega)), if_pos hle]
    have hin : f_X11_in (nI k) 0 200 (gs τ 4172 0) = some (1, gs τ 4172 0) := m_in_t (a := 0) (b := 200) (by omega) (by omega) (by omega)
    rw [hin]
    simp only [bnd]
    rw [if_pos (by decide), m_lay82]
    simp only [bnd]
    have h1 : rAll n P Q σ (lyT (gs τ 4172 0) 66 82 0 28) := q_all h0 (qC_refl σ) (ly_q _)
    rcases rid_both h1 with ⟨hun, b1, b2⟩ | ⟨hm, b1, b2⟩
    · rw [b1, b2]
      simp only [bnd]
      rw [if_neg (by simp), if_pos (by simp)]
      unfold f_X11_where_b50 f_X11_where_b74 f_X11_where_b79
      have et := m_tell1 (lyT (gs τ 4172 0) 66 82 0 28) 0
      unfold mRow0 at et
      rw [et]
      simp only [bnd]
      have hr2 : f_X11_isRidden (mRow1 (lyT (gs τ 4172 0) 66 82 0 28) 0) = some (0, mRow1 (lyT (gs τ 4172 0) 66 82 0 28) 0) := by
        unfold f_X11_isRidden at b2 ⊢
        by_cases hz : (lyT (gs τ 4172 0) 66 82 0 28).2 66 1 = -1
        · exact if_pos hz
        · rw [if_neg hz] at b2
          exact absurd b2 (by simp)
      rw [hr2, c_tell2]
      simp only [bnd]
      rw [if_pos (by simp), m_tell2]
      have e1 : (mRow2 (lyT (gs τ 4172 0) 66 82 0 28) 0 1).2 82 0 = nI hh := (ly_z (gs τ 4172 0) (z := 0) (by omega)).trans nh2
      have e2 : (cRow2 σ 0 1).2 13 24 = nI hh := nh1
      unfold f_X8_horse
      simp only [bnd]
      rw [e1, e2]
      exact rEq_row h1 rfl rfl rfl rfl (rW2 _ _ _ _) rfl
    · rw [b1, b2]
      simp only [bnd]
      rw [if_pos (by decide), if_neg (by decide)]
      obtain ⟨σ1, f, g, p, r1, r2, r3, -, r4, -, -, -, -, hf, hg, -⟩ := rs_D (rG_of h0) hm
      have h2 : rAll n P Q σ1 (lyT (gs τ 4172 0) 66 82 0 28) := q_all h1 r2 (qM_refl _)
      obtain ⟨-, hL1, -, -, hU1, -⟩ := id h2
      obtain ⟨j, σ2, τ2, c1, c2, c3, c4, c5, c6, c7, c8, c9, c10, c11⟩ := ride_82 (N := k) hQ (by omega) hL1 hU1 r3 r4
      have h3 := q_all h2 c4 c5
      have ht : τ2.1 4172 = 0 := q_th c5 rfl
      rw [r1]
      simp only [bnd]
      rw [c1, c2]
      simp only [bnd]
      obtain ⟨-, -, -, -, -, -, -, ⟨q, hq, pc, pm⟩, -⟩ := id c6
      unfold f_X11_where_b50 f_X11_where_b74
      have et := m_tell1 τ2 (nI j)
      unfold mRow0 at et
      rw [et]
      simp only [bnd]
      have hr2 : f_X11_isRidden (mRow1 τ2 (nI j)) = some (1, mRow1 τ2 (nI j)) := by
        unfold f_X11_isRidden at b2 ⊢
        have e66 : (mRow1 τ2 (nI j)).2 66 = (lyT (gs τ 4172 0) 66 82 0 28).2 66 := c5.2 66 (by decide) (by decide)
        rw [e66]
        by_cases hz : (lyT (gs τ 4172 0) 66 82 0 28).2 66 1 = -1
        · rw [if_pos hz] at b2
          exact absurd b2 (by simp)
        · exact if_neg hz
      rw [hr2]
      simp only [bnd]
      rw [if_neg (by decide)]
      unfold f_X5_taken f_X5_hasStopped
      simp only [bnd]
      have tl : ∀ s : Int32, rEq n (f_X10_where_b81 s (nI j) σ2) (f_X11_where_b79 s (mRow1 τ2 (nI j))) := by
        intro s
        unfold f_X10_where_b81 f_X11_where_b79 f_X5_spot
        rw [c_tell2, m_tell2]
        simp only [bnd]
        have e1 : (mRow2 τ2 (nI j) s).2 82 0 = nI q := pm
        have e2 : (cRow2 σ2 (nI j) s).1 3144 = nI q := pc
        rw [e1, e2]
        exact rEq_row h3 rfl rfl rfl rfl (rW2 _ _ _ _) ht
      rw [c7]
      rcases c11 with ⟨d1, d2⟩ | ⟨d1, d2, -⟩
      · rw [d1, if_pos (by decide), if_pos ((ja_le (by omega) (by omega)).mpr (by omega))]
        simp only [bnd]
        rw [if_pos (by simp)]
        exact tl 0
      · rw [d1, if_pos (by decide), if_neg (fun q => by rw [ja_le (by omega) (by omega)] at q; omega)]
        simp only [bnd]
        rw [if_neg (by decide)]
        exact tl 1
  · have hin : f_X11_in x 0 200 (gs τ 4172 0) = some (0, gs τ 4172 0) := by
      have e : (200 : Int32) = nI 201 - 1 := by decide
      rw [e]
      exact m_pred hx (by omega)
    rw [hin]
    simp only [bnd]
    try rw [if_neg (show ¬ ¬ True by simp)]
    rcases hx with hx | hx
    · rw [if_pos hx]
      exact rEq_same h0 rfl rfl rfl rfl rfl
    · rw [Int32.le_iff_toInt_le, nI_toInt (by omega)] at hx
      have h1 : ¬ x < 0 := fun q => by
        rw [Int32.lt_iff_toInt_lt, Int32.toInt_zero] at q
        omega
      have h2 : ¬ x ≤ 200 := fun q => by
        rw [show (200 : Int32) = nI 200 from rfl, Int32.le_iff_toInt_le, nI_toInt (by omega)] at q
        omega
      rw [if_neg h1, if_neg h2]
      exact rEq_same h0 rfl rfl rfl rfl rfl
