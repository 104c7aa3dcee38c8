/-! ===== claim, lie ===== -/
theorem iT {α : Type} (a b : α) [Decidable True] : (if True then a else b) = a := if_pos trivial
theorem iNT {α : Type} (a b : α) [Decidable (¬ True)] : (if ¬ True then a else b) = b := if_neg (fun h => h trivial)
theorem iTo {α : Type} (p : Prop) (a b : α) [Decidable (True ∨ p)] : (if True ∨ p then a else b) = a := if_pos (Or.inl trivial)
theorem iF {α : Type} (a b : α) [Decidable False] : (if False then a else b) = b := if_neg id
theorem iNF {α : Type} (a b : α) [Decidable (¬ False)] : (if ¬ False then a else b) = a := if_pos id
theorem v01 {x : Int32} (h : ∃ k, k < 2 ∧ x = nI k) : x = 0 ∨ x = 1 := by
  obtain ⟨k, hk, rfl⟩ := h
  rcases (show k = 0 ∨ k = 1 by omega) with rfl | rfl
  · exact Or.inl rfl
  · exact Or.inr rfl
/-- what would be the WAY, if one claimed a VIEW -/
theorem cl_66 {P Q f g p w j : Nat} {x : Int32} {σ τ : jT} (hQ : Q ≤ 6) (hL : rL P σ τ) (hU : rU σ τ) (hD : rD P Q 66 f g σ τ) (hp : p < P) (hw1 : 1 ≤ w) (hw3 : w ≤ 3) (hpl : σ.1 3144 = nI p) (c4 : σ.2 4 p = nI w) (hx : x = 0 ∨ x = 1) :
    ∃ a σ' τ', f_X5_wayClaiming x (nI j) σ = some (a, σ') ∧ f_X11_wayOfClaim x (nI j) τ = some (a, τ') ∧ σ'.1 = σ.1 ∧ (∀ o, o ≠ 10 → o ≠ 11 → σ'.2 o = σ.2 o) ∧ (∀ o, o ≠ 78 → τ'.2 o = τ.2 o) ∧ (∀ i, (i < 4174 ∨ 4177 < i) → i ≠ 4185 → τ'.1 i = τ.1 i) := by
  obtain ⟨v0, v1, e0, e1, -, hc⟩ := look_66 hQ hL hD
  obtain ⟨hf, hg, hfg, w0, w1, r1, r2, -, st, d0, d1⟩ := id hD
  obtain ⟨⟨m, s, hs, hm1, hm, m1, m2, s1, l1⟩, -⟩ := d0
  obtain ⟨⟨m', s', hs', hm1', hm', m1', m2', s1', l1'⟩, -⟩ := d1
  obtain ⟨hP, ll1, -⟩ := id hL
  rcases hc with ⟨-, -, hc, -⟩ | ⟨p', w', hp', hw1', hw3', pc, pm, cw, mw, V0, V1, -⟩
  · rw [hpl, c_ways_t ll1 hP hp, c4] at hc
    have := (Prod.mk.inj (Option.some.inj hc)).1
    exact absurd this (nI_ne0 (by omega) (by omega))
  · have hpp : p' = p := (ja_eq (by omega) (by omega)).mp (pc.symm.trans hpl)
    subst hpp
    have hww : w' = w := (ja_eq (by omega) (by omega)).mp (cw.symm.trans c4)
    subst hww
    have key : ∀ a b : Int32, ∃ v σ' τ', (f_X5_wayBy a b σ).bind (fun q3 => some (q3.1, q3.2)) = some (v, σ') ∧ f_X11_wayOfClaim_b56 (nI p') a b τ = some (v, τ') ∧ σ'.1 = σ.1 ∧ (∀ o, o ≠ 10 → o ≠ 11 → σ'.2 o = σ.2 o) ∧ (∀ o, o ≠ 78 → τ'.2 o = τ.2 o) ∧ (∀ i, (i < 4174 ∨ 4177 < i) → i ≠ 4185 → τ'.1 i = τ.1 i) := by
      intro a b
      rw [bind_eta]
      unfold f_X11_wayOfClaim_b56
      by_cases hab : a = b
      · refine ⟨-1, σ, τ, ?_, ?_, rfl, fun _ _ _ => rfl, fun _ _ => rfl, fun _ _ _ => rfl⟩
        · unfold f_X5_wayBy
          rw [hpl, c_ways_t ll1 hP hp]
          simp only [bnd]
          rw [if_pos hab]
        · rw [if_neg (fun q => q hab)]
      · obtain ⟨k, σ1, τ1, hk, t1, t2, t3, t4, t5, t6⟩ := way_tell hL hU hp hw1 hw3 hpl c4 mw hab
        refine ⟨nI k, σ1, τ1, t1, ?_, t3, t4, t5, t6⟩
        rw [if_pos hab, r1, m_left66 (by omega) hm hs m2 s1]
        simp only [bnd]
        rw [r2, m_left66 (by omega) hm' hs' m2' s1']
        simp only [bnd]
        rw [st, ← l1, ← l1', t2]; rfl
    unfold f_X5_wayClaiming f_X5_wayClaiming_b23 f_X11_wayOfClaim f_X11_wayOfClaim_b30
    rcases hx with rfl | rfl
    · rw [if_neg (by simp), if_neg (by simp), if_pos (by decide), e1, r2, pm, V1]
      simp only [bnd]
      rw [if_neg (by simp)]
      exact key (nI j) v1
    · rw [if_pos (by decide), if_pos (by decide), e0, r1, pm, V0]
      simp only [bnd]
      rw [if_pos (by decide), if_neg (by simp)]
      exact key v0 (nI j)
theorem claim_loop {n P Q f g p w : Nat} {x y : Int32} (hp : p < P) (hw1 : 1 ≤ w) (hw3 : w ≤ 3) (hx : x = 0 ∨ x = 1) : ∀ (m k fu : Nat) (s : Int32) (σ τ : jT), k + m = w → m < fu → rAll n P Q σ τ → τ.1 4172 = 0 → rD P Q 66 f g σ τ → σ.1 3144 = nI p → σ.2 4 p = nI w → τ.2 66 0 = nI p → τ.2 67 p = nI w → rEq n (f_X10_claim_b61 fu x y (nI w) s (nI k) σ) (f_X11_claim_b45 fu x y s (nI k) τ) := by
  intro m
  induction m with
  | zero =>
    intro k fu s σ τ hk hfu h ht hD e1 e2 e3 e4
    obtain ⟨fu, rfl⟩ : ∃ f', fu = f' + 1 := ⟨fu - 1, by omega⟩
    have hP := h.2.1.1
    have hle : nI w ≤ nI k := (ja_le (by omega) (by omega)).mpr (by omega)
    rw [f_X10_claim_b61, f_X11_claim_b45, e3, if_pos (ja_in (by omega) (by omega)), nI_clamp (by omega), e4, if_pos hle, if_pos hle]
    exact rEq_same h rfl rfl rfl rfl ht
  | succ m ih =>
    intro k fu s σ τ hk hfu h ht hD e1 e2 e3 e4
    obtain ⟨fu, rfl⟩ : ∃ f', fu = f' + 1 := ⟨fu - 1, by omega⟩
    obtain ⟨-, hL, ⟨hQ, -⟩, -, hU, -⟩ := id h
    have hP := h.2.1.1
    have hle : ¬ nI w ≤ nI k := fun q => by rw [ja_le (by omega) (by omega)] at q; omega
    obtain ⟨a, σ1, τ1, t1, t2, t3, t4, t5, t6⟩ := cl_66 (j := k) hQ hL hU hD hp hw1 hw3 e1 e2 hx
    have q1 : qC σ σ1 := ⟨fun i _ => by rw [t3], fun o h1 h2 _ => t4 o h1 h2⟩
    have q2 : qM τ τ1 := ⟨fun i h1 h2 _ _ _ => t6 i h1 h2, fun o _ h2 => t5 o h2⟩
    have h1 := q_all h q1 q2
    have ht1 := q_th q2 ht
    have hD1 : rD P Q 66 f g σ1 τ1 := rD_fr hQ hD (t4 6 (by decide) (by decide)) (t4 50 (by decide) (by decide)) (t4 51 (by decide) (by decide)) (t4 52 (by decide) (by decide)) (t4 53 (by decide) (by decide)) (t4 54 (by decide) (by decide)) (by rw [t3]) (by rw [t3]) (by rw [t3]) (t5 69 (by decide)) (t5 70 (by decide)) (t5 66 (by decide))
    rw [f_X10_claim_b61, f_X11_claim_b45, e3, if_pos (ja_in (by omega) (by omega)), nI_clamp (by omega), e4, if_neg hle, if_neg hle, t1, t2]
    unfold f_X10_claim_b90 f_X11_claim_b81
    simp only [bnd]
    rw [← nI_succ]
    by_cases hay : a = y
    · rw [if_neg (fun q => q hay), if_neg (fun q => q hay)]
      exact ih (k + 1) fu _ σ1 τ1 (by omega) (by omega) h1 ht1 hD1 (by rw [t3]; exact e1) (by rw [t4 4 (by decide) (by decide)]; exact e2) (by rw [t5 66 (by decide)]; exact e3) (by rw [t5 67 (by decide)]; exact e4)
    · rw [if_pos hay, if_pos hay, Int32.or_zero]
      exact ih (k + 1) fu _ σ1 τ1 (by omega) (by omega) h1 ht1 hD1 (by rw [t3]; exact e1) (by rw [t4 4 (by decide) (by decide)]; exact e2) (by rw [t5 66 (by decide)]; exact e3) (by rw [t5 67 (by decide)]; exact e4)
theorem eq_claim {n P Q : Nat} {σ τ : jT} (h : rAll n P Q σ τ) (x y : Int32) : rEq n (f_X10_claim x y σ) (f_X11_claim x y τ) := by
  have h0 : rAll n P Q σ (gs τ 4172 0) := rAll_core h rfl rfl
  obtain ⟨-, ⟨hP, l1, l2, -, lw, l0⟩, ⟨hQ, -⟩, ⟨⟨⟨hh, hpl, nh1, nh2⟩, -⟩, -⟩, -⟩ := id h0
  unfold f_X10_claim f_X11_claim f_X8_horse
  rcases vd_cases x (n := 2) (by omega) with ⟨k, hk, rfl⟩ | hx
  · have hle : nI k ≤ 1 := (ja_le (a := k) (b := 1) (by omega) (by omega)).mpr (by omega)
    have hin : f_X11_in (nI k) 0 1 (gs τ 4172 0) = some (1, gs τ 4172 0) := m_in_t (a := 0) (b := 1) (by omega) (by omega) (by omega)
    rw [if_neg (nI_pos (by omega)), if_pos hle, hin]
    simp only [bnd]
    rw [if_pos (by decide), nh1]
    rcases rid_both h0 with ⟨hun, b1, b2⟩ | ⟨hm, b1, b2⟩
    · have hw : ∃ w, f_X3_waysAt (nI hh) σ = some (w, σ) := by
        rcases hpl with hpl | ⟨rfl, rfl⟩
        · exact ⟨_, c_ways_t l1 hP hpl⟩
        · exact ⟨_, c_ways_f l1 (Or.inr (by decide))⟩
      obtain ⟨w, hw⟩ := hw
      rw [hw, b2]
      simp only [bnd]
      rw [b1]
      simp only [bnd]
      rw [if_pos (by simp), if_pos (by simp)]
      exact rEq_same h0 rfl rfl rfl rfl rfl
    · rw [b2]
      simp only [bnd]
      rw [if_neg (show ¬ (1 : Int32) = 0 by decide), nh2]
      unfold f_X11_isWay
      rcases hpl with hpl | ⟨rfl, rfl⟩
      · obtain ⟨w, hw3, cw, mw, -⟩ := lw hh hpl
        rw [c_ways_t l1 hP hpl, cw, if_pos (ja_in (by omega) (by omega)), nI_clamp (by omega), mw]
        simp only [bnd]
        rw [b1]
        simp only [bnd]
        rw [if_neg (show ¬ (1 : Int32) = 0 by decide)]
        rcases vd_cases y (n := w) (by omega) with ⟨j, hj, rfl⟩ | hy
        · rw [m_inp hj (by omega), if_neg (nI_pos (by omega)), if_pos ((ja_lt (by omega) (by omega)).mpr hj)]
          simp only [bnd]
          rw [if_pos (by decide)]
          simp only [bnd]
          rw [if_pos (by decide)]
          obtain ⟨σ1, f, g, p, r1, r2, -, r3, r4, r5, hp, p1, p2, hf, hg, hfg, e25, e26, pf, pg⟩ := rs_D (rG_of h0) hm
          rw [r1]
          simp only [bnd]
          exact claim_loop (f := f) (g := g) (p := hh) (w := w) hpl (by omega) hw3 (v01 ⟨k, hk, rfl⟩) w 0 1000 0 σ1 _ (by omega) (by omega) (q_all h0 r2 (qM_refl _)) rfl r3 (r5.trans nh1) (by rw [r2.2 4 (by decide) (by decide) (by decide)]; exact cw) nh2 mw
        · rw [m_pred hy (by omega)]
          simp only [bnd]
          rw [iTo]
          simp only [bnd]
          rw [iNT]
          by_cases hy0 : y < 0
          · rw [if_pos hy0]
            exact rEq_same h0 rfl rfl rfl rfl rfl
          · have hyw : ¬ y < nI w := by
              rcases hy with z | z
              · exact absurd z hy0
              · exact Int32.not_lt.mpr z
            rw [if_neg hy0, if_neg hyw]
            exact rEq_same h0 rfl rfl rfl rfl rfl
      · have m0 : (gs τ 4172 0).2 67 0 = 0 := l0 rfl
        rw [c_ways_f l1 (Or.inr (by decide)), if_pos (ja_in (by omega) (by omega)), show (nI 0).toNatClampNeg = 0 from rfl, m0]
        simp only [bnd]
        rw [b1]
        simp only [bnd]
        rw [if_neg (show ¬ (1 : Int32) = 0 by decide)]
        have hin0 : f_X11_in y 0 (0 - 1) (gs τ 4172 0) = some (0, gs τ 4172 0) := m_pred (n := 0) (by
          by_cases hy0 : y < 0
          · exact Or.inl hy0
          · exact Or.inr (Int32.not_lt.mp hy0)) (by omega)
        rw [hin0]
        simp only [bnd]
        rw [iTo]
        simp only [bnd]
        rw [iNT]
        by_cases hy0 : y < 0
        · rw [if_pos hy0]
          exact rEq_same h0 rfl rfl rfl rfl rfl
        · rw [if_neg hy0, if_neg hy0]
          exact rEq_same h0 rfl rfl rfl rfl rfl
  · have hin : f_X11_in x 0 1 (gs τ 4172 0) = some (0, gs τ 4172 0) := by
      have e : (1 : Int32) = nI 2 - 1 := by decide
      rw [e]
      exact m_pred hx (by omega)
    rw [hin]
    simp only [bnd]
    rw [iNT]
    rcases hx with hx | hx
    · rw [if_pos hx]
      exact rEq_same h0 rfl rfl rfl rfl rfl
    · rw [Int32.le_iff_toInt_le, nI_toInt (by omega)] at hx
      have h1 : ¬ x < 0 := fun q => by
        rw [Int32.lt_iff_toInt_lt, Int32.toInt_zero] at q
        omega
      have h2 : ¬ x ≤ 1 := fun q => by
        rw [show (1 : Int32) = nI 1 from rfl, Int32.le_iff_toInt_le, nI_toInt (by omega)] at q
        omega
      rw [if_neg h1, if_neg h2]
      exact rEq_same h0 rfl rfl rfl rfl rfl
/-- a first STEP by what one claims, then on as they are -/
theorem cl_82 {P Q f g p w j : Nat} {x : Int32} {σ τ τ0 : jT} (hQ : Q ≤ 6) (hL : rL P σ τ) (hU : rU σ τ) (hD : rD P Q 82 f g σ τ) (hp : p < P) (hw1 : 1 ≤ w) (hw3 : w ≤ 3) (hpl : σ.1 3144 = nI p) (c4 : σ.2 4 p = nI w) (hx : x = 0 ∨ x = 1) (hly : f_X11_lay_66_82 0 τ0 = some (0, τ)) :
    (f_X5_stepClaiming x (nI j) σ = some (0, gs σ 3148 1) ∧ f_X11_claims x (nI j) τ0 = some (0, τ)) ∨ ∃ σ' τ', f_X5_stepClaiming x (nI j) σ = some (1, σ') ∧ f_X11_claims x (nI j) τ0 = some (1, τ') ∧ stGo P Q 82 f g σ τ σ' τ' := by
  obtain ⟨v0, v1, e0, e1, -, hc⟩ := look_82 hQ hL hD
  obtain ⟨hf, hg, hfg, w0, w1, r1, r2, -⟩ := id hD
  obtain ⟨hP, ll1, -⟩ := id hL
  rcases hc with ⟨-, -, hc, -⟩ | ⟨p', w', hp', hw1', hw3', pc, pm, cw, mw, V0, V1, -⟩
  · rw [hpl, c_ways_t ll1 hP hp, c4] at hc
    have := (Prod.mk.inj (Option.some.inj hc)).1
    exact absurd this (nI_ne0 (by omega) (by omega))
  · have hpp : p' = p := (ja_eq (by omega) (by omega)).mp (pc.symm.trans hpl)
    subst hpp
    have hww : w' = w := (ja_eq (by omega) (by omega)).mp (cw.symm.trans c4)
    subst hww
    have key : ∀ a b : Int32, ((f_X5_wayBy a b σ).bind (fun q3 => some (q3.1, q3.2))).bind (fun q1 => (f_X5_goBy q1.1 q1.2).bind fun q2 => if q2.1 = 0 ∨ q2.1 = 1 then some (q2.1, q2.2) else none) = some (0, gs σ 3148 1) ∧ f_X11_claims_b68 a b τ = some (0, τ) ∨ ∃ σ' τ', ((f_X5_wayBy a b σ).bind (fun q3 => some (q3.1, q3.2))).bind (fun q1 => (f_X5_goBy q1.1 q1.2).bind fun q2 => if q2.1 = 0 ∨ q2.1 = 1 then some (q2.1, q2.2) else none) = some (1, σ') ∧ f_X11_claims_b68 a b τ = some (1, τ') ∧ stGo P Q 82 f g σ τ σ' τ' := by
      intro a b
      rw [bind_eta]
      unfold f_X11_claims_b68
      by_cases hab : a = b
      · left
        refine ⟨?_, ?_⟩
        · unfold f_X5_wayBy f_X5_goBy
          rw [hpl, c_ways_t ll1 hP hp]
          simp only [bnd]
          rw [if_pos hab]
          simp only [bnd]
          rw [hpl, c_leads_f ll1 hP hp c4 (Or.inl (by decide))]
          rfl
        · rw [if_neg (fun q => q hab)]
      · right
        obtain ⟨k, σ1, σ2, τ2, hk, t1, t2, t3, t4⟩ := move_82 hQ hL hU hD hp hw1 hw3 hpl c4 mw hab
        refine ⟨σ2, τ2, ?_, ?_, t4⟩
        · rw [t1]
          simp only [bnd]
          rw [t2]; rfl
        · rw [if_pos hab, t3]; rfl
    unfold f_X5_stepClaiming f_X5_wayClaiming f_X5_wayClaiming_b23 f_X11_claims f_X11_claims_b42
    rw [hly]
    simp only [bnd]
    rcases hx with rfl | rfl
    · rw [if_neg (show ¬ ¬ (0 : Int32) = 0 from fun q => q rfl), if_neg (show ¬ ¬ (0 : Int32) = 0 from fun q => q rfl), if_pos (show ¬ (0 : Int32) = 1 by decide), e1, r2, pm, V1]
      simp only [bnd, iNT]
      exact key (nI j) v1
    · rw [if_pos (show ¬ (1 : Int32) = 0 by decide), if_pos (show ¬ (1 : Int32) = 0 by decide), e0, r1, pm, V0]
      simp only [bnd]
      rw [if_pos (show ¬ (1 : Int32) = 0 by decide), iNT]
      exact key v0 (nI j)
theorem lie_go {P Q f g : Nat} {t : Int32} (hQ : Q ≤ 6) (kk : Int32 → Int32 → Int32 → Int32 → Int32 → jT → Option (Int32 × jT)) (x1 x3 x4 x5 : Int32) : ∀ (m k fu : Nat) (σ τ : jT), k + m = 200 → m < fu → rL P σ τ → rU σ τ → rD P Q 82 f g σ τ → σ.1 3146 = nI k →
    ∃ (b : Int32) (k' : Nat) (σ' τ' : jT), k' ≤ 200 ∧ f_X5_comesTo_b5 fu t (nI k) σ = some (b, σ') ∧ f_X11_lie_b77 kk fu x1 t x3 x4 x5 (nI k) τ = f_X11_lie_b112 kk x1 t x3 x4 x5 (nI k') τ' ∧ qC σ σ' ∧ qM τ τ' ∧ σ'.1 3146 = nI k' ∧ ((b = 0 ∧ ¬ τ'.2 82 0 = t) ∨ (b = 1 ∧ τ'.2 82 0 = t)) := by
  intro m
  induction m with
  | zero =>
    intro k fu σ τ hk hfu hL hU hD c1
    obtain ⟨fu, rfl⟩ : ∃ f', fu = f' + 1 := ⟨fu - 1, by omega⟩
    obtain ⟨-, -, -, -, -, -, -, ⟨q, hq, pc, pm⟩, -⟩ := id hD
    have hk2 : k = 200 := by omega
    subst hk2
    rw [f_X5_comesTo_b5, f_X11_lie_b77, if_pos (show (200 : Int32) ≤ nI 200 by decide), pm]
    unfold f_X5_comesTo_b33
    rw [pc]
    by_cases ht : nI q = t
    · rw [if_neg (fun q => q ht), if_pos ht]
      exact ⟨1, 200, σ, τ, by omega, rfl, rfl, qC_refl σ, qM_refl τ, c1, Or.inr ⟨rfl, pm.trans ht⟩⟩
    · rw [if_pos ht, if_neg ht, if_pos (show (200 : Int32) ≤ nI 200 by decide)]
      exact ⟨0, 200, σ, τ, by omega, rfl, rfl, qC_refl σ, qM_refl τ, c1, Or.inl ⟨rfl, fun z => ht (pm.symm.trans z)⟩⟩
  | succ m ih =>
    intro k fu σ τ hk hfu hL hU hD c1
    obtain ⟨fu, rfl⟩ : ∃ f', fu = f' + 1 := ⟨fu - 1, by omega⟩
    obtain ⟨-, -, -, -, -, -, -, ⟨q, hq, pc, pm⟩, -⟩ := id hD
    have h200 : ¬ (200 : Int32) ≤ nI k := fun q => by rw [show (200 : Int32) = nI 200 from rfl, ja_le (by omega) (by omega)] at q; omega
    rw [f_X5_comesTo_b5, f_X11_lie_b77, if_neg h200, pm, pc]
    by_cases ht : nI q = t
    · unfold f_X5_comesTo_b33
      rw [if_pos ht, if_pos ht, pc, if_neg (fun q => q ht)]
      exact ⟨1, k, σ, τ, by omega, rfl, rfl, qC_refl σ, qM_refl τ, c1, Or.inr ⟨rfl, pm.trans ht⟩⟩
    · rw [if_neg ht, if_neg ht, if_neg h200]
      rcases step_82 hQ hL hU hD with ⟨e1, e2, e3⟩ | ⟨σ1, τ1, e1, e2, -, hst⟩
      · rw [e1, e2]
        simp only [bnd]
        unfold f_X5_comesTo_b33
        have pc' : (gs σ 3148 1).1 3144 = nI q := pc
        rw [iT, iT, pc', if_pos ht]
        exact ⟨0, k, gs σ 3148 1, τ, by omega, rfl, rfl, ⟨fun i hi => if_neg (by omega), fun _ _ _ _ => rfl⟩, qM_refl τ, c1, Or.inl ⟨rfl, fun z => ht (pm.symm.trans z)⟩⟩
      · rw [e1, e2]
        simp only [bnd]
        rw [if_neg (by decide), if_neg (by decide), ← nI_succ]
        obtain ⟨s1, s2, s3, s4, s5, s6, -⟩ := hst
        obtain ⟨b, k', σ', τ', g0, g1, g2, g3, g4, g5, g6⟩ := ih (k + 1) fu σ1 τ1 (by omega) (by omega) (fr_L (by decide) hL s1 s2) (fr_U (by decide) hU s1 s2) s3 (by rw [s6, c1, nI_succ])
        exact ⟨b, k', σ', τ', g0, g1, g2, qC_trans (frC_q s1) g3, qM_trans (frM_q s2) g4, g5, g6⟩
theorem lie_loop {n P Q p w t : Nat} {x : Int32} (hp : p < P) (hw3 : w ≤ 3) (hx : x = 0 ∨ x = 1) : ∀ (m k fu : Nat) (a b c d : Int32) (σ τ : jT), k + m = w → m < fu → rAll n P Q σ τ → τ.1 4172 = 0 → σ.2 13 24 = nI p → σ.2 4 p = nI w → τ.2 66 0 = nI p → τ.2 67 p = nI w → ((a = 201 ∧ b = -2 ∧ c = -2 ∧ d = 1000000) ∨ ∃ s v, s ≤ 200 ∧ v < 3 ∧ a = nI s ∧ b = nI v ∧ c = nI v ∧ d = nI s) → (¬ σ.2 13 25 = -1) → rEq n (f_X10_lie_b46 fu x (nI t) a b (nI k) σ) (f_X11_lie_b45 fu x (nI t) c d (nI k) τ) := by
  intro m
  induction m with
  | zero =>
    intro k fu a b c d σ τ hk hfu h ht e1 e2 e3 e4 hI hmt
    obtain ⟨fu, rfl⟩ : ∃ f', fu = f' + 1 := ⟨fu - 1, by omega⟩
    obtain ⟨-, ⟨hP, l1, -⟩, -⟩ := id h
    have hle : nI w ≤ nI k := (ja_le (by omega) (by omega)).mpr (by omega)
    rw [f_X10_lie_b46, f_X11_lie_b45]
    unfold f_X8_horse
    simp only [bnd]
    rw [e1, c_ways_t l1 hP hp, e2, e3, if_pos (ja_in (by omega) (by omega)), nI_clamp (by omega), e4]
    simp only [bnd]
    rw [if_pos hle, if_pos hle]
    rcases hI with ⟨rfl, rfl, rfl, rfl⟩ | ⟨s, v, hs, hv, rfl, rfl, rfl, rfl⟩
    · rw [if_pos rfl, if_neg (by decide)]
      exact rEq_same h rfl rfl rfl rfl ht
    · have y : ¬ nI v = -2 := fun q => by
        have := congrArg Int32.toInt q
        rw [nI_toInt (by omega), show (-2 : Int32).toInt = -2 by decide] at this
        omega
      have et := m_tell1 τ (nI s)
      unfold mRow0 at et
      rw [if_neg y, if_pos (show (0 : Int32) ≤ nI v from Int32.not_lt.mp (nI_pos (by omega))), c_tell1, et]
      exact rEq_row h rfl rfl rfl rfl (rW1 _ _ _) ht
  | succ m ih =>
    intro k fu a b c d σ τ hk hfu h ht e1 e2 e3 e4 hI hmt
    obtain ⟨fu, rfl⟩ : ∃ f', fu = f' + 1 := ⟨fu - 1, by omega⟩
    obtain ⟨-, ⟨hP, l1, -⟩, ⟨hQ, -⟩, -⟩ := id h
    have hle : ¬ nI w ≤ nI k := fun q => by rw [ja_le (by omega) (by omega)] at q; omega
    rw [f_X10_lie_b46, f_X11_lie_b45]
    unfold f_X8_horse
    simp only [bnd]
    rw [e1, c_ways_t l1 hP hp, e2, e3, if_pos (ja_in (by omega) (by omega)), nI_clamp (by omega), e4]
    simp only [bnd]
    rw [if_neg hle, if_neg hle]
    have hm : ∃ f g, f < Q ∧ g < Q ∧ f ≠ g ∧ σ.2 13 25 = nI f ∧ σ.2 13 26 = nI g ∧ σ.2 13 (6 + f) = σ.2 13 24 ∧ σ.2 13 (6 + g) = σ.2 13 24 := by
      rcases rid_both h with ⟨hun, -⟩ | ⟨hm, -⟩
      · exact absurd hun hmt
      · exact hm
    obtain ⟨σ1, f, g, p', r1, r2, r3, -, r4, r5, -⟩ := rs_D (rG_of h) hm
    have h1 : rAll n P Q σ1 (lyT τ 66 82 0 28) := q_all h r2 (ly_q τ)
    obtain ⟨-, hL1, -, -, hU1, -⟩ := id h1
    rw [r1]
    simp only [bnd]
    -- what is the same in all that is left by a try
    have again : ∀ (a b c d : Int32) (σ' τ' : jT), qC σ σ' → qM τ τ' → ((a = 201 ∧ b = -2 ∧ c = -2 ∧ d = 1000000) ∨ ∃ s v, s ≤ 200 ∧ v < 3 ∧ a = nI s ∧ b = nI v ∧ c = nI v ∧ d = nI s) → rEq n (f_X10_lie_b46 fu x (nI t) a b (nI (k + 1)) σ') (f_X11_lie_b45 fu x (nI t) c d (nI (k + 1)) τ') := by
      intro a b c d σ' τ' z1 z2 z3
      refine ih (k + 1) fu a b c d σ' τ' (by omega) (by omega) (q_all h z1 z2) (q_th z2 ht) ?_ ?_ ?_ ?_ z3 ?_
      · rw [z1.2 13 (by decide) (by decide) (by decide)]; exact e1
      · rw [z1.2 4 (by decide) (by decide) (by decide)]; exact e2
      · rw [z2.2 66 (by decide) (by decide)]; exact e3
      · rw [z2.2 67 (by decide) (by decide)]; exact e4
      · rw [z1.2 13 (by decide) (by decide) (by decide)]; exact hmt
    rcases cl_82 (j := k) (w := w) hQ hL1 hU1 r3 hp (by omega) hw3 (r5.trans e1) (by rw [r2.2 4 (by decide) (by decide) (by decide)]; exact e2) hx (m_lay82 τ) with ⟨t1, t2⟩ | ⟨σ2, τ2, t1, t2, hst⟩
    · rw [t1, t2]
      simp only [bnd]
      rw [iT, iNT]
      unfold f_X10_lie_b100 f_X10_lie_b101 f_X10_lie_b131 f_X11_lie_b139
      rw [if_pos rfl, ← nI_succ]
      exact again a b c d _ _ (qC_trans r2 ⟨fun i hi => if_neg (by omega), fun _ _ _ _ => rfl⟩) (ly_q τ) hI
    · rw [t1, t2]
      simp only [bnd]
      rw [if_neg (show ¬ (1 : Int32) = 0 by decide), if_pos (show ¬ (1 : Int32) = 0 by decide)]
      obtain ⟨s1, s2, s3, s4, s5, s6, -⟩ := hst
      have y6 : σ2.1 3146 = nI 1 := by rw [s6, r4.1]; rfl
      obtain ⟨b', k', σ3, τ3, g0, g1, g2, g3, g4, g5, g6⟩ := lie_go (t := nI t) hQ (f_X11_lie_b45 fu) x c d (nI k) 199 1 1000 σ2 τ2 (by omega) (by omega) (fr_L (by decide) hL1 s1 s2) (fr_U (by decide) hU1 s1 s2) s3 y6
      have g2' : f_X11_lie_b77 (f_X11_lie_b45 fu) 1000 x (nI t) c d (nI k) 1 τ2 = _ := g2
      unfold f_X5_comesTo
      rw [y6, g1, g2']
      simp only [bnd]
      have zc : qC σ σ3 := qC_trans r2 (qC_trans (frC_q s1) g3)
      have zm : qM τ τ3 := qM_trans (ly_q τ) (qM_trans (frM_q s2) g4)
      unfold f_X10_lie_b100 f_X10_lie_b101 f_X10_lie_b131 f_X11_lie_b112 f_X11_lie_b139
      rw [← nI_succ]
      rcases g6 with ⟨rfl, hne⟩ | ⟨rfl, heq⟩
      · rw [if_pos rfl, if_pos rfl, if_pos hne]
        exact again a b c d _ _ zc zm hI
      · rw [if_neg (show ¬ (1 : Int32) = 0 by decide), if_neg (show ¬ (1 : Int32) = 0 by decide), if_neg (fun q => q heq)]
        unfold f_X5_taken
        simp only [bnd]
        rw [g5]
        rcases hI with ⟨rfl, rfl, rfl, rfl⟩ | ⟨s, v, hs, hv, rfl, rfl, rfl, rfl⟩
        · have y1 : ¬ (201 : Int32) ≤ nI k' := fun q => by
            rw [show (201 : Int32) = nI 201 from rfl, ja_le (by omega) (by omega)] at q; omega
          have y2 : nI k' < (1000000 : Int32) := (ja_lt (b := 1000000) (by omega) (by omega)).mpr (by omega)
          rw [if_neg y1, if_pos y2]
          exact again _ _ _ _ _ _ zc zm (Or.inr ⟨k', k, g0, by omega, rfl, rfl, rfl, rfl⟩)
        · by_cases hsk : s ≤ k'
          · rw [if_pos ((ja_le (by omega) (by omega)).mpr hsk), if_neg (fun q => by rw [ja_lt (by omega) (by omega)] at q; omega)]
            exact again _ _ _ _ _ _ zc zm (Or.inr ⟨s, v, hs, hv, rfl, rfl, rfl, rfl⟩)
          · rw [if_neg (fun q => by rw [ja_le (by omega) (by omega)] at q; omega), if_pos ((ja_lt (by omega) (by omega)).mpr (by omega))]
            exact again _ _ _ _ _ _ zc zm (Or.inr ⟨k', k, g0, by omega, rfl, rfl, rfl, rfl⟩)
theorem eq_lie {n P Q : Nat} {σ τ : jT} (h : rAll n P Q σ τ) (x y : Int32) : rEq n (f_X10_lie x y σ) (f_X11_lie x y τ) := by
  have h0 : rAll n P Q σ (gs τ 4172 0) := rAll_core h rfl rfl
  obtain ⟨-, ⟨hP, l1, l2, -, lw, l0⟩, ⟨hQ, -⟩, ⟨⟨⟨hh, hpl, nh1, nh2⟩, -⟩, -⟩, -⟩ := id h0
  unfold f_X10_lie f_X11_lie
  rcases vd_cases x (n := 2) (by omega) with ⟨k, hk, rfl⟩ | hx
  · have hle : ¬ (1 : Int32) < nI k := fun q => by rw [show (1 : Int32) = nI 1 from rfl, ja_lt (by omega) (by omega)] at q; omega
    have hin : f_X11_in (nI k) 0 1 (gs τ 4172 0) = some (1, gs τ 4172 0) := m_in_t (a := 0) (b := 1) (by omega) (by omega) (by omega)
    rw [if_neg (nI_pos (by omega)), if_neg hle, hin]
    simp only [bnd]
    rw [if_neg (show ¬ (1 : Int32) = 0 by decide)]
    rcases vd_cases y (n := P) (by omega) with ⟨t, ht, rfl⟩ | hy
    · rw [c_hp_t l1 hP ht, m_isPlace_t l2 hP ht]
      simp only [bnd]
      rw [if_pos (show ¬ (1 : Int32) = 0 by decide), if_pos (show ¬ (1 : Int32) = 0 by decide)]
      rcases rid_both h0 with ⟨hun, b1, b2⟩ | ⟨⟨f, g, hf, hg, hfg, e25, hm⟩, b1, b2⟩
      · rw [b1, b2]
        exact rEq_same h0 rfl rfl rfl rfl rfl
      · rw [b1, b2]
        simp only [bnd]
        rw [if_pos (show ¬ (1 : Int32) = 0 by decide), if_pos (show ¬ (1 : Int32) = 0 by decide)]
        have hhP : hh < P := by rcases hpl with z | ⟨-, z⟩ <;> omega
        obtain ⟨w, hw3, cw, mw, -⟩ := lw hh hhP
        exact lie_loop (p := hh) (w := w) (t := t) hhP hw3 (v01 ⟨k, hk, rfl⟩) w 0 1000 _ _ _ _ σ _ (by omega) (by omega) h0 rfl nh1 cw nh2 mw (Or.inl ⟨rfl, rfl, rfl, rfl⟩) (by rw [e25]; exact ja_neg1 (by omega))
    · rw [c_hp_f l1 hy, m_isPlace_f l2 hP hy]
      exact rEq_same h0 rfl rfl rfl rfl rfl
  · have hin : f_X11_in x 0 1 (gs τ 4172 0) = some (0, gs τ 4172 0) := by
      have e : (1 : Int32) = nI 2 - 1 := by decide
      rw [e]
      exact m_pred hx (by omega)
    rw [hin]
    simp only [bnd]
    rw [iT]
    rcases hx with hx | hx
    · rw [if_pos hx]
      exact rEq_same h0 rfl rfl rfl rfl rfl
    · rw [Int32.le_iff_toInt_le, nI_toInt (by omega)] at hx
      have h1 : ¬ x < 0 := fun q => by
        rw [Int32.lt_iff_toInt_lt, Int32.toInt_zero] at q
        omega
      have h2 : (1 : Int32) < x := by
        rw [show (1 : Int32) = nI 1 from rfl, Int32.lt_iff_toInt_lt, nI_toInt (by omega)]
        omega
      rw [if_neg h1, if_pos h2]
      exact rEq_same h0 rfl rfl rfl rfl rfl
