/-! ===== deal ===== -/
theorem rS_deal {P Q : Nat} {dg cn mn : Nat → Int32} (hQ : Q ≤ 6) (h : rS P Q dg cn mn) {r g : Nat} (hr : r < Q) (hg : g < Q) (hne : r ≠ g) : rS P Q dg (jx_up (jx_up cn (18 + r) (cn (18 + g))) (18 + g) (cn (18 + r))) (jx_up (jx_up mn (22 + r) (mn (22 + g))) (22 + g) (mn (22 + r))) := by
  obtain ⟨h1, h2, h3, h4, h5, h6⟩ := h
  have e1 : ∀ k, k ≠ 18 + r → k ≠ 18 + g → jx_up (jx_up cn (18 + r) (cn (18 + g))) (18 + g) (cn (18 + r)) k = cn k := fun k a b => by rw [ju_ne _ _ b, ju_ne _ _ a]
  have e2 : ∀ k, k ≠ 22 + r → k ≠ 22 + g → jx_up (jx_up mn (22 + r) (mn (22 + g))) (22 + g) (mn (22 + r)) k = mn k := fun k a b => by rw [ju_ne _ _ b, ju_ne _ _ a]
  unfold rS
  rw [e1 24 (by omega) (by omega), e1 25 (by omega) (by omega), e1 26 (by omega) (by omega), e1 27 (by omega) (by omega), e2 0 (by omega) (by omega), e2 1 (by omega) (by omega), e2 2 (by omega) (by omega), e2 3 (by omega) (by omega)]
  refine ⟨h1, h2, h3, h4, ?_, fun s hs => ?_⟩
  · rcases h5 with h5 | ⟨f, t, k1, k2, k3, k4, k5, k6, k7⟩
    · exact Or.inl h5
    · exact Or.inr ⟨f, t, k1, k2, k3, k4, k5, by rw [e1 _ (by omega) (by omega)]; exact k6, by rw [e1 _ (by omega) (by omega)]; exact k7⟩
  · obtain ⟨a1, a2, a3, a4⟩ := h6 s hs
    rw [e1 s (by omega) (by omega), e1 (6 + s) (by omega) (by omega), e1 (12 + s) (by omega) (by omega), e2 (4 + s) (by omega) (by omega), e2 (10 + s) (by omega) (by omega), e2 (16 + s) (by omega) (by omega)]
    refine ⟨a1, a2, a3, ?_⟩
    by_cases hsr : s = r
    · subst hsr
      obtain ⟨-, -, -, a4'⟩ := h6 g hg
      rw [ju_ne _ _ (by omega), ju_eq, ju_ne _ _ (by omega), ju_eq]
      exact a4'
    · by_cases hsg : s = g
      · subst hsg
        obtain ⟨-, -, -, a4'⟩ := h6 r hr
        rw [ju_eq, ju_eq]
        exact a4'
      · rw [e1 (18 + s) (by omega) (by omega), e2 (22 + s) (by omega) (by omega)]
        exact a4
theorem deal_loop {P r g j1 j2 M1 M2 : Nat} {σ τ : jT} (hP : P ≤ 10) (l1 : σ.1 195 = nI P) (l2 : τ.1 4161 = nI P) (hr : r < 6) (hg : g < 6) (hne : r ≠ g) (hj1 : j1 < 6) (hj2 : j2 < 6) (hM1 : M1 < 2 ^ 20) (hM2 : M2 < 2 ^ 20) (a1 : σ.2 13 (18 + r) = nI M1) (a2 : σ.2 13 (18 + g) = nI M2) (b1 : τ.2 66 (22 + r) = nI j1) (b2 : τ.2 66 (22 + g) = nI j2) (d1 : ∀ p, p < P → τ.2 70 (10 * j1 + p) = nI (M1 / 4 ^ p % 4)) (d2 : ∀ p, p < P → τ.2 70 (10 * j2 + p) = nI (M2 / 4 ^ p % 4)) :
    ∀ (m k fu c : Nat), k + m = P → m < fu → ∃ c', c' ≤ c + m ∧ f_X10_changeMaps_b74 fu (nI r) (nI g) (nI c) (nI k) σ = some (nI c', gA (gA σ 13 (18 + r) (σ.2 13 (18 + g))) 13 (18 + g) (σ.2 13 (18 + r))) ∧ f_X11_goDeal_b5 fu (nI r) (nI g) (nI c) (nI k) τ = some (nI c', gA (gA τ 66 (22 + r) (τ.2 66 (22 + g))) 66 (22 + g) (τ.2 66 (22 + r))) := by
  have e22r : (22 : Int32) + nI r = nI (22 + r) := ja_add 22 r
  have e22g : (22 : Int32) + nI g = nI (22 + g) := ja_add 22 g
  intro m
  induction m with
  | zero =>
    intro k fu c hk hfu
    obtain ⟨fu, rfl⟩ : ∃ f', fu = f' + 1 := ⟨fu - 1, by omega⟩
    have hle : nI P ≤ nI k := (ja_le (by omega) (by omega)).mpr (by omega)
    refine ⟨c, by omega, ?_, ?_⟩
    · rw [f_X10_changeMaps_b74]
      unfold f_X3_places f_X8_changeMaps
      simp only [bnd]
      rw [l1, if_pos hle, c_mapOf hr]
      simp only [bnd]
      rw [c_mapOf hg]
      simp only [bnd]
      have z : ∀ (v : Int32) (σ : jT) (t : Nat), t < 6 → f_X8_set 18 (nI t) v σ = some (0, gA σ 13 (18 + t) v) := fun v σ t ht => c_set (a := 18) (by omega) ht
      rw [z _ _ _ hr]
      simp only [bnd]
      rw [z _ _ _ hg]
      rfl
    · rw [f_X11_goDeal_b5, l2, if_pos hle, e22r, e22g, if_pos (ja_in (by omega) (by omega)), if_pos (ja_in (by omega) (by omega)), nI_clamp (by omega), nI_clamp (by omega)]
  | succ m ih =>
    intro k fu c hk hfu
    obtain ⟨fu, rfl⟩ : ∃ f', fu = f' + 1 := ⟨fu - 1, by omega⟩
    have hle : ¬ nI P ≤ nI k := fun q => by rw [ja_le (by omega) (by omega)] at q; omega
    have e1 : (10 : Int32) * nI j1 + nI k = nI (10 * j1 + k) := by rw [show (10 : Int32) = nI 10 from rfl, pk_mul, ja_add]
    have e2 : (10 : Int32) * nI j2 + nI k = nI (10 * j2 + k) := by rw [show (10 : Int32) = nI 10 from rfl, pk_mul, ja_add]
    have dgc : ∀ (t M : Nat), t < 6 → M < 2 ^ 20 → σ.2 13 (18 + t) = nI M → f_X8_digit (nI t) (nI k) σ = some (nI (M / 4 ^ k % 4), σ) := by
      intro t M ht hM hm
      unfold f_X8_digit
      have h10 : ¬ (10 : Int32) ≤ nI k := fun q => by rw [show (10 : Int32) = nI 10 from rfl, ja_le (by omega) (by omega)] at q; omega
      rw [if_neg (nI_pos (by omega)), if_neg h10, c_mapOf ht, hm]
      simp only [bnd]
      rw [j_dig hM (by omega)]
    have hcl : f_X10_changeMaps_b74 (fu + 1) (nI r) (nI g) (nI c) (nI k) σ = if nI (M1 / 4 ^ k % 4) = nI (M2 / 4 ^ k % 4) then f_X10_changeMaps_b74 fu (nI r) (nI g) (nI c) (nI (k + 1)) σ else f_X10_changeMaps_b74 fu (nI r) (nI g) (nI (c + 1)) (nI (k + 1)) σ := by
      rw [f_X10_changeMaps_b74]
      unfold f_X3_places f_X10_changeMaps_b116
      simp only [bnd]
      rw [l1, if_neg hle, dgc r M1 hr hM1 a1]
      simp only [bnd]
      rw [dgc g M2 hg hM2 a2]
      simp only [bnd]
      rw [Int32.add_zero, ← nI_succ, ← nI_succ]
    have hml : f_X11_goDeal_b5 (fu + 1) (nI r) (nI g) (nI c) (nI k) τ = if ¬ nI (M1 / 4 ^ k % 4) = nI (M2 / 4 ^ k % 4) then f_X11_goDeal_b5 fu (nI r) (nI g) (nI (c + 1)) (nI (k + 1)) τ else f_X11_goDeal_b5 fu (nI r) (nI g) (nI c) (nI (k + 1)) τ := by
      rw [f_X11_goDeal_b5, l2, if_neg hle, e22r, e22g, if_pos (show jx_in (nI (22 + r)) 28 from ja_in (by omega) (by omega)), nI_clamp (n := 22 + r) (by omega), b1, e1, if_pos (show jx_in (nI (10 * j1 + k)) 60 from ja_in (by omega) (by omega)), if_pos (show jx_in (nI (22 + g)) 28 from ja_in (by omega) (by omega)), nI_clamp (n := 22 + g) (by omega), b2, e2, if_pos (show jx_in (nI (10 * j2 + k)) 60 from ja_in (by omega) (by omega)), nI_clamp (by omega), nI_clamp (by omega), d1 k (by omega), d2 k (by omega)]
      unfold f_X11_goDeal_b63
      rw [Int32.add_zero, ← nI_succ, ← nI_succ]
    rw [hcl, hml]
    by_cases hd : nI (M1 / 4 ^ k % 4) = nI (M2 / 4 ^ k % 4)
    · rw [if_pos hd, if_neg (fun q => q hd)]
      obtain ⟨c', hc', z1, z2⟩ := ih (k + 1) fu c (by omega) (by omega)
      exact ⟨c', by omega, z1, z2⟩
    · rw [if_neg hd, if_pos hd]
      obtain ⟨c', hc', z1, z2⟩ := ih (k + 1) fu (c + 1) (by omega) (by omega)
      exact ⟨c', by omega, z1, z2⟩
theorem atInn {r a : Nat} {u i : Int32} {τ : jT} (hr : r < 6) (hu : f_X11_isOn_66 (nI r) τ = some (u, τ)) (hi : f_X11_has (τ.1 4164) (nI a) τ = some (i, τ)) (ha : τ.2 66 (10 + r) = nI a) : f_X11_isAtInn (nI r) τ = some (if ¬ u = 0 then 0 else if i = 0 then 0 else 1, τ) := by
  have e10r : (10 : Int32) + nI r = nI (10 + r) := ja_add 10 r
  unfold f_X11_isAtInn
  rw [hu]
  simp only [bnd]
  by_cases h0 : u = 0
  · rw [if_neg (show ¬ ¬ u = 0 from fun q => q h0), if_neg (show ¬ ¬ u = 0 from fun q => q h0), e10r, if_pos (ja_in (by omega) (by omega)), nI_clamp (by omega), ha, hi]
    simp only [bnd]
    by_cases h1 : i = 0
    · rw [if_pos h1, if_pos h1]
    · rw [if_neg h1, if_neg h1]
  · rw [if_pos h0, if_pos h0]
theorem act_deal {n P Q : Nat} {σ τ : jT} (h : rAll n P Q σ τ) (x y : Int32) : rAct P Q (f_X10_changeMaps x y) (f_X11_refusesDeal x y) (f_X11_goDeal x y) σ τ := by
  obtain ⟨-, ⟨hP, l1, l2, -⟩, ⟨hQ, q1, q2, q3⟩, ⟨hS, hcap⟩, -⟩ := id h
  show (∃ c, c < 0 ∧ f_X10_changeMaps x y σ = some (c, σ) ∧ f_X11_refusesDeal x y τ = some (c, τ)) ∨ ∃ a σ', ¬ a < 0 ∧ f_X10_changeMaps x y σ = some (a, σ') ∧ f_X11_refusesDeal x y τ = some (0, τ) ∧ (coreCn σ', σ'.1) = (coreCn σ, σ.1) ∧ ∀ τ', (∀ o, o ≠ 79 → τ'.2 o = τ.2 o) → (∀ i, i ≠ 4189 → τ'.1 i = τ.1 i) → ∃ τ2, f_X11_goDeal x y τ' = some (a, τ2) ∧ coreMn τ2 = coreMn τ' ∧ (τ2.1, τ2.2 80, τ2.2 81) = (τ'.1, τ'.2 80, τ'.2 81) ∧ rN P Q σ' τ2
  unfold f_X10_changeMaps f_X11_refusesDeal
  rcases two_cases h x y with ⟨r, g, hr, hg, hne, rfl, rfl, t1, t2⟩ | ⟨t1, t2⟩
  · obtain ⟨-, ⟨a, ha, p1, p2⟩, -, ⟨j1, M1, hj1, hM1, m1, m2, dg1⟩⟩ := hS.2.2.2.2.2 r hr
    obtain ⟨-, ⟨b, hb, p3, p4⟩, -, ⟨j2, M2, hj2, hM2, m3, m4, dg2⟩⟩ := hS.2.2.2.2.2 g hg
    obtain ⟨u1, hu1, u2, u3⟩ := up_both h hr
    obtain ⟨v1, hv1, v2, v3⟩ := up_both h hg
    obtain ⟨i1, hi1, i2, i3⟩ := inn_both h ha
    obtain ⟨n1, hn1, n2, n3⟩ := inn_both h hb
    have e10r : (10 : Int32) + nI r = nI (10 + r) := ja_add 10 r
    have e10g : (10 : Int32) + nI g = nI (10 + g) := ja_add 10 g
    have alt : ∀ z, rPl P z → z < 2 ^ 31 := fun z hz => by rcases hz with w | w <;> omega
    rw [t1, t2]
    simp only [bnd]
    rw [if_pos (show ¬ (1 : Int32) = 0 by decide), if_pos (show ¬ (1 : Int32) = 0 by decide), c_placeOf (by omega), p1, atInn (by omega) u3 i3 p2]
    simp only [bnd]
    rw [c_placeOf (by omega), p3, atInn (by omega) v3 n3 p4]
    simp only [bnd]
    rw [e10r, e10g, if_pos (show jx_in (nI (10 + r)) 28 from ja_in (by omega) (by omega)), if_pos (show jx_in (nI (10 + g)) 28 from ja_in (by omega) (by omega)), nI_clamp (by omega), nI_clamp (by omega), p2, p4]
    by_cases hall : (a = b ∧ i1 = 1 ∧ u1 = 0 ∧ v1 = 0)
    · obtain ⟨rfl, rfl, rfl, rfl⟩ := hall
      obtain ⟨rfl, -⟩ := Prod.mk.inj (Option.some.inj (n3.symm.trans i3))
      right
      obtain ⟨c', hc', z1, -⟩ := deal_loop hP l1 l2 (show r < 6 by omega) (show g < 6 by omega) hne (show j1 < 6 by omega) (show j2 < 6 by omega) (j_pow4 hP hM1) (j_pow4 hP hM2) m2 m4 m1 m3 (fun p hp => (dg1 p hp).1) (fun p hp => (dg2 p hp).1) P 0 1000 0 (by omega) (by omega)
      refine ⟨nI c', gA (gA σ 13 (18 + r) (σ.2 13 (18 + g))) 13 (18 + g) (σ.2 13 (18 + r)), nI_pos (by omega), ?_, ?_, rfl, fun τ' g1 g2 => ?_⟩
      · rw [if_neg (fun q => q rfl), i2]
        simp only [bnd]
        rw [if_neg (show ¬ (1 : Int32) = 0 by decide), u2]
        simp only [bnd]
        rw [iNT, v2]
        simp only [bnd]
        rw [iT]
        exact z1
      · rw [if_neg (by decide), if_neg (by decide), if_neg (fun q => q rfl)]
      · obtain ⟨c2, hc2, y1, y2⟩ := deal_loop (σ := σ) (τ := τ') hP l1 (by rw [g2 4161 (by decide)]; exact l2) (show r < 6 by omega) (show g < 6 by omega) hne (show j1 < 6 by omega) (show j2 < 6 by omega) (j_pow4 hP hM1) (j_pow4 hP hM2) m2 m4 (by rw [g1 66 (by decide)]; exact m1) (by rw [g1 66 (by decide)]; exact m3) (fun p hp => by rw [g1 70 (by decide)]; exact (dg1 p hp).1) (fun p hp => by rw [g1 70 (by decide)]; exact (dg2 p hp).1) P 0 1000 0 (by omega) (by omega)
        have hcc : nI c2 = nI c' := by
          rw [y1] at z1
          exact (Prod.mk.inj (Option.some.inj z1)).1
        refine ⟨gA (gA τ' 66 (22 + r) (τ'.2 66 (22 + g))) 66 (22 + g) (τ'.2 66 (22 + r)), ?_, rfl, rfl, ?_, fun s hs => ?_⟩
        · rw [← hcc]
          exact y2
        · show rS P Q (τ'.2 70) _ _
          rw [ju_gA, ju_gA, ju_gA, ju_gA, g1 66 (by decide), g1 70 (by decide)]
          exact rS_deal hQ hS hr hg hne
        · show (if 13 = 13 ∧ s = 18 + g then _ else if 13 = 13 ∧ s = 18 + r then _ else σ.2 13 s) ≤ σ.2 6 s
          rw [if_neg (by omega), if_neg (by omega)]
          exact hcap s hs
    · left
      refine ⟨-2, by decide, ?_, ?_⟩
      · by_cases hab : nI b = nI a
        · rw [if_neg (fun q => q hab), i2]
          simp only [bnd]
          rcases hi1 with rfl | rfl
          · rw [if_pos (show (0 : Int32) = 0 from rfl)]
          · rw [if_neg (show ¬ (1 : Int32) = 0 by decide), u2]
            simp only [bnd]
            rcases hu1 with ⟨rfl, -⟩ | rfl
            · rw [if_neg (show ¬ ¬ (0 : Int32) = 0 from fun q => q rfl), v2]
              simp only [bnd]
              rcases hv1 with ⟨rfl, -⟩ | rfl
              · exact absurd ⟨((ja_eq (alt b hb) (alt a ha)).mp hab).symm, rfl, rfl, rfl⟩ hall
              · rw [if_neg (show ¬ (1 : Int32) = 0 by decide)]
            · rw [if_pos (show ¬ (1 : Int32) = 0 by decide)]
        · rw [if_pos hab]
      · rcases hu1 with ⟨rfl, -⟩ | rfl
        · rcases hi1 with rfl | rfl
          · rw [if_pos (by decide)]
          · rcases hv1 with ⟨rfl, -⟩ | rfl
            · rcases hn1 with rfl | rfl
              · rw [if_neg (by decide), if_pos (by decide)]
              · rw [if_neg (by decide), if_neg (by decide)]
                by_cases hab : nI a = nI b
                · exact absurd ⟨(ja_eq (alt a ha) (alt b hb)).mp hab, rfl, rfl, rfl⟩ hall
                · rw [if_pos hab]
            · rw [if_neg (by decide), if_pos (by rw [if_pos (show ¬ (1 : Int32) = 0 by decide)])]
        · rw [if_pos (by rw [if_pos (show ¬ (1 : Int32) = 0 by decide)])]
  · left
    rw [t1, t2]
    exact ⟨-1, by decide, rfl, rfl⟩
theorem eq_deal {n P Q : Nat} {σ τ : jT} (h : rAll n P Q σ τ) (x y : Int32) : rEq n (f_X10_deal x y σ) (f_X11_deal x y τ) := eq_act h (fun σ1 τ1 h1 => act_deal h1 x y)
/-! ===== fits ===== -/
/-- one number more told -/
theorem put_both {n P Q s : Nat} {σ τ : jT} (h : rAll n P Q σ τ) (hs : τ.1 4171 = nI s) (hs16 : s < 16) (x : Int32) : ∃ σ' τ', f_X6_put x σ = some (0, σ') ∧ f_X11_tell x τ = some (0, τ') ∧ rAll n P Q σ' τ' ∧ τ'.1 4171 = nI (s + 1) ∧ (∀ i, i ≠ 3009 → σ'.1 i = σ.1 i) ∧ (∀ o, o ≠ 48 → σ'.2 o = σ.2 o) ∧ (∀ i, i ≠ 4171 → τ'.1 i = τ.1 i) ∧ (∀ o, o ≠ 72 → τ'.2 o = τ.2 o) := by
  obtain ⟨-, -, -, -, -, -, -, ⟨s', hs', w1, w2, w3⟩, -⟩ := id h
  have hss : s' = s := (ja_eq (by omega) (by omega)).mp (w2.symm.trans hs)
  subst hss
  refine ⟨_, _, c_put w1 hs16, m_tell hs (by omega), rAll_row h rfl rfl ⟨s' + 1, by omega, rfl, rfl, fun i hi => ?_⟩, rfl, fun i hi => if_neg hi, fun o ho => ?_, fun i hi => if_neg hi, fun o ho => ?_⟩
  · show (if 48 = 48 ∧ i = s' then x else σ.2 48 i) = (if 72 = 72 ∧ i = s' then x else τ.2 72 i)
    by_cases hi2 : i = s'
    · rw [if_pos ⟨rfl, hi2⟩, if_pos ⟨rfl, hi2⟩]
    · rw [if_neg (fun q => hi2 q.2), if_neg (fun q => hi2 q.2)]
      exact w3 i (by omega)
  · funext z
    show (if o = 48 ∧ _ then _ else σ.2 o z) = _
    rw [if_neg (fun q => ho q.1)]
  · funext z
    show (if o = 72 ∧ _ then _ else τ.2 o z) = _
    rw [if_neg (fun q => ho q.1)]
theorem lp_loop {P Q f g K : Nat} (hQ : Q ≤ 6) (hK : K ≤ 20) : ∀ (m k fu : Nat) (σ τ : jT), k + m = K → m < fu → rL P σ τ → rU σ τ → rD P Q 82 f g σ τ → σ.1 12 = nI K → τ.1 4203 = nI K → (∀ i, i < K → σ.2 62 i = τ.2 88 i) → ∃ (b : Int32) (σ' τ' : jT), (b = 0 ∨ b = 1) ∧ f_X10_leavesPrints_b17 fu (nI k) σ = some (b, σ') ∧ f_X11_isPrinted_b15 fu (nI k) τ = some (b, τ') ∧ qC σ σ' ∧ qM τ τ' := by
  intro m
  induction m with
  | zero =>
    intro k fu σ τ hk hfu hL hU hD e1 e2 e3
    obtain ⟨fu, rfl⟩ : ∃ f', fu = f' + 1 := ⟨fu - 1, by omega⟩
    have hle : nI K ≤ nI k := (ja_le (by omega) (by omega)).mpr (by omega)
    rw [f_X10_leavesPrints_b17, f_X11_isPrinted_b15, e1, e2, if_pos hle, if_pos hle]
    exact ⟨1, σ, τ, Or.inr rfl, rfl, rfl, qC_refl σ, qM_refl τ⟩
  | succ m ih =>
    intro k fu σ τ hk hfu hL hU hD e1 e2 e3
    obtain ⟨fu, rfl⟩ : ∃ f', fu = f' + 1 := ⟨fu - 1, by omega⟩
    have hle : ¬ nI K ≤ nI k := fun q => by rw [ja_le (by omega) (by omega)] at q; omega
    rw [f_X10_leavesPrints_b17, f_X11_isPrinted_b15, e1, e2, if_neg hle, if_neg hle]
    rcases step_82 hQ hL hU hD with ⟨g1, g2, g3⟩ | ⟨σ1, τ1, g1, g2, -, hst⟩
    · rw [g1, g2]
      simp only [bnd, iT]
      exact ⟨0, gs σ 3148 1, τ, Or.inl rfl, rfl, rfl, ⟨fun i hi => if_neg (by omega), fun _ _ _ _ => rfl⟩, qM_refl τ⟩
    · rw [g1, g2]
      obtain ⟨s1, s2, s3, s4, s5, s6, s7, s8, s9, q, hq, s10⟩ := hst
      obtain ⟨-, -, -, -, -, -, -, ⟨q', -, pc, pm⟩, -⟩ := id s3
      have hqq : nI q' = nI q := pc.symm.trans s10
      rw [hqq] at pm
      unfold f_X5_spot
      simp only [bnd]
      have v62 : σ1.2 62 = σ.2 62 := s1.2 62 (by decide) (by decide) (by decide) (by decide) (by decide)
      have v88 : τ1.2 88 = τ.2 88 := s2.2 88 (by decide) (by decide)
      rw [if_neg (show ¬ (1 : Int32) = 0 by decide), if_neg (show ¬ (1 : Int32) = 0 by decide), if_pos (ja_in (by omega) (by omega)), if_pos (ja_in (by omega) (by omega)), nI_clamp (by omega), s10, pm, v62, v88, e3 k (by omega), ← nI_succ]
      by_cases hpr : nI q = τ.2 88 k
      · rw [if_pos hpr, if_pos hpr]
        obtain ⟨b, σ', τ', h1, h2, h3, h4, h5⟩ := ih (k + 1) fu σ1 τ1 (by omega) (by omega) (fr_L (by decide) hL s1 s2) (fr_U (by decide) hU s1 s2) s3 (by rw [s1.1 12 (by decide) (by decide) (by decide) (by decide)]; exact e1) (by rw [s2.1 4203 (by decide) (by decide) (by decide)]; exact e2) (by rw [v62, v88]; exact e3)
        exact ⟨b, σ', τ', h1, h2, h3, qC_trans (frC_q s1) h4, qM_trans (frM_q s2) h5⟩
      · rw [if_neg hpr, if_neg hpr]
        exact ⟨0, σ1, τ1, Or.inl rfl, rfl, rfl, frC_q s1, frM_q s2⟩
theorem lp_both {n P Q f g : Nat} {σ τ : jT} (h : rAll n P Q σ τ) (hf : f < Q) (hg : g < Q) (hfg : f ≠ g) (e0 : ¬ σ.1 12 = 0) : ∃ (b : Int32) (σ' τ' : jT), (b = 0 ∨ b = 1) ∧ f_X10_leavesPrints (nI f) (nI g) σ = some (b, σ') ∧ f_X11_isPrinted (nI f) (nI g) τ = some (b, τ') ∧ qC σ σ' ∧ qM τ τ' := by
  obtain ⟨-, -, -, -, -, -, -, -, ⟨K, hK, w1, w2, w3⟩⟩ := id h
  have hK1 : 1 ≤ K := by
    rcases Nat.eq_zero_or_pos K with z | z
    · subst z
      exact absurd w1 e0
    · exact z
  obtain ⟨p, hp, p1, p2⟩ := w3 0 (by omega)
  obtain ⟨σ1, τ1, b1, b2, b3, b4, b5, b6, -⟩ := bg_82 (rG_of h) hf hg hfg (Or.inl hp)
  obtain ⟨hL1, ⟨hQ, -⟩, -, hU1⟩ := q_G (rG_of h) b3 b4
  obtain ⟨b, σ2, τ2, c1, c2, c3, c4, c5⟩ := lp_loop (K := K) hQ hK (K - 1) 1 1000 σ1 τ1 (by omega) (by omega) hL1 hU1 b5 (by rw [b3.1 12 (by decide)]; exact w1) (by rw [b4.1 4203 (by decide) (by decide) (by decide) (by decide) (by decide)]; exact w2) (fun i hi => by
    rw [b3.2 62 (by decide) (by decide) (by decide), b4.2 88 (by decide) (by decide)]
    obtain ⟨q, -, y1, y2⟩ := w3 i hi
    rw [y1, y2])
  refine ⟨b, σ2, τ2, c1, ?_, ?_, qC_trans b3 c4, qM_trans b4 c5⟩
  · unfold f_X10_leavesPrints
    have c2' : f_X10_leavesPrints_b17 1000 1 σ1 = _ := c2
    rw [p1, b1]
    simp only [bnd]
    exact c2'
  · unfold f_X11_isPrinted
    have c3' : f_X11_isPrinted_b15 1000 1 τ1 = _ := c3
    rw [p2, b2]
    simp only [bnd]
    exact c3'
def ftI (n P Q : Nat) (σ τ : jT) (c : Nat) : Prop := rAll n P Q σ τ ∧ τ.1 4172 = 0 ∧ (¬ σ.1 12 = 0) ∧ (c = 0 → τ.1 4171 = 0)
theorem ft_in {n P Q i : Nat} (hi : i < Q) (hQ6 : Q ≤ 6) (kc km : Int32 → Int32 → jT → Option (Int32 × jT)) : ∀ (m j fu c : Nat) (σ τ : jT), j + m = Q → m < fu → c ≤ 6 * i + j → ftI n P Q σ τ c → ∃ c' σ' τ', f_X10_fits_b34 kc fu (nI c) (nI i) (nI j) σ = kc (nI c') (nI i + 1) σ' ∧ f_X11_fits_b34 km fu (nI c) (nI i) (nI j) τ = km (nI c') (nI i + 1) τ' ∧ c' ≤ 6 * (i + 1) ∧ ftI n P Q σ' τ' c' := by
  intro m
  induction m with
  | zero =>
    intro j fu c σ τ hk hfu hcb h
    obtain ⟨fu, rfl⟩ : ∃ f', fu = f' + 1 := ⟨fu - 1, by omega⟩
    obtain ⟨-, -, ⟨hQ, q1, q2, -⟩, -⟩ := id h.1
    rw [f_X10_fits_b34, f_X11_fits_b34]
    unfold f_X3_riderCount
    simp only [bnd]
    have hle : nI Q ≤ nI j := (ja_le (by omega) (by omega)).mpr (by omega)
    rw [q1, q2, if_pos hle, if_pos hle]
    exact ⟨c, σ, τ, rfl, rfl, by omega, h⟩
  | succ m ih =>
    intro j fu c σ τ hk hfu hcb h
    obtain ⟨fu, rfl⟩ : ∃ f', fu = f' + 1 := ⟨fu - 1, by omega⟩
    obtain ⟨ha, ht, h12, hr⟩ := id h
    obtain ⟨-, -, ⟨hQ, q1, q2, -⟩, -⟩ := id ha
    rw [f_X10_fits_b34, f_X11_fits_b34]
    unfold f_X3_riderCount f_X10_fits_b72 f_X10_fits_b75 f_X11_fits_b73 f_X11_fits_b76
    simp only [bnd]
    have hle : ¬ nI Q ≤ nI j := fun q => by rw [ja_le (by omega) (by omega)] at q; omega
    rw [q1, q2, if_neg hle, if_neg hle, ← nI_succ j]
    by_cases hij : i = j
    · subst hij
      rw [if_pos rfl, if_pos rfl]
      exact ih (i + 1) fu c σ τ (by omega) (by omega) (by omega) h
    · have hne : ¬ nI i = nI j := fun q => hij ((ja_eq (by omega) (by omega)).mp q)
      rw [if_neg hne, if_neg hne]
      obtain ⟨b, σ1, τ1, hb, e1, e2, e3, e4⟩ := lp_both ha hi (show j < Q by omega) hij h12
      have h1 := q_all ha e3 e4
      have ht1 := q_th e4 ht
      have h12' : ¬ σ1.1 12 = 0 := by rw [e3.1 12 (by decide)]; exact h12
      have h71 : τ1.1 4171 = τ.1 4171 := e4.1 4171 (by decide) (by decide) (by decide) (by decide) (by decide)
      rw [e1, e2]
      simp only [bnd]
      rcases hb with rfl | rfl
      · rw [if_pos (show (0 : Int32) = 0 from rfl), if_neg (show ¬ ¬ (0 : Int32) = 0 from fun q => q rfl)]
        exact ih (j + 1) fu c σ1 τ1 (by omega) (by omega) (by omega) ⟨h1, ht1, h12', fun hc => h71.trans (hr hc)⟩
      · rw [if_neg (show ¬ (1 : Int32) = 0 by decide), if_pos (show ¬ (1 : Int32) = 0 by decide), ← nI_succ c]
        by_cases hc : c = 0
        · subst hc
          have z0 : τ1.1 4171 = 0 := h71.trans (hr rfl)
          have et := m_tell1 τ1 (nI i)
          unfold mRow0 at et
          rw [gs_same z0] at et
          rw [if_neg (show ¬ ¬ nI 0 = 0 from fun q => q rfl), if_neg (show ¬ ¬ nI 0 = 0 from fun q => q rfl), c_tell2, et]
          simp only [bnd]
          rw [m_tell2]
          simp only [bnd]
          exact ih (j + 1) fu (0 + 1) _ _ (by omega) (by omega) (by omega) ⟨rAll_row h1 rfl rfl (rW2 _ _ _ _), ht1, h12', fun hc => by omega⟩
        · rw [if_pos (nI_ne0 (by omega) (by omega)), if_pos (nI_ne0 (by omega) (by omega))]
          exact ih (j + 1) fu (c + 1) σ1 τ1 (by omega) (by omega) (by omega) ⟨h1, ht1, h12', fun hc => by omega⟩
theorem ft_out {n P Q : Nat} (hQ6 : Q ≤ 6) : ∀ (m i fu c : Nat) (σ τ : jT), i + m = Q → m < fu → c ≤ 6 * i → ftI n P Q σ τ c → rEq n (f_X10_fits_b21 fu (nI c) (nI i) σ) (f_X11_fits_b24 fu (nI c) (nI i) τ) := by
  intro m
  induction m with
  | zero =>
    intro j fu c σ τ hk hfu hcb h
    obtain ⟨fu, rfl⟩ : ∃ f', fu = f' + 1 := ⟨fu - 1, by omega⟩
    obtain ⟨ha, ht, h12, hr⟩ := id h
    obtain ⟨-, -, ⟨hQ, q1, q2, -⟩, -⟩ := id ha
    rw [f_X10_fits_b21, f_X11_fits_b24]
    unfold f_X3_riderCount
    simp only [bnd]
    have hle : nI Q ≤ nI j := (ja_le (by omega) (by omega)).mpr (by omega)
    rw [q1, q2, if_pos hle, if_pos hle]
    exact rEq_same ha rfl rfl rfl rfl ht
  | succ m ih =>
    intro j fu c σ τ hk hfu hcb h
    obtain ⟨fu, rfl⟩ : ∃ f', fu = f' + 1 := ⟨fu - 1, by omega⟩
    obtain ⟨-, -, ⟨hQ, q1, q2, -⟩, -⟩ := id h.1
    rw [f_X10_fits_b21, f_X11_fits_b24]
    unfold f_X3_riderCount
    simp only [bnd]
    have hle : ¬ nI Q ≤ nI j := fun q => by rw [ja_le (by omega) (by omega)] at q; omega
    rw [q1, q2, if_neg hle, if_neg hle]
    obtain ⟨c', σ', τ', e1, e2, e3, e4⟩ := ft_in (i := j) (by omega) hQ6 (f_X10_fits_b21 fu) (f_X11_fits_b24 fu) Q 0 1000 c σ τ (by omega) (by omega) (by omega) h
    have e1' : f_X10_fits_b34 (f_X10_fits_b21 fu) 1000 (nI c) (nI j) 0 σ = _ := e1
    have e2' : f_X11_fits_b34 (f_X11_fits_b24 fu) 1000 (nI c) (nI j) 0 τ = _ := e2
    rw [e1', e2', ← nI_succ]
    exact ih (j + 1) fu c' σ' τ' (by omega) (by omega) (by omega) e4
theorem pr_cases {n P Q : Nat} {σ τ : jT} (h : rAll n P Q σ τ) : (σ.1 12 = 0 ∧ τ.1 4203 = 0) ∨ (¬ σ.1 12 = 0 ∧ ¬ τ.1 4203 = 0) := by
  obtain ⟨-, -, -, -, -, -, -, -, ⟨K, hK, w1, w2, w3⟩⟩ := id h
  rcases Nat.eq_zero_or_pos K with z | z
  · subst z
    exact Or.inl ⟨w1, w2⟩
  · rw [w1, w2]
    exact Or.inr ⟨nI_ne0 (by omega) (by omega), nI_ne0 (by omega) (by omega)⟩
theorem eq_fits {n P Q : Nat} {σ τ : jT} (h : rAll n P Q σ τ) : rEq n (f_X10_fits σ) (f_X11_fits τ) := by
  have h0 : rAll n P Q σ (gs τ 4172 0) := rAll_core h rfl rfl
  have hQ := h.2.2.1.1
  unfold f_X10_fits f_X11_fits
  rcases pr_cases h with ⟨e1, e2⟩ | ⟨e1, e2⟩
  · rw [e1, e2, if_neg (show ¬ ¬ (0 : Int32) = 0 from fun q => q rfl), if_neg (show ¬ ¬ (0 : Int32) = 0 from fun q => q rfl)]
    exact rEq_same h0 rfl rfl rfl rfl rfl
  · rw [if_pos e1, if_pos e2]
    unfold f_X6_clear
    simp only [bnd]
    exact ft_out hQ Q 0 1000 0 _ _ (by omega) (by omega) (by omega) ⟨rAll_row h0 rfl rfl (rW0 rfl rfl), rfl, e1, fun _ => rfl⟩
/-! ===== views ===== -/
theorem vw_in {n P Q p w a nx i K : Nat} {x1 : Int32} (hp : p < P) (hw3 : w ≤ 3) (ha : a < w) (hi : i + 1 < K) (hK : K ≤ 20) (kc km : Int32 → Int32 → Int32 → Int32 → Int32 → jT → Option (Int32 × jT)) : ∀ (m j fu c : Nat) (σ τ : jT), j + m = w → m < fu → c ≤ 3 * a + j → rAll n P Q σ τ → σ.2 4 p = nI w → τ.2 67 p = nI w → σ.2 11 2 = nI w → σ.2 11 3 = nI p → σ.2 11 4 = nI i → σ.2 11 5 = 9 → σ.2 11 6 = 9 → τ.2 88 (i + 1) = nI nx → ∃ c' σ' τ', f_X10_viewsBetween_b41 kc fu (nI p) (nI nx) (nI w) (nI c) (nI a) (nI j) σ = kc (nI p) (nI nx) (nI w) (nI c') (nI a + 1) σ' ∧ f_X11_views_b61 km fu x1 (nI i) (nI p) (nI c) (nI a) (nI j) τ = km x1 (nI i) (nI p) (nI c') (nI a + 1) τ' ∧ c' ≤ 3 * (a + 1) ∧ qC σ σ' ∧ qM τ τ' ∧ ∀ z, 2 ≤ z → σ'.2 11 z = σ.2 11 z := by
  intro m
  induction m with
  | zero =>
    intro j fu c σ τ hk hfu hcb h e4 e67 f2 f3 f4 f5 f6 e88
    obtain ⟨fu, rfl⟩ : ∃ f', fu = f' + 1 := ⟨fu - 1, by omega⟩
    have hP := h.2.1.1
    have hle : nI w ≤ nI j := (ja_le (by omega) (by omega)).mpr (by omega)
    rw [f_X10_viewsBetween_b41, f_X11_views_b61, if_pos (ja_in (by omega) (by omega)), nI_clamp (by omega), e67, if_pos hle, if_pos hle]
    exact ⟨c, σ, τ, rfl, rfl, by omega, qC_refl σ, qM_refl τ, fun _ _ => rfl⟩
  | succ m ih =>
    intro j fu c σ τ hk hfu hcb h e4 e67 f2 f3 f4 f5 f6 e88
    obtain ⟨fu, rfl⟩ : ∃ f', fu = f' + 1 := ⟨fu - 1, by omega⟩
    obtain ⟨-, ⟨hP, l1, l2, -, lw, -⟩, -, -, hU, -⟩ := id h
    have hle : ¬ nI w ≤ nI j := fun q => by rw [ja_le (by omega) (by omega)] at q; omega
    rw [f_X10_viewsBetween_b41, f_X11_views_b61, if_pos (ja_in (by omega) (by omega)), nI_clamp (by omega), e67, if_neg hle, if_neg hle]
    unfold f_X10_viewsBetween_b81 f_X11_views_b116
    rw [← nI_succ j, ← nI_succ i]
    by_cases haj : a = j
    · subst haj
      rw [if_pos rfl, if_pos rfl]
      exact ih (a + 1) fu c σ τ (by omega) (by omega) (by omega) h e4 e67 f2 f3 f4 f5 f6 e88
    · have hne : ¬ nI a = nI j := fun q => haj ((ja_eq (by omega) (by omega)).mp q)
      rw [if_neg hne, if_neg hne]
      obtain ⟨v, σ1, τ1, t1, t2, -, -, t3, t4, t5, t6, t7, t8, t9⟩ := hU σ τ (nI a) (nI j) (nI w) (nI p) (nI i) 9 9 rfl rfl rfl rfl (by rcases (show w = 1 ∨ w = 2 ∨ w = 3 by omega) with rfl | rfl | rfl <;> decide) f2 f3 f4 f5 f6
      obtain ⟨k, hk2, rfl⟩ := ja_of t7 t8 (by omega)
      have hm : f_X11_wayBy (nI a) (nI j) (nI p) (nI i) 9 9 τ = some (nI k, τ1) := by
        unfold f_X11_wayBy
        rw [if_pos (ja_in (by omega) (by omega)), nI_clamp (by omega), e67]
        by_cases h2 : nI w = 2
        · rw [if_neg (fun q => q h2)]
          rw [if_pos h2] at t2
          exact t2
        · rw [if_pos h2]
          rw [if_neg h2] at t2
          exact t2
      obtain ⟨w', hw', cw, mw, ld, -⟩ := lw p hp
      have hww : w' = w := (ja_eq (by omega) (by omega)).mp (cw.symm.trans e4)
      subst hww
      obtain ⟨q, hq, q1, q2⟩ := ld k hk2
      have zc : qC σ σ1 := ⟨fun i _ => by rw [t3], fun o h1 h2 _ => t4 o ⟨h1, h2⟩⟩
      have zm : qM τ τ1 := ⟨fun i h1 h2 _ _ _ => t6 i (by omega), fun o _ h2 => t5 o h2⟩
      rw [t1, hm]
      simp only [bnd]
      rw [c_leads_t (P := P) (by rw [t3]; exact l1) hP hp (by rw [t4 4 (by decide)]; exact cw) hw' hk2, t4 5 (by decide), q1, e3_mul, if_pos (ja_in (by omega) (by omega)), if_pos (ja_in (by omega) (by omega)), nI_clamp (by omega), nI_clamp (by omega), t5 68 (by decide), t5 88 (by decide), q2, e88]
      simp only [bnd]
      have go : ∀ d, d ≤ 3 * a + (j + 1) → ∃ c' σ' τ', f_X10_viewsBetween_b41 kc fu (nI p) (nI nx) (nI w') (nI d) (nI a) (nI (j + 1)) σ1 = kc (nI p) (nI nx) (nI w') (nI c') (nI a + 1) σ' ∧ f_X11_views_b61 km fu x1 (nI i) (nI p) (nI d) (nI a) (nI (j + 1)) τ1 = km x1 (nI i) (nI p) (nI c') (nI a + 1) τ' ∧ c' ≤ 3 * (a + 1) ∧ qC σ σ' ∧ qM τ τ' ∧ ∀ z, 2 ≤ z → σ'.2 11 z = σ.2 11 z := by
        intro d hd
        obtain ⟨c', σ', τ', y1, y2, y3, y4, y5, y6⟩ := ih (j + 1) fu d σ1 τ1 (by omega) (by omega) hd (q_all h zc zm) (by rw [t4 4 (by decide)]; exact e4) (by rw [t5 67 (by decide)]; exact e67) ((t9 2 (by omega)).trans f2) ((t9 3 (by omega)).trans f3) ((t9 4 (by omega)).trans f4) ((t9 5 (by omega)).trans f5) ((t9 6 (by omega)).trans f6) (by rw [t5 88 (by decide)]; exact e88)
        exact ⟨c', σ', τ', y1, y2, y3, qC_trans zc y4, qM_trans zm y5, fun z hz => (y6 z hz).trans (t9 z hz)⟩
      by_cases hqn : nI q = nI nx
      · rw [if_neg (fun z => z hqn), if_neg (fun z => z hqn), ← nI_succ c]
        exact go (c + 1) (by omega)
      · rw [if_pos hqn, if_pos hqn]
        exact go c (by omega)
theorem vw_mid {n P Q p w nx i K : Nat} {x1 : Int32} (hp : p < P) (hw3 : w ≤ 3) (hi : i + 1 < K) (hK : K ≤ 20) (km : Int32 → Int32 → jT → Option (Int32 × jT)) : ∀ (m a fu c : Nat) (σ τ : jT), a + m = w → m < fu → c ≤ 3 * a → rAll n P Q σ τ → σ.2 4 p = nI w → τ.2 67 p = nI w → σ.2 11 2 = nI w → σ.2 11 3 = nI p → σ.2 11 4 = nI i → σ.2 11 5 = 9 → σ.2 11 6 = 9 → τ.2 88 (i + 1) = nI nx → ∃ c' σ' τ', c' ≤ 9 ∧ f_X10_viewsBetween_b31 fu (nI p) (nI nx) (nI w) (nI c) (nI a) σ = some (nI c', σ') ∧ f_X11_views_b47 km fu x1 (nI i) (nI p) (nI c) (nI a) τ = (if ¬ nI c' = 0 then if 15 ≤ x1 then f_X11_views_b148 km x1 (nI i) τ' else (f_X11_tell (nI c') τ').bind fun q5 => f_X11_views_b148 km x1 (nI i) q5.2 else f_X11_views_b151 km x1 (nI i) τ') ∧ qC σ σ' ∧ qM τ τ' := by
  intro m
  induction m with
  | zero =>
    intro a fu c σ τ hk hfu hcb h e4 e67 f2 f3 f4 f5 f6 e88
    obtain ⟨fu, rfl⟩ : ∃ f', fu = f' + 1 := ⟨fu - 1, by omega⟩
    have hP := h.2.1.1
    have hle : nI w ≤ nI a := (ja_le (by omega) (by omega)).mpr (by omega)
    rw [f_X10_viewsBetween_b31, f_X11_views_b47, if_pos (ja_in (by omega) (by omega)), nI_clamp (by omega), e67, if_pos hle, if_pos hle]
    exact ⟨c, σ, τ, by omega, rfl, rfl, qC_refl σ, qM_refl τ⟩
  | succ m ih =>
    intro a fu c σ τ hk hfu hcb h e4 e67 f2 f3 f4 f5 f6 e88
    obtain ⟨fu, rfl⟩ : ∃ f', fu = f' + 1 := ⟨fu - 1, by omega⟩
    have hP := h.2.1.1
    have hle : ¬ nI w ≤ nI a := fun q => by rw [ja_le (by omega) (by omega)] at q; omega
    rw [f_X10_viewsBetween_b31, f_X11_views_b47, if_pos (ja_in (by omega) (by omega)), nI_clamp (by omega), e67, if_neg hle, if_neg hle]
    obtain ⟨c', σ1, τ1, y1, y2, y3, y4, y5, y6⟩ := vw_in (x1 := x1) (nx := nx) hp hw3 (show a < w by omega) hi hK (f_X10_viewsBetween_b31 fu) (f_X11_views_b47 km fu) w 0 1000 c σ τ (by omega) (by omega) (by omega) h e4 e67 f2 f3 f4 f5 f6 e88
    have y1' : f_X10_viewsBetween_b41 (f_X10_viewsBetween_b31 fu) 1000 (nI p) (nI nx) (nI w) (nI c) (nI a) 0 σ = _ := y1
    have y2' : f_X11_views_b61 (f_X11_views_b47 km fu) 1000 x1 (nI i) (nI p) (nI c) (nI a) 0 τ = _ := y2
    rw [y1', y2', ← nI_succ]
    obtain ⟨c2, σ2, τ2, z0, z1, z2, z3, z4⟩ := ih (a + 1) fu c' σ1 τ1 (by omega) (by omega) (by omega) (q_all h y4 y5) (by rw [y4.2 4 (by decide) (by decide) (by decide)]; exact e4) (by rw [y5.2 67 (by decide) (by decide)]; exact e67) ((y6 2 (by omega)).trans f2) ((y6 3 (by omega)).trans f3) ((y6 4 (by omega)).trans f4) ((y6 5 (by omega)).trans f5) ((y6 6 (by omega)).trans f6) (by rw [y5.2 88 (by decide) (by decide)]; exact e88)
    exact ⟨c2, σ2, τ2, z0, z1, z2, qC_trans y4 z3, qM_trans y5 z4⟩
theorem vw_out {n P Q K : Nat} (hK : K ≤ 20) : ∀ (m i fu c : Nat) (σ τ : jT), i + m = K → m < fu → c ≤ i → rAll n P Q σ τ → τ.1 4172 = 0 → σ.1 12 = nI K → τ.1 4203 = nI K → τ.1 4171 = nI (min c 15) → rEq n (f_X10_views_b21 fu (nI c) (nI i) σ) (f_X11_views_b24 fu (nI c) (nI i) τ) := by
  intro m
  induction m with
  | zero =>
    intro i fu c σ τ hk hfu hcb h ht e1 e2 e3
    obtain ⟨fu, rfl⟩ : ∃ f', fu = f' + 1 := ⟨fu - 1, by omega⟩
    have hle : nI K ≤ nI (i + 1) := (ja_le (by omega) (by omega)).mpr (by omega)
    rw [f_X10_views_b21, f_X11_views_b24, e1, e2, ← nI_succ, if_pos hle, if_pos hle]
    exact rEq_same h rfl rfl rfl rfl ht
  | succ m ih =>
    intro i fu c σ τ hk hfu hcb h ht e1 e2 e3
    obtain ⟨fu, rfl⟩ : ∃ f', fu = f' + 1 := ⟨fu - 1, by omega⟩
    obtain ⟨-, ⟨hP, l1, l2, -, lw, -⟩, -, -, -, -, -, -, ⟨K', hK', w1, w2, w3⟩⟩ := id h
    have hkk : K' = K := (ja_eq (by omega) (by omega)).mp (w1.symm.trans e1)
    subst hkk
    rw [f_X10_views_b21, f_X11_views_b24, e1, e2, ← nI_succ]
    by_cases hm0 : m = 0
    · have hle : nI K' ≤ nI (i + 1) := (ja_le (by omega) (by omega)).mpr (by omega)
      rw [if_pos hle, if_pos hle]
      exact rEq_same h rfl rfl rfl rfl ht
    · have hle : ¬ nI K' ≤ nI (i + 1) := fun q => by rw [ja_le (by omega) (by omega)] at q; omega
      obtain ⟨p, hp, p1, p2⟩ := w3 i (by omega)
      obtain ⟨nx, hnx, n1, n2⟩ := w3 (i + 1) (by omega)
      obtain ⟨w, hw3, cw, mw, -⟩ := lw p hp
      rw [if_neg hle, if_neg hle, if_pos (ja_in (by omega) (by omega)), if_pos (ja_in (by omega) (by omega)), if_pos (ja_in (by omega) (by omega)), nI_clamp (by omega), nI_clamp (by omega), p1, p2, n1]
      unfold f_X10_viewsBetween f_X7_setFacts
      rw [c_ways_t l1 hP hp, cw]
      simp only [bnd]
      have zc0 : qC σ (gA (gA (gA (gA (gA σ 11 2 (nI w)) 11 3 (nI p)) 11 4 (nI i)) 11 5 9) 11 6 9) := ⟨fun _ _ => rfl, fun o h1 h2 h3 => by
        funext z
        show (if o = 11 ∧ z = 6 then _ else if o = 11 ∧ z = 5 then _ else if o = 11 ∧ z = 4 then _ else if o = 11 ∧ z = 3 then _ else if o = 11 ∧ z = 2 then _ else σ.2 o z) = _
        rw [if_neg (fun q => h2 q.1), if_neg (fun q => h2 q.1), if_neg (fun q => h2 q.1), if_neg (fun q => h2 q.1), if_neg (fun q => h2 q.1)]⟩
      obtain ⟨c', σ1, τ1, y0, y1, y2, y3, y4⟩ := vw_mid (x1 := nI c) (nx := nx) (K := K') hp hw3 (show i + 1 < K' by omega) hK (f_X11_views_b24 fu) w 0 1000 0 (gA (gA (gA (gA (gA σ 11 2 (nI w)) 11 3 (nI p)) 11 4 (nI i)) 11 5 9) 11 6 9) τ (by omega) (by omega) (by omega) (q_all h zc0 (qM_refl τ)) (by exact cw) mw rfl rfl rfl rfl rfl n2
      have y1' : f_X10_viewsBetween_b31 1000 (nI p) (nI nx) (nI w) 0 0 (gA (gA (gA (gA (gA σ 11 2 (nI w)) 11 3 (nI p)) 11 4 (nI i)) 11 5 9) 11 6 9) = _ := y1
      have y2' : f_X11_views_b47 (f_X11_views_b24 fu) 1000 (nI c) (nI i) (nI p) 0 0 τ = _ := y2
      rw [y1', y2']
      simp only [bnd]
      unfold f_X10_views_b72 f_X11_views_b148 f_X11_views_b151
      rw [← nI_succ, ← nI_succ]
      have zc := qC_trans zc0 y3
      have h1 := q_all h zc y4
      have ht1 := q_th y4 ht
      have e1' : σ1.1 12 = nI K' := by rw [zc.1 12 (by decide)]; exact e1
      have e2' : τ1.1 4203 = nI K' := by rw [y4.1 4203 (by decide) (by decide) (by decide) (by decide) (by decide)]; exact e2
      have e3' : τ1.1 4171 = nI (min c 15) := by rw [y4.1 4171 (by decide) (by decide) (by decide) (by decide) (by decide)]; exact e3
      by_cases hc0 : c' = 0
      · subst hc0
        rw [if_pos (show nI 0 ≤ 0 by decide), if_neg (show ¬ ¬ nI 0 = 0 from fun q => q rfl)]
        exact ih (i + 1) fu c σ1 τ1 (by omega) (by omega) (by omega) h1 ht1 e1' e2' e3'
      · rw [if_neg (nI_nle (by omega) (by omega)), if_pos (nI_ne0 (by omega) (by omega))]
        by_cases hc15 : 15 ≤ c
        · have z1 : (15 : Int32) < nI (c + 1) := (ja_lt (a := 15) (by omega) (by omega)).mpr (by omega)
          have z2 : (15 : Int32) ≤ nI c := (ja_le (a := 15) (by omega) (by omega)).mpr (by omega)
          rw [if_pos z1, if_pos z2]
          exact ih (i + 1) fu (c + 1) σ1 τ1 (by omega) (by omega) (by omega) h1 ht1 e1' e2' (by rw [e3']; congr 1; omega)
        · have z1 : ¬ (15 : Int32) < nI (c + 1) := fun q => by rw [show (15 : Int32) = nI 15 from rfl, ja_lt (by omega) (by omega)] at q; omega
          have z2 : ¬ (15 : Int32) ≤ nI c := fun q => by rw [show (15 : Int32) = nI 15 from rfl, ja_le (by omega) (by omega)] at q; omega
          rw [if_neg z1, if_neg z2]
          obtain ⟨σ2, τ2, v1, v2, v3, v4, v5, v6, v7, v8⟩ := put_both h1 e3' (by omega) (nI c')
          rw [v1, v2]
          simp only [bnd]
          exact ih (i + 1) fu (c + 1) σ2 τ2 (by omega) (by omega) (by omega) v3 ((v7 4172 (by decide)).trans ht1) ((v5 12 (by decide)).trans e1') ((v7 4203 (by decide)).trans e2') (by rw [v4]; congr 1; omega)
theorem eq_views {n P Q : Nat} {σ τ : jT} (h : rAll n P Q σ τ) : rEq n (f_X10_views σ) (f_X11_views τ) := by
  have h0 : rAll n P Q σ (gs τ 4172 0) := rAll_core h rfl rfl
  unfold f_X10_views f_X11_views
  obtain ⟨-, -, -, -, -, -, -, -, ⟨K, hK, w1, w2, w3⟩⟩ := id h0
  rcases pr_cases h with ⟨e1, e2⟩ | ⟨e1, e2⟩
  · rw [e1, e2, if_neg (show ¬ ¬ (0 : Int32) = 0 from fun q => q rfl), if_neg (show ¬ ¬ (0 : Int32) = 0 from fun q => q rfl)]
    exact rEq_same h0 rfl rfl rfl rfl rfl
  · rw [if_pos e1, if_pos e2]
    unfold f_X6_clear
    simp only [bnd]
    exact vw_out hK K 0 1000 0 _ _ (by omega) (by omega) (by omega) (rAll_row h0 rfl rfl (rW0 rfl rfl)) rfl w1 w2 rfl
