/-! ===== views; calls that change nothing ===== -/
theorem m_view66_0 {τ : jT} {g j p w d : Nat} (hg : g < 6) (hj : j < 6) (hp : p < 10) (h2 : τ.2 66 (22 + g) = nI j) (h3 : τ.2 67 p = nI w) (hw : 1 ≤ w) (hw3 : w ≤ 3) (h4 : τ.2 70 (10 * j + p) = nI d) (hd : d < 4) : f_X11_viewOf_66_b20 (nI p) (nI g) τ = some (nI (d % w), τ) := by
  unfold f_X11_viewOf_66_b20
  have e1 : (22 : Int32) + nI g = nI (22 + g) := ja_add 22 g
  have e2 : (10 : Int32) * nI j + nI p = nI (10 * j + p) := by
    rw [show (10 : Int32) = nI 10 from rfl, pk_mul, ja_add]
  rw [e1, if_pos (ja_in (by omega) (by omega)), nI_clamp (by omega), h2, e2, if_pos (ja_in (by omega) (by omega)), if_pos (ja_in (by omega) (by omega)), nI_clamp (by omega), nI_clamp (by omega), h3, h4, if_neg (nI_ne0 (by omega) (by omega)), pk_rem (by omega) (by omega) (by omega)]
theorem m_view66 {τ : jT} {r g j p w d : Nat} (hr : r < 6) (hg : g < 6) (hj : j < 6) (hp : p < 10) (hb : (τ.2 66 (16 + r) = -1 ∧ g = r) ∨ τ.2 66 (16 + r) = nI g) (h2 : τ.2 66 (22 + g) = nI j) (h3 : τ.2 67 p = nI w) (hw : 1 ≤ w) (hw3 : w ≤ 3) (h4 : τ.2 70 (10 * j + p) = nI d) (hd : d < 4) : f_X11_viewOf_66 (nI r) (nI p) τ = some (nI (d % w), τ) := by
  unfold f_X11_viewOf_66
  have e1 : (16 : Int32) + nI r = nI (16 + r) := ja_add 16 r
  rw [e1, if_pos (ja_in (by omega) (by omega)), nI_clamp (by omega)]
  rcases hb with ⟨hb, rfl⟩ | hb
  · rw [if_neg (by rw [hb]; decide)]
    exact m_view66_0 hg hj hp h2 h3 hw hw3 h4 hd
  · rw [if_pos (by rw [hb]; exact ja_neg1 (by omega)), hb]
    try rw [if_pos (ja_in (by omega) (by omega))]
    exact m_view66_0 hg hj hp h2 h3 hw hw3 h4 hd
theorem m_view82_0 {τ : jT} {g j p w d : Nat} (hg : g < 6) (hj : j < 6) (hp : p < 10) (h2 : τ.2 82 (22 + g) = nI j) (h3 : τ.2 67 p = nI w) (hw : 1 ≤ w) (hw3 : w ≤ 3) (h4 : τ.2 70 (10 * j + p) = nI d) (hd : d < 4) : f_X11_viewOf_82_b20 (nI p) (nI g) τ = some (nI (d % w), τ) := by
  unfold f_X11_viewOf_82_b20
  have e1 : (22 : Int32) + nI g = nI (22 + g) := ja_add 22 g
  have e2 : (10 : Int32) * nI j + nI p = nI (10 * j + p) := by
    rw [show (10 : Int32) = nI 10 from rfl, pk_mul, ja_add]
  rw [e1, if_pos (ja_in (by omega) (by omega)), nI_clamp (by omega), h2, e2, if_pos (ja_in (by omega) (by omega)), if_pos (ja_in (by omega) (by omega)), nI_clamp (by omega), nI_clamp (by omega), h3, h4, if_neg (nI_ne0 (by omega) (by omega)), pk_rem (by omega) (by omega) (by omega)]
theorem m_view82 {τ : jT} {r g j p w d : Nat} (hr : r < 6) (hg : g < 6) (hj : j < 6) (hp : p < 10) (hb : (τ.2 82 (16 + r) = -1 ∧ g = r) ∨ τ.2 82 (16 + r) = nI g) (h2 : τ.2 82 (22 + g) = nI j) (h3 : τ.2 67 p = nI w) (hw : 1 ≤ w) (hw3 : w ≤ 3) (h4 : τ.2 70 (10 * j + p) = nI d) (hd : d < 4) : f_X11_viewOf_82 (nI r) (nI p) τ = some (nI (d % w), τ) := by
  unfold f_X11_viewOf_82
  have e1 : (16 : Int32) + nI r = nI (16 + r) := ja_add 16 r
  rw [e1, if_pos (ja_in (by omega) (by omega)), nI_clamp (by omega)]
  rcases hb with ⟨hb, rfl⟩ | hb
  · rw [if_neg (by rw [hb]; decide)]
    exact m_view82_0 hg hj hp h2 h3 hw hw3 h4 hd
  · rw [if_pos (by rw [hb]; exact ja_neg1 (by omega)), hb]
    try rw [if_pos (ja_in (by omega) (by omega))]
    exact m_view82_0 hg hj hp h2 h3 hw hw3 h4 hd
theorem rS_guide {P Q r : Nat} {dg cn mn : Nat → Int32} (hS : rS P Q dg cn mn) (hr : r < Q) : ∃ g M j, g < Q ∧ j < Q ∧ M < 4 ^ P ∧ ((cn (12 + r) = -1 ∧ mn (16 + r) = -1 ∧ g = r) ∨ (cn (12 + r) = nI g ∧ mn (16 + r) = nI g)) ∧ cn (18 + g) = nI M ∧ mn (22 + g) = nI j ∧ ∀ p, p < P → dg (10 * j + p) = nI (M / 4 ^ p % 4) := by
  have h := hS.2.2.2.2.2
  obtain ⟨-, -, ⟨h1, h2⟩, -⟩ := h r hr
  rcases h2 with h2 | ⟨b, hb, h2⟩
  · obtain ⟨-, -, -, j, M, hj, hM, e1, e2, e3⟩ := h r hr
    exact ⟨r, M, j, hr, hj, hM, Or.inl ⟨h2, by rw [← h1]; exact h2, rfl⟩, e2, e1, fun p hp => (e3 p hp).1⟩
  · obtain ⟨-, -, -, j, M, hj, hM, e1, e2, e3⟩ := h b hb
    exact ⟨b, M, j, hb, hj, hM, Or.inr ⟨h2, by rw [← h1]; exact h2⟩, e2, e1, fun p hp => (e3 p hp).1⟩
theorem j_pow4 {P M : Nat} (hP : P ≤ 10) (hM : M < 4 ^ P) : M < 2 ^ 20 := by
  have : 4 ^ P ≤ 4 ^ 10 := Nat.pow_le_pow_right (by omega) hP
  omega
theorem c_guide {σ : jT} {r g : Nat} (hr : r < 6) (hg : g < 6) (hb : (σ.2 13 (12 + r) = -1 ∧ g = r) ∨ σ.2 13 (12 + r) = nI g) : f_X8_guidingMap (nI r) σ = some (σ.2 13 (18 + g), σ) := by
  rcases hb with ⟨hb, rfl⟩ | hb
  · exact c_guide_n hr hb
  · exact c_guide_b hr hg hb
/-- the views of both sides at a place with ways -/
theorem v_both {n P Q : Nat} {σ τ : jT} (h : rAll n P Q σ τ) {r p : Nat} (hr : r < Q) (hp : p < P) : ∃ w v, w ≤ 3 ∧ σ.2 4 p = nI w ∧ τ.2 67 p = nI w ∧ v < 4 ∧ f_X10_viewAt (nI r) (nI p) σ = some (if w = 0 then -1 else nI v, σ) ∧ (1 ≤ w → v < w ∧ f_X11_viewOf_66 (nI r) (nI p) τ = some (nI v, τ)) := by
  obtain ⟨-, ⟨hP, p1, p2, -, hw, -⟩, ⟨hQ, q1, q2, -⟩, ⟨hS, -⟩, -⟩ := h
  obtain ⟨w, hw3, w1, w2, -⟩ := hw p hp
  obtain ⟨g, M, j, hg, hj, hM, hb, e1, e2, e3⟩ := rS_guide hS hr
  have hM2 := j_pow4 hP hM
  refine ⟨w, M / 4 ^ p % 4 % w, hw3, w1, w2, Nat.lt_of_le_of_lt (Nat.mod_le _ _) (Nat.mod_lt _ (by decide)), ?_, fun hw1 => ⟨Nat.mod_lt _ hw1, ?_⟩⟩
  · unfold f_X10_viewAt
    rw [c_guide (by omega) (by omega) (hb.imp (fun z => ⟨z.1, z.2.2⟩) (fun z => z.1)), e1]
    simp only [Option.bind_some]
    rw [c_viewOf p1 hP hp w1 hw3 hM2]
    rfl
  · exact m_view66 (by omega) (by omega) (by omega) (by omega) (hb.imp (fun z => ⟨z.2.1, z.2.2⟩) (fun z => z.2)) e2 w2 hw1 hw3 (e3 p hp) (Nat.mod_lt _ (by decide))
theorem rEq_same {n P Q : Nat} {σ τ σ' τ' : jT} {fc fm : Option (Int32 × jT)} {r : Int32} (h : rAll n P Q σ τ) (hc : fc = some (r, σ')) (hm : fm = some (r, τ')) (e1 : coreC σ' = coreC σ) (e2 : coreM τ' = coreM τ) (ht : τ'.1 4172 = 0) : rEq n fc fm := ⟨r, σ', τ', P, Q, hc, hm, ht, rAll_core (rAll_step h) e1 e2⟩
theorem eq_view {n P Q : Nat} {σ τ : jT} (h : rAll n P Q σ τ) (x y : Int32) : rEq n (f_X10_view x y σ) (f_X11_view x y τ) := by
  obtain ⟨-, ⟨hP, p1, p2, -, hw, -⟩, ⟨hQ, q1, q2, -⟩, -⟩ := id h
  rcases vd_cases x (n := Q) (by omega) with ⟨r, hr, rfl⟩ | hx
  · rcases vd_cases y (n := P) (by omega) with ⟨p, hp, rfl⟩ | hy
    · obtain ⟨w, v, hw3, w1, w2, hv, v1, v2⟩ := v_both h hr hp
      have h' : rAll n P Q σ (gs τ 4172 0) := rAll_core h rfl rfl
      obtain ⟨w', v', hw3', w1', w2', hv', v1', v2'⟩ := v_both h' hr hp
      by_cases h0 : w = 0
      · subst h0
        refine rEq_same (r := -2) (σ' := σ) (τ' := gs τ 4172 0) h ?_ ?_ rfl rfl rfl
        · unfold f_X10_view
          simp only [c_hr_t q1 hQ hr, c_hp_t p1 hP hp, c_ways_t p1 hP hp, Option.bind_some, w1]
          rfl
        · unfold f_X11_view
          simp only [m_isRider_t (τ := gs τ 4172 0) q2 hQ hr, m_isPlace_t (τ := gs τ 4172 0) p2 hP hp, Option.bind_some]
          rw [if_neg (by decide), if_pos (by decide), if_pos (ja_in (by omega) (by omega)), nI_clamp (by omega), if_neg (by rw [w2']; have : nI w' = nI 0 := w2'.symm.trans w2; rw [this]; decide)]
      · have hww : nI w' = nI w := w2'.symm.trans w2
        have hwe : w' = w := (ja_eq (by omega) (by omega)).mp hww
        subst hwe
        obtain ⟨l1, l2⟩ := v2' (by omega)
        have hvv : v' = v := by
          have := v1.symm.trans v1'
          simp only [if_neg h0, Option.some.injEq, Prod.mk.injEq] at this
          exact ((ja_eq (by omega) (by omega)).mp this.1).symm
        subst hvv
        refine rEq_same (r := nI v') (σ' := σ) (τ' := gs τ 4172 0) h ?_ ?_ rfl rfl rfl
        · unfold f_X10_view
          simp only [c_hr_t q1 hQ hr, c_hp_t p1 hP hp, c_ways_t p1 hP hp, Option.bind_some, w1, v1]
          rw [if_neg (by decide), if_pos (by decide), if_pos (nI_ne0 (by omega) (by omega)), if_neg h0]
        · unfold f_X11_view
          simp only [m_isRider_t (τ := gs τ 4172 0) q2 hQ hr, m_isPlace_t (τ := gs τ 4172 0) p2 hP hp, Option.bind_some]
          rw [if_neg (by decide), if_pos (by decide), if_pos (ja_in (by omega) (by omega)), nI_clamp (by omega), if_pos (by rw [w2']; exact nI_ne0 (by omega) (by omega)), l2]
          rfl
    · refine rEq_same (r := -1) (σ' := σ) (τ' := gs τ 4172 0) h ?_ ?_ rfl rfl rfl
      · unfold f_X10_view
        simp only [c_hr_t q1 hQ hr, c_hp_f p1 hy, Option.bind_some]
        rfl
      · unfold f_X11_view
        simp only [m_isRider_t (τ := gs τ 4172 0) q2 hQ hr, m_isPlace_f (τ := gs τ 4172 0) p2 hP hy, Option.bind_some]
        rfl
  · refine rEq_same (r := -1) (σ' := σ) (τ' := gs τ 4172 0) h ?_ ?_ rfl rfl rfl
    · unfold f_X10_view
      simp only [c_hr_f q1 hx, Option.bind_some]
      rfl
    · unfold f_X11_view
      simp only [m_isRider_f (τ := gs τ 4172 0) q2 hQ hx, Option.bind_some]
      rfl
