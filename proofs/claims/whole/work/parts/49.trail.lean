/-! ===== convinces, trail ===== -/
theorem coreC_fr {σ σ' : jT} (h1 : ∀ i, i < 3010 → σ'.1 i = σ.1 i) (h2 : ∀ o, o ≤ 48 ∨ o = 62 → o ≠ 10 → o ≠ 11 → σ'.2 o = σ.2 o) : coreC σ' = coreC σ := by
  have hp : pastC σ' = pastC σ := by
    funext i
    unfold pastC
    split <;> exact h2 _ (by decide) (by decide) (by decide)
  have hk : keptC σ' = keptC σ := by
    funext i
    unfold keptC
    split <;> exact h2 _ (by decide) (by decide) (by decide)
  unfold coreC
  rw [hp, hk, h1 65 (by decide), h1 195 (by decide), h1 196 (by decide), h1 197 (by decide), h1 452 (by decide), h1 898 (by decide), h1 899 (by decide), h1 900 (by decide), h1 3009 (by decide), h1 12 (by decide),
    h2 2 (by decide) (by decide) (by decide), h2 4 (by decide) (by decide) (by decide), h2 5 (by decide) (by decide) (by decide), h2 6 (by decide) (by decide) (by decide), h2 13 (by decide) (by decide) (by decide), h2 8 (by decide) (by decide) (by decide), h2 48 (by decide) (by decide) (by decide), h2 62 (by decide) (by decide) (by decide)]
theorem coreM_fr {τ τ' : jT} (h1 : ∀ i, i ∈ [4161, 4164, 4165, 4169, 4171, 4184, 4189, 4203, 4208] → τ'.1 i = τ.1 i) (h2 : ∀ o, o ∈ [66, 67, 68, 69, 70, 71, 72, 77, 79, 88, 92, 93, 94] → τ'.2 o = τ.2 o) : coreM τ' = coreM τ := by
  unfold coreM
  rw [h1 4161 (by decide), h1 4164 (by decide), h1 4165 (by decide), h1 4169 (by decide), h1 4171 (by decide), h1 4184 (by decide), h1 4189 (by decide), h1 4203 (by decide), h1 4208 (by decide),
    h2 66 (by decide), h2 67 (by decide), h2 68 (by decide), h2 69 (by decide), h2 70 (by decide), h2 71 (by decide), h2 72 (by decide), h2 77 (by decide), h2 79 (by decide), h2 88 (by decide), h2 92 (by decide), h2 93 (by decide), h2 94 (by decide)]
theorem rD_fr {P Q A f g : Nat} {σ τ σ' τ' : jT} (hQ : Q ≤ 6) (h : rD P Q A f g σ τ) (a1 : σ'.2 6 = σ.2 6) (a2 : σ'.2 50 = σ.2 50) (a3 : σ'.2 51 = σ.2 51) (a4 : σ'.2 52 = σ.2 52) (a5 : σ'.2 53 = σ.2 53) (a6 : σ'.2 54 = σ.2 54) (a7 : σ'.1 3144 = σ.1 3144) (a8 : σ'.1 3145 = σ.1 3145) (a9 : σ'.1 3146 = σ.1 3146) (b1 : τ'.2 69 = τ.2 69) (b2 : τ'.2 70 = τ.2 70) (b3 : τ'.2 A = τ.2 A) : rD P Q A f g σ' τ' := by
  obtain ⟨c1, c2, c3, c4, c5, c6, c7, c8, c9, d0, d1⟩ := h
  exact ⟨c1, c2, c3, by rw [a2]; exact c4, by rw [a2]; exact c5, by rw [b3]; exact c6, by rw [b3]; exact c7, by rw [b3, a7]; exact c8, by rw [b3, a8, a9]; exact c9, rDi_congr d0 a1 a3 a4 a5 a6 b1 b2 (fun z _ => by rw [b3]) hQ c1, rDi_congr d1 a1 a3 a4 a5 a6 b1 b2 (fun z _ => by rw [b3]) hQ c2⟩
theorem bind_eta (q : Option (Int32 × jT)) : (q.bind fun q => some (q.1, q.2)) = q := by cases q <;> rfl
/-- who is convinced first -/
theorem conv_end {n P Q f g r k : Nat} {σ τ : jT} (h : rAll n P Q σ τ) (ht : τ.1 4172 = 0) (hD : rD P Q 82 f g σ τ) (hr : r < Q) (e1 : σ.1 3147 = nI r) (e2 : τ.1 4187 = nI r) (e3 : σ.1 3146 = nI k) : rEq n (f_X10_convinces_b60 σ) ((f_X11_tell (nI k) (gs τ 4171 0)).bind fun q6 => if ¬ (q6.2.1 4187) = nI f then f_X11_convinces_b88 (nI f) q6.2 else f_X11_convinces_b88 (nI g) q6.2) := by
  obtain ⟨-, -, ⟨hQ, -⟩, -⟩ := id h
  obtain ⟨hf, hg, hfg, w0, w1, r1, r2, -, st, d0, d1⟩ := id hD
  obtain ⟨⟨m, s, hs, hm1, hm, m1, m2, s1, l1⟩, -⟩ := d0
  obtain ⟨⟨m', s', hs', hm1', hm', m1', m2', s1', l1'⟩, -⟩ := d1
  have et := m_tell1 τ (nI k)
  unfold mRow0 at et
  unfold f_X10_convinces_b60 f_X5_latest f_X5_taken f_X5_leftBeside
  rw [et]
  simp only [bnd]
  have e2' : (mRow1 τ (nI k)).1 4187 = nI r := e2
  rw [e1, e3, if_pos (ja_neg1 (by omega)), w0, e2']
  have fin : ∀ (l : Int32) (t : Nat), f_X11_leftOf_82 (nI t) (mRow1 τ (nI k)) = some (l, mRow1 τ (nI k)) → rEq n ((f_X6_tell_ (nI k) l σ).bind fun q6 => some (q6.2.1 3147, q6.2)) (f_X11_convinces_b88 (nI t) (mRow1 τ (nI k))) := by
    intro l t hl
    unfold f_X11_convinces_b88
    rw [hl, c_tell2]
    simp only [bnd]
    rw [m_tell2]
    simp only [bnd]
    have z1 : (cRow2 σ (nI k) l).1 3147 = nI r := e1
    have z2 : (mRow2 τ (nI k) l).1 4187 = nI r := e2
    rw [z1, z2]
    exact rEq_row h rfl rfl rfl rfl (rW2 _ _ _ _) ht
  by_cases hrf : nI r = nI f
  · rw [if_neg (fun q => q hrf), if_neg (fun q => q hrf)]
    simp only [bnd]
    rw [l1']
    exact fin _ g (m_left82 (τ := mRow1 τ (nI k)) (by omega) hm' hs' m2' s1')
  · rw [if_pos hrf, if_pos hrf]
    simp only [bnd]
    rw [l1]
    exact fin _ f (m_left82 (τ := mRow1 τ (nI k)) (by omega) hm hs m2 s1)
theorem conv_loop {n P Q f g : Nat} (hQ : Q ≤ 6) : ∀ (m k fu : Nat) (σ τ : jT), k + m = 200 → m + 1 < fu → rAll n P Q σ τ → τ.1 4172 = 0 → rD P Q 82 f g σ τ → σ.1 3146 = nI k → σ.1 3147 = -1 → rEq n (f_X10_convinces_b25 fu (nI k) σ) (f_X11_convinces_b28 fu (nI f) (nI g) (nI (k + 1)) τ) := by
  intro m
  induction m with
  | zero =>
    intro k fu σ τ hk hfu h ht hD e1 e2
    obtain ⟨fu, rfl⟩ : ∃ f', fu = f' + 1 := ⟨fu - 1, by omega⟩
    have hk2 : k = 200 := by omega
    subst hk2
    rw [f_X10_convinces_b25, f_X11_convinces_b28, if_pos (by decide), if_pos (by decide)]
    unfold f_X10_convinces_b60 f_X5_latest
    simp only [bnd]
    rw [e2, if_neg (by simp)]
    exact rEq_same h rfl rfl rfl rfl ht
  | succ m ih =>
    intro k fu σ τ hk hfu h ht hD e1 e2
    obtain ⟨fu, rfl⟩ : ∃ f', fu = f' + 1 := ⟨fu - 1, by omega⟩
    have h200 : ¬ (200 : Int32) ≤ nI k := fun q => by rw [show (200 : Int32) = nI 200 from rfl, ja_le (by omega) (by omega)] at q; omega
    have h200' : ¬ (200 : Int32) < nI (k + 1) := fun q => by rw [show (200 : Int32) = nI 200 from rfl, ja_lt (by omega) (by omega)] at q; omega
    obtain ⟨-, hL, -, -, hU, -⟩ := id h
    rw [f_X10_convinces_b25, f_X11_convinces_b28, if_neg h200, if_neg h200']
    unfold f_X5_latest
    simp only [bnd]
    rw [e2, if_neg (by simp)]
    rcases step_82 hQ hL hU hD with ⟨g1, g2, g3⟩ | ⟨σ1, τ1, g1, g2, -, hst⟩
    · rw [g1, g2]
      simp only [bnd]
      rw [if_pos (by simp), if_pos (by simp)]
      unfold f_X10_convinces_b60 f_X5_latest
      simp only [bnd]
      have e2' : (gs σ 3148 1).1 3147 = -1 := e2
      rw [e2', if_neg (by simp)]
      exact rEq_same h rfl rfl rfl rfl ht
    · rw [g1, g2]
      simp only [bnd]
      rw [if_neg (by decide), if_neg (by decide), ← nI_succ, ← nI_succ]
      obtain ⟨s1, s2, s3, s4, s5, s6, s7, s8, s9, -⟩ := hst
      have h1 := q_all h (frC_q s1) (frM_q s2)
      have ht1 := q_th (frM_q s2) ht
      have e1' : σ1.1 3146 = nI (k + 1) := by rw [s6, e1, nI_succ]
      rcases s9 with ⟨y, y2⟩ | ⟨r, hr, y, y2⟩
      · rw [if_neg (by rw [y]; simp)]
        exact ih (k + 1) fu σ1 τ1 (by omega) (by omega) h1 ht1 s3 e1' (y2.trans e2)
      · rw [if_pos (by rw [y]; exact ja_neg1 (by omega))]
        have hc : f_X10_convinces_b25 fu (nI (k + 1)) σ1 = f_X10_convinces_b60 σ1 := by
          obtain ⟨fu, rfl⟩ : ∃ f', fu = f' + 1 := ⟨fu - 1, by omega⟩
          rw [f_X10_convinces_b25]
          by_cases hz : (200 : Int32) ≤ nI (k + 1)
          · rw [if_pos hz]
          · rw [if_neg hz]
            unfold f_X5_latest
            simp only [bnd]
            rw [y2, if_pos (ja_neg1 (by omega))]
        rw [hc]
        exact conv_end h1 ht1 s3 hr y2 y e1'
theorem eq_convinces {n P Q : Nat} {σ τ : jT} (h : rAll n P Q σ τ) (x y z : Int32) : rEq n (f_X10_convinces x y z σ) (f_X11_convinces x y z τ) := by
  have h0 : rAll n P Q σ (gs τ 4172 0) := rAll_core h rfl rfl
  unfold f_X10_convinces f_X11_convinces
  rcases can_both h0 x y z with ⟨f, g, p, hf, hg, hfg, hp, rfl, rfl, rfl, e1, e2⟩ | ⟨e1, e2⟩
  · rw [e1, e2]
    simp only [bnd]
    rw [if_pos (by decide), if_pos (by decide)]
    obtain ⟨σ1, τ1, b1, b2, b3, b4, b5, b6, -⟩ := bg_82 (rG_of h0) hf hg hfg (Or.inl hp)
    have h1 := q_all h0 b3 b4
    obtain ⟨-, -, ⟨hQ, -⟩, -⟩ := id h1
    rw [b1, b2]
    simp only [bnd]
    exact conv_loop hQ 200 0 1000 σ1 τ1 (by omega) (by omega) h1 (q_th b4 rfl) b5 b6.1 b6.2.1
  · rw [e1, e2]
    exact rEq_same h0 rfl rfl rfl rfl rfl
/-- how often each PLACE was come by, told -/
theorem tv_loop {n P Q p : Nat} {x4 : Int32} {σ τ : jT} {vv : Nat → Nat} (h : rAll n P Q σ τ) (ht : τ.1 4172 = 0) (hx4 : σ.1 3146 = x4) (hv : ∀ i, i < 10 → σ.2 64 i = nI (vv i) ∧ τ.2 83 i = nI (vv i) ∧ vv i ≤ 201) (hp : p < P) (hvp : 1 ≤ vv p) : ∀ (m k fu : Nat) (s mo ol x6 : Int32), k + m = P → m < fu → ((∃ b, b < P ∧ mo = nI (vv b) ∧ ol = nI b ∧ x6 = nI b) ∨ (mo = 0 ∧ ol = -1 ∧ x6 = nI 0 ∧ ∀ i, i < k → vv i = 0)) → rEq n (f_X10_tellVisits_b9 fu s mo ol (nI k) σ) (f_X11_trail_b111 fu x4 s x6 (nI k) τ) := by
  obtain ⟨-, ⟨hP, l1, l2, -⟩, -⟩ := id h
  intro m
  induction m with
  | zero =>
    intro k fu s mo ol x6 hk hfu hc
    obtain ⟨fu, rfl⟩ : ∃ f', fu = f' + 1 := ⟨fu - 1, by omega⟩
    rw [f_X10_tellVisits_b9, f_X11_trail_b111]
    unfold f_X3_places f_X5_taken
    simp only [bnd]
    have hle : nI P ≤ nI k := (ja_le (by omega) (by omega)).mpr (by omega)
    rw [l1, l2, if_pos hle, if_pos hle, hx4]
    rcases hc with ⟨b, hb, rfl, rfl, rfl⟩ | ⟨-, -, -, hz⟩
    · have et := m_tell1 τ x4
      unfold mRow0 at et
      rw [et]
      simp only [bnd]
      have y : (mRow1 τ x4).2 83 b = nI (vv b) := (hv b (by omega)).2.1
      rw [if_pos (ja_in (by omega) (by omega)), nI_clamp (by omega), y, m_tell2, c_tell3]
      simp only [bnd]
      rw [m_tell3]
      exact rEq_row h rfl rfl rfl rfl (rW3 _ _ _ _ _) ht
    · have := hz p (by omega)
      omega
  | succ m ih =>
    intro k fu s mo ol x6 hk hfu hc
    obtain ⟨fu, rfl⟩ : ∃ f', fu = f' + 1 := ⟨fu - 1, by omega⟩
    obtain ⟨v1, v2, v3⟩ := hv k (by omega)
    rw [f_X10_tellVisits_b9, f_X11_trail_b111]
    unfold f_X3_places f_X10_tellVisits_b40 f_X10_tellVisits_b64 f_X11_trail_b140 f_X11_trail_b164
    simp only [bnd]
    have hle : ¬ nI P ≤ nI k := fun q => by rw [ja_le (by omega) (by omega)] at q; omega
    have hin : jx_in (nI k) 10 := ja_in (by omega) (by omega)
    rw [l1, l2, if_neg hle, if_neg hle]
    simp only [if_pos hin]
    rw [nI_clamp (by omega), v1, v2, ← nI_succ]
    have main : ∀ s' : Int32, rEq n (if nI (vv k) ≤ mo then f_X10_tellVisits_b9 fu s' mo ol (nI (k + 1)) σ else f_X10_tellVisits_b9 fu s' (nI (vv k)) (nI k) (nI (k + 1)) σ) (if jx_in x6 10 then if nI (vv k) ≤ τ.2 83 x6.toNatClampNeg then f_X11_trail_b111 fu x4 s' x6 (nI (k + 1)) τ else f_X11_trail_b111 fu x4 s' (nI k) (nI (k + 1)) τ else none) := by
      intro s'
      rcases hc with ⟨b, hb, rfl, rfl, rfl⟩ | ⟨rfl, rfl, rfl, hz⟩
      · obtain ⟨u1, u2, u3⟩ := hv b (by omega)
        rw [if_pos (ja_in (by omega) (by omega)), nI_clamp (by omega), u2]
        by_cases hle : nI (vv k) ≤ nI (vv b)
        · rw [if_pos hle, if_pos hle]
          exact ih (k + 1) fu _ _ _ _ (by omega) (by omega) (Or.inl ⟨b, hb, rfl, rfl, rfl⟩)
        · rw [if_neg hle, if_neg hle]
          exact ih (k + 1) fu _ _ _ _ (by omega) (by omega) (Or.inl ⟨k, by omega, rfl, rfl, rfl⟩)
      · obtain ⟨u1, u2, u3⟩ := hv 0 (by omega)
        rw [if_pos (ja_in (by omega) (by omega)), nI_clamp (by omega), u2]
        by_cases h0 : vv k = 0
        · rw [h0, if_pos (by decide), if_pos ((ja_le (by omega) (by omega)).mpr (by omega))]
          refine ih (k + 1) fu _ _ _ _ (by omega) (by omega) (Or.inr ⟨rfl, rfl, rfl, fun i hi => ?_⟩)
          by_cases hik : i = k
          · rw [hik]; exact h0
          · exact hz i (by omega)
        · rw [if_neg (nI_nle (by omega) (by omega))]
          by_cases hk0 : k = 0
          · subst hk0
            rw [if_pos ((ja_le (by omega) (by omega)).mpr (by omega))]
            exact ih (0 + 1) fu _ _ _ _ (by omega) (by omega) (Or.inl ⟨0, by omega, rfl, rfl, rfl⟩)
          · have := hz 0 (by omega)
            rw [if_neg (fun q => by rw [ja_le (by omega) (by omega)] at q; omega)]
            exact ih (k + 1) fu _ _ _ _ (by omega) (by omega) (Or.inl ⟨k, by omega, rfl, rfl, rfl⟩)
    by_cases h0 : nI (vv k) ≤ 0
    · rw [if_pos h0, if_pos h0]
      exact main _
    · rw [if_neg h0, if_neg h0]
      exact main _
theorem tr_loop {n P Q f g p : Nat} (hQ : Q ≤ 6) (hp : p < P) : ∀ (m k fu : Nat) (σ τ : jT) (vv : Nat → Nat), k + m = 200 → m < fu → rAll n P Q σ τ → τ.1 4172 = 0 → rD P Q 82 f g σ τ → σ.1 3146 = nI k → (∀ i, i < 10 → σ.2 64 i = nI (vv i) ∧ τ.2 83 i = nI (vv i) ∧ vv i ≤ 1 + k) → 1 ≤ vv p → rEq n (f_X10_trail_b56 fu (nI k) σ) (f_X11_trail_b62 fu (nI k) τ) := by
  intro m
  have fin : ∀ (k : Nat) (σ τ : jT) (vv : Nat → Nat), k ≤ 200 → rAll n P Q σ τ → τ.1 4172 = 0 → σ.1 3146 = nI k → (∀ i, i < 10 → σ.2 64 i = nI (vv i) ∧ τ.2 83 i = nI (vv i) ∧ vv i ≤ 1 + k) → 1 ≤ vv p → rEq n (f_X10_trail_b113 σ) (f_X11_trail_b102 (nI k) τ) := by
    intro k σ τ vv hk h ht e hv hvp
    unfold f_X10_trail_b113 f_X10_tellVisits f_X11_trail_b102
    rw [bind_eta]
    exact tv_loop (vv := vv) h ht e (fun i hi => ⟨(hv i hi).1, (hv i hi).2.1, by have := (hv i hi).2.2; omega⟩) hp hvp P 0 1000 _ _ _ _ (by omega) (by have := h.2.1.1; omega) (Or.inr ⟨rfl, rfl, rfl, fun i hi => by omega⟩)
  induction m with
  | zero =>
    intro k fu σ τ vv hk hfu h ht hD e hv hvp
    obtain ⟨fu, rfl⟩ : ∃ f', fu = f' + 1 := ⟨fu - 1, by omega⟩
    have hle : (200 : Int32) ≤ nI k := (ja_le (a := 200) (by omega) (by omega)).mpr (by omega)
    rw [f_X10_trail_b56, f_X11_trail_b62, if_pos hle, if_pos hle]
    exact fin k σ τ vv (by omega) h ht e hv hvp
  | succ m ih =>
    intro k fu σ τ vv hk hfu h ht hD e hv hvp
    obtain ⟨fu, rfl⟩ : ∃ f', fu = f' + 1 := ⟨fu - 1, by omega⟩
    have hle : ¬ (200 : Int32) ≤ nI k := fun q => by rw [show (200 : Int32) = nI 200 from rfl, ja_le (by omega) (by omega)] at q; omega
    obtain ⟨-, hL, -, -, hU, -⟩ := id h
    rw [f_X10_trail_b56, f_X11_trail_b62, if_neg hle, if_neg hle]
    rcases step_82 hQ hL hU hD with ⟨g1, g2, g3⟩ | ⟨σ1, τ1, g1, g2, -, hst⟩
    · rw [g1, g2]
      simp only [bnd]
      rw [if_pos (by simp), if_pos (by simp)]
      exact fin k (gs σ 3148 1) τ vv (by omega) (rAll_core h rfl rfl) ht e hv hvp
    · rw [g1, g2]
      simp only [bnd]
      rw [if_neg (by decide), if_neg (by decide), ← nI_succ]
      obtain ⟨s1, s2, s3, s4, s5, s6, s7, s8, s9, q, hq, s10⟩ := hst
      have h1 := q_all h (frC_q s1) (frM_q s2)
      have ht1 := q_th (frM_q s2) ht
      obtain ⟨-, ⟨hP, l1, -⟩, -⟩ := id h1
      obtain ⟨-, -, -, -, -, -, -, ⟨q', -, pc, pm⟩, -⟩ := id s3
      have hqq : nI q' = nI q := pc.symm.trans s10
      rw [hqq] at pm
      have v64 : σ1.2 64 = σ.2 64 := s1.2 64 (by decide) (by decide) (by decide) (by decide) (by decide)
      have v83 : τ1.2 83 = τ.2 83 := s2.2 83 (by decide) (by decide)
      unfold f_X5_spot f_X10_trail_b107
      simp only [bnd]
      rw [s10, pm, c_hp_t l1 hP hq]
      simp only [bnd]
      obtain ⟨v1, v2, v3⟩ := hv q (by omega)
      rw [if_neg (by decide), s10, if_pos (ja_in (by omega) (by omega)), if_pos (ja_in (by omega) (by omega)), nI_clamp (by omega), v64, v83, v1, v2, ← nI_succ, ← nI_succ]
      refine ih (k + 1) fu _ _ (fun i => if i = q then vv q + 1 else vv i) (by omega) (by omega) (rAll_core h1 rfl rfl) ht1 (rD_fr hQ s3 rfl rfl rfl rfl rfl rfl rfl rfl rfl rfl rfl rfl) (by show σ1.1 3146 = _; rw [s6, e, nI_succ]) (fun i hi => ?_) ?_
      · by_cases hiq : i = q
        · refine ⟨?_, ?_, ?_⟩
          · show (if 64 = 64 ∧ i = q then nI (vv q + 1) else σ1.2 64 i) = nI (if i = q then vv q + 1 else vv i)
            rw [if_pos ⟨rfl, hiq⟩, if_pos hiq]
          · show (if 83 = 83 ∧ i = q then nI (vv q + 1) else τ1.2 83 i) = nI (if i = q then vv q + 1 else vv i)
            rw [if_pos ⟨rfl, hiq⟩, if_pos hiq]
          · show (if i = q then vv q + 1 else vv i) ≤ 1 + (k + 1)
            rw [if_pos hiq]; omega
        · obtain ⟨a1, a2, a3⟩ := hv i hi
          refine ⟨?_, ?_, ?_⟩
          · show (if 64 = 64 ∧ i = q then nI (vv q + 1) else σ1.2 64 i) = nI (if i = q then vv q + 1 else vv i)
            rw [if_neg (fun z => hiq z.2), if_neg hiq, v64, a1]
          · show (if 83 = 83 ∧ i = q then nI (vv q + 1) else τ1.2 83 i) = nI (if i = q then vv q + 1 else vv i)
            rw [if_neg (fun z => hiq z.2), if_neg hiq, v83, a2]
          · show (if i = q then vv q + 1 else vv i) ≤ 1 + (k + 1)
            rw [if_neg hiq]; omega
      · show 1 ≤ if p = q then vv q + 1 else vv p
        split <;> omega
theorem tr_zero (x1 x2 x3 : Int32) : ∀ (m k fu : Nat) (σ : jT), k + m = 10 → m < fu → (∀ i, i < k → σ.2 64 i = 0) → ∃ σ', f_X10_trail_b15 fu x1 x2 x3 (nI k) σ = ((f_X5_begin x1 x2 x3 σ').bind fun q2 => if jx_in x3 10 then f_X10_trail_b56 1000 0 (gA q2.2 64 x3.toNatClampNeg 1) else none) ∧ σ'.1 = σ.1 ∧ (∀ o, o ≠ 64 → σ'.2 o = σ.2 o) ∧ ∀ i, i < 10 → σ'.2 64 i = 0 := by
  intro m
  induction m with
  | zero =>
    intro k fu σ hk hfu hz
    obtain ⟨fu, rfl⟩ : ∃ f', fu = f' + 1 := ⟨fu - 1, by omega⟩
    have hle : (10 : Int32) ≤ nI k := (ja_le (a := 10) (by omega) (by omega)).mpr (by omega)
    rw [f_X10_trail_b15, if_pos hle]
    exact ⟨σ, rfl, rfl, fun _ _ => rfl, fun i hi => hz i (by omega)⟩
  | succ m ih =>
    intro k fu σ hk hfu hz
    obtain ⟨fu, rfl⟩ : ∃ f', fu = f' + 1 := ⟨fu - 1, by omega⟩
    have hle : ¬ (10 : Int32) ≤ nI k := fun q => by rw [show (10 : Int32) = nI 10 from rfl, ja_le (by omega) (by omega)] at q; omega
    rw [f_X10_trail_b15, if_neg hle, if_pos (ja_in (by omega) (by omega)), nI_clamp (by omega), ← nI_succ]
    obtain ⟨σ', e1, e2, e3, e4⟩ := ih (k + 1) fu (gA σ 64 k 0) (by omega) (by omega) (fun i hi => by
      show (if 64 = 64 ∧ i = k then 0 else σ.2 64 i) = _
      by_cases hik : i = k
      · rw [if_pos ⟨rfl, hik⟩]
      · rw [if_neg (fun z => hik z.2)]; exact hz i (by omega))
    refine ⟨σ', e1, e2, fun o ho => ?_, e4⟩
    rw [e3 o ho]
    funext z
    show (if o = 64 ∧ _ then _ else σ.2 o z) = _
    rw [if_neg (fun q => ho q.1)]
theorem tr_set {p : Nat} (hp : p < 10) : ∀ (m k fu : Nat) (τ : jT), k + m = 10 → m < fu → (∀ i, i < k → τ.2 83 i = nI (if i = p then 1 else 0)) → ∃ τ', f_X11_trail_b28 fu (nI p) (nI k) τ = f_X11_trail_b62 1000 0 τ' ∧ τ'.1 = τ.1 ∧ (∀ o, o ≠ 83 → τ'.2 o = τ.2 o) ∧ ∀ i, i < 10 → τ'.2 83 i = nI (if i = p then 1 else 0) := by
  intro m
  induction m with
  | zero =>
    intro k fu τ hk hfu hz
    obtain ⟨fu, rfl⟩ : ∃ f', fu = f' + 1 := ⟨fu - 1, by omega⟩
    have hle : (10 : Int32) ≤ nI k := (ja_le (a := 10) (by omega) (by omega)).mpr (by omega)
    rw [f_X11_trail_b28, if_pos hle]
    exact ⟨τ, rfl, rfl, fun _ _ => rfl, fun i hi => hz i (by omega)⟩
  | succ m ih =>
    intro k fu τ hk hfu hz
    obtain ⟨fu, rfl⟩ : ∃ f', fu = f' + 1 := ⟨fu - 1, by omega⟩
    have hle : ¬ (10 : Int32) ≤ nI k := fun q => by rw [show (10 : Int32) = nI 10 from rfl, ja_le (by omega) (by omega)] at q; omega
    have hgo : ∀ v : Int32, v = nI (if k = p then 1 else 0) → ∃ τ', f_X11_trail_b28 fu (nI p) (nI (k + 1)) (gA τ 83 k v) = f_X11_trail_b62 1000 0 τ' ∧ τ'.1 = τ.1 ∧ (∀ o, o ≠ 83 → τ'.2 o = τ.2 o) ∧ ∀ i, i < 10 → τ'.2 83 i = nI (if i = p then 1 else 0) := by
      intro v hv
      obtain ⟨τ', e1, e2, e3, e4⟩ := ih (k + 1) fu (gA τ 83 k v) (by omega) (by omega) (fun i hi => by
        show (if 83 = 83 ∧ i = k then v else τ.2 83 i) = _
        by_cases hik : i = k
        · rw [if_pos ⟨rfl, hik⟩, hv, hik]
        · rw [if_neg (fun z => hik z.2)]; exact hz i (by omega))
      refine ⟨τ', e1, e2, fun o ho => ?_, e4⟩
      rw [e3 o ho]
      funext z
      show (if o = 83 ∧ _ then _ else τ.2 o z) = _
      rw [if_neg (fun q => ho q.1)]
    rw [f_X11_trail_b28, if_neg hle]
    unfold f_X11_trail_b52
    rw [if_pos (ja_in (by omega) (by omega)), if_pos (ja_in (by omega) (by omega)), nI_clamp (by omega), ← nI_succ]
    by_cases hkp : k = p
    · rw [if_neg (fun q => q (by rw [hkp]))]
      exact hgo 1 (by rw [if_pos hkp]; rfl)
    · rw [if_pos (fun q => hkp ((ja_eq (by omega) (by omega)).mp q))]
      exact hgo 0 (by rw [if_neg hkp]; rfl)
theorem eq_trail {n P Q : Nat} {σ τ : jT} (h : rAll n P Q σ τ) (x y z : Int32) : rEq n (f_X10_trail x y z σ) (f_X11_trail x y z τ) := by
  have h0 : rAll n P Q σ (gs τ 4172 0) := rAll_core h rfl rfl
  have hP := h.2.1.1
  have hQ := h.2.2.1.1
  unfold f_X10_trail f_X11_trail
  rcases can_both h0 x y z with ⟨f, g, p, hf, hg, hfg, hp, rfl, rfl, rfl, e1, e2⟩ | ⟨e1, e2⟩
  · rw [e1, e2]
    simp only [bnd]
    rw [if_pos (by decide), if_pos (by decide)]
    obtain ⟨σz, z1, z2, z3, z4⟩ := tr_zero (nI f) (nI g) (nI p) 10 0 1000 σ (by omega) (by omega) (fun i hi => by omega)
    have hz : rAll n P Q σz (gs τ 4172 0) := rAll_core h0 (coreC_fr (fun i _ => by rw [z2]) (fun o ho _ _ => z3 o (by omega))) rfl
    obtain ⟨σ1, τ1, b1, b2, b3, b4, b5, b6, -⟩ := bg_82 (rG_of hz) hf hg hfg (Or.inl hp)
    have h1 := q_all hz b3 b4
    obtain ⟨τ2, t1, t2, t3, t4⟩ := tr_set (p := p) (by omega) 10 0 1000 τ1 (by omega) (by omega) (fun i hi => by omega)
    have z1' : f_X10_trail_b15 1000 (nI f) (nI g) (nI p) 0 σ = _ := z1
    have t1' : f_X11_trail_b28 1000 (nI p) 0 τ1 = _ := t1
    rw [z1', b1, b2]
    simp only [bnd]
    rw [t1', if_pos (ja_in (by omega) (by omega)), nI_clamp (by omega)]
    have h2 : rAll n P Q (gA σ1 64 p 1) τ2 := rAll_core h1 rfl (coreM_fr (fun i _ => by rw [t2]) (fun o ho => t3 o (fun q => by subst q; exact absurd ho (by decide))))
    refine tr_loop (f := f) (g := g) (p := p) hQ hp 200 0 1000 _ τ2 (fun i => if i = p then 1 else 0) (by omega) (by omega) h2 (by rw [t2]; exact q_th b4 rfl) (rD_fr hQ b5 rfl rfl rfl rfl rfl rfl rfl rfl rfl (t3 69 (by decide)) (t3 70 (by decide)) (t3 82 (by decide))) b6.1 (fun i hi => ⟨?_, t4 i hi, by split <;> omega⟩) (by simp)
    show (if 64 = 64 ∧ i = p then 1 else σ1.2 64 i) = _
    by_cases hip : i = p
    · rw [if_pos ⟨rfl, hip⟩, if_pos hip]; rfl
    · rw [if_neg (fun z => hip z.2), if_neg hip, b3.2 64 (by decide) (by decide) (by decide)]
      exact z4 i hi
  · rw [e1, e2]
    exact rEq_same h0 rfl rfl rfl rfl rfl
