/-! ===== rides of pairs: partner, record, pairs ===== -/
theorem coreCr_of {σ σ' : jT} (h : coreC σ' = coreC σ) : coreCr σ' = coreCr σ := by
  simp only [coreC, Prod.mk.injEq] at h
  obtain ⟨⟨a1, a2⟩, ⟨a3, a4, a5, a6⟩, ⟨a7, a8⟩, a9, ⟨a10, a11⟩, ⟨a12, a13, a14⟩, ⟨a15, a16⟩, ⟨a17, a18⟩, ⟨a19, a20⟩⟩ := h
  unfold coreCr
  rw [a1, a2, a3, a4, a5, a6, a7, a8, a9, a10, a11, a12, a13, a14, a15, a16, a19, a20]
theorem coreMr_of {τ τ' : jT} (h : coreM τ' = coreM τ) : coreMr τ' = coreMr τ := by
  simp only [coreM, Prod.mk.injEq] at h
  obtain ⟨⟨b1, b2⟩, ⟨b3, b4, b5, b6⟩, ⟨b7, b8, b9⟩, b10, ⟨b11, b12⟩, ⟨b13, b14⟩, ⟨b15, b16, b17, b18⟩, ⟨b19, b20⟩, ⟨b21, b22⟩⟩ := h
  unfold coreMr
  rw [b1, b2, b3, b4, b5, b6, b7, b8, b9, b10, b11, b12, b13, b14, b15, b16, b17, b18, b21, b22]
theorem steps_both {P Q f g p : Nat} {σ τ : jT} (h : rG P Q σ τ) (hf : f < Q) (hg : g < Q) (hfg : f ≠ g) (hp : p < P) : ∃ k σ' τ', k ≤ 200 ∧ f_X10_stepsOf (nI f) (nI g) (nI p) σ = some (nI k, σ') ∧ f_X11_stepsOf (nI f) (nI g) (nI p) τ = some (nI k, τ') ∧ qC σ σ' ∧ qM τ τ' := by
  obtain ⟨σ1, τ1, b1, b2, b3, b4, b5, b6, -⟩ := bg_82 h hf hg hfg (Or.inl hp)
  obtain ⟨hL1, ⟨hQ, -⟩, -, hU1⟩ := q_G h b3 b4
  obtain ⟨k, σ2, τ2, g1, g2, g3, g4, g5, g6, g7, -⟩ := ride_82 (N := 200) hQ (by omega) hL1 hU1 b5 b6
  refine ⟨k, σ2, τ2, g3, ?_, ?_, qC_trans b3 g4, qM_trans b4 g5⟩
  · unfold f_X10_stepsOf f_X5_taken
    have g1' : f_X5_go 200 σ1 = some (0, σ2) := g1
    rw [b1]
    simp only [bnd]
    rw [g1']
    simp only [bnd]
    rw [g7]
  · unfold f_X11_stepsOf
    have g2' : f_X11_goRide_82 200 τ1 = some (nI k, τ2) := g2
    rw [b2]
    simp only [bnd]
    rw [g2']; rfl
theorem pick_loop {n P Q f p : Nat} (hf : f < Q) (hp : p < P) (hQ6 : Q ≤ 6) : ∀ (m k fu : Nat) (a b c d : Int32) (σ τ : jT), k + m = Q → m < fu → rAll n P Q σ τ → τ.1 4172 = 0 → ((a = -1 ∧ b = -1 ∧ c = -2 ∧ d = -1) ∨ ∃ s r, s ≤ 200 ∧ r < Q ∧ a = nI s ∧ b = nI r ∧ c = nI r ∧ d = nI s) → rEq n (f_X10_partner_b32 fu (nI f) (nI p) a b (nI k) σ) (f_X11_partner_b32 fu (nI f) (nI p) c d (nI k) τ) := by
  intro m
  induction m with
  | zero =>
    intro k fu a b c d σ τ hk hfu h ht hc
    obtain ⟨fu, rfl⟩ : ∃ f', fu = f' + 1 := ⟨fu - 1, by omega⟩
    obtain ⟨-, -, ⟨hQ, q1, q2, -⟩, -⟩ := id h
    rw [f_X10_partner_b32, f_X11_partner_b32]
    unfold f_X3_riderCount
    simp only [bnd]
    have hle : nI Q ≤ nI k := (ja_le (by omega) (by omega)).mpr (by omega)
    rw [q1, q2, if_pos hle, if_pos hle]
    rcases hc with ⟨rfl, rfl, rfl, rfl⟩ | ⟨s, r, hs, hr, rfl, rfl, rfl, rfl⟩
    · rw [if_neg (by simp), if_neg (by decide)]
      exact rEq_same h rfl rfl rfl rfl ht
    · have et := m_tell1 τ (nI s)
      unfold mRow0 at et
      rw [if_pos (ja_neg1 (by omega)), if_pos (show (0 : Int32) ≤ nI r from Int32.not_lt.mp (nI_pos (by omega))), c_tell1, et]
      exact rEq_row h rfl rfl rfl rfl (rW1 _ _ _) ht
  | succ m ih =>
    intro k fu a b c d σ τ hk hfu h ht hc
    obtain ⟨fu, rfl⟩ : ∃ f', fu = f' + 1 := ⟨fu - 1, by omega⟩
    obtain ⟨-, -, ⟨hQ, q1, q2, -⟩, -⟩ := id h
    rw [f_X10_partner_b32, f_X11_partner_b32]
    unfold f_X3_riderCount f_X10_partner_b62 f_X10_partner_b77 f_X11_partner_b77
    simp only [bnd]
    have hle : ¬ nI Q ≤ nI k := fun q => by rw [ja_le (by omega) (by omega)] at q; omega
    rw [q1, q2, if_neg hle, if_neg hle, ← nI_succ]
    by_cases hkf : k = f
    · subst hkf
      have hm1 : (-1 : Int32) ≤ a := by
        rcases hc with ⟨rfl, -⟩ | ⟨s, r, hs, hr, rfl, -⟩
        · decide
        · rw [Int32.le_iff_toInt_le, nI_toInt (by omega), show (-1 : Int32).toInt = -1 by decide]; omega
      rw [if_neg (show ¬ ¬ nI k = nI k from fun q => q rfl), if_neg (show ¬ ¬ nI k = nI k from fun q => q rfl), if_pos hm1]
      exact ih (k + 1) fu a b c d σ τ (by omega) (by omega) h ht hc
    · have hne : ¬ nI k = nI f := fun q => hkf ((ja_eq (by omega) (by omega)).mp q)
      rw [if_pos hne, if_pos hne]
      obtain ⟨j, σ1, τ1, hj, e1, e2, e3, e4⟩ := steps_both (rG_of h) hf (show k < Q by omega) (Ne.symm hkf) hp
      have h1 := q_all h e3 e4
      have ht1 := q_th e4 ht
      rw [e1, e2]
      simp only [bnd]
      rcases hc with ⟨rfl, rfl, rfl, rfl⟩ | ⟨s, r, hs, hr, rfl, rfl, rfl, rfl⟩
      · have y1 : ¬ nI j ≤ (-1 : Int32) := fun q => by
          rw [Int32.le_iff_toInt_le, nI_toInt (by omega), show (-1 : Int32).toInt = -1 by decide] at q; omega
        rw [if_neg y1, if_pos (Int32.not_le.mp y1)]
        exact ih (k + 1) fu _ _ _ _ σ1 τ1 (by omega) (by omega) h1 ht1 (Or.inr ⟨j, k, hj, by omega, rfl, rfl, rfl, rfl⟩)
      · by_cases hjs : j ≤ s
        · rw [if_pos ((ja_le (by omega) (by omega)).mpr hjs), if_neg (fun q => by rw [ja_lt (by omega) (by omega)] at q; omega)]
          exact ih (k + 1) fu _ _ _ _ σ1 τ1 (by omega) (by omega) h1 ht1 (Or.inr ⟨s, r, hs, hr, rfl, rfl, rfl, rfl⟩)
        · rw [if_neg (fun q => by rw [ja_le (by omega) (by omega)] at q; omega), if_pos ((ja_lt (by omega) (by omega)).mpr (by omega))]
          exact ih (k + 1) fu _ _ _ _ σ1 τ1 (by omega) (by omega) h1 ht1 (Or.inr ⟨j, k, hj, by omega, rfl, rfl, rfl, rfl⟩)
theorem eq_partner {n P Q : Nat} {σ τ : jT} (h : rAll n P Q σ τ) (x y : Int32) : rEq n (f_X10_partner x y σ) (f_X11_partner x y τ) := by
  have h0 : rAll n P Q σ (gs τ 4172 0) := rAll_core h rfl rfl
  obtain ⟨-, ⟨hP, l1, l2, -⟩, ⟨hQ, q1, q2, -⟩, -⟩ := id h0
  unfold f_X10_partner f_X11_partner
  rcases vd_cases x (n := Q) (by omega) with ⟨f, hf, rfl⟩ | hx
  · rw [c_hr_t q1 hQ hf, m_isRider_t q2 hQ hf]
    simp only [bnd]
    rw [if_neg (by decide), if_neg (by decide)]
    rcases vd_cases y (n := P) (by omega) with ⟨p, hp, rfl⟩ | hy
    · rw [c_hp_t l1 hP hp, m_isPlace_t l2 hP hp]
      simp only [bnd]
      rw [if_pos (by decide), if_pos (by decide)]
      exact pick_loop hf hp hQ Q 0 1000 _ _ _ _ σ _ (by omega) (by omega) h0 rfl (Or.inl ⟨rfl, rfl, rfl, rfl⟩)
    · rw [c_hp_f l1 hy, m_isPlace_f l2 hP hy]
      exact rEq_same h0 rfl rfl rfl rfl rfl
  · rw [c_hr_f q1 hx, m_isRider_f q2 hQ hx]
    exact rEq_same h0 rfl rfl rfl rfl rfl
/-- record: the row of one first RIDER -/
theorem rec_in {n P Q p i : Nat} (hp : p < P) (hi : i < Q) (hQ6 : Q ≤ 6) (kc km : Int32 → Int32 → Int32 → Int32 → Int32 → Int32 → jT → Option (Int32 × jT)) : ∀ (m j fu : Nat) (a b c d : Int32) (σ τ : jT), j + m = Q → m < fu → rAll n P Q σ τ → τ.1 4172 = 0 → (a = -1 ∨ ∃ s, s ≤ 200 ∧ a = nI s) →
    ∃ a' b' c' d' σ' τ', f_X10_record_b55 kc fu (nI p) a b c d (nI i) (nI j) σ = kc (nI p) a' b' c' d' (nI i + 1) σ' ∧ f_X11_record_b51 km fu (nI p) a b c d (nI i) (nI j) τ = km (nI p) a' b' c' d' (nI i + 1) τ' ∧ rAll n P Q σ' τ' ∧ τ'.1 4172 = 0 ∧ (a' = -1 ∨ ∃ s, s ≤ 200 ∧ a' = nI s) := by
  intro m
  induction m with
  | zero =>
    intro j fu a b c d σ τ hk hfu h ht ha
    obtain ⟨fu, rfl⟩ : ∃ f', fu = f' + 1 := ⟨fu - 1, by omega⟩
    obtain ⟨-, -, ⟨hQ, q1, q2, -⟩, -⟩ := id h
    rw [f_X10_record_b55, f_X11_record_b51]
    unfold f_X3_riderCount
    simp only [bnd]
    have hle : nI Q ≤ nI j := (ja_le (by omega) (by omega)).mpr (by omega)
    rw [q1, q2, if_pos hle, if_pos hle]
    exact ⟨a, b, c, d, σ, τ, rfl, rfl, h, ht, ha⟩
  | succ m ih =>
    intro j fu a b c d σ τ hk hfu h ht ha
    obtain ⟨fu, rfl⟩ : ∃ f', fu = f' + 1 := ⟨fu - 1, by omega⟩
    obtain ⟨-, -, ⟨hQ, q1, q2, -⟩, -⟩ := id h
    rw [f_X10_record_b55, f_X11_record_b51]
    unfold f_X3_riderCount f_X10_record_b87 f_X10_record_b108 f_X10_record_b127 f_X10_record_b128 f_X11_record_b106 f_X11_record_b127
    simp only [bnd]
    have hle : ¬ nI Q ≤ nI j := fun q => by rw [ja_le (by omega) (by omega)] at q; omega
    rw [q1, q2, if_neg hle, if_neg hle, ← nI_succ]
    by_cases hij : i = j
    · subst hij
      have hm1 : (-1 : Int32) ≤ a := by
        rcases ha with rfl | ⟨s, hs, rfl⟩
        · decide
        · rw [Int32.le_iff_toInt_le, nI_toInt (by omega), show (-1 : Int32).toInt = -1 by decide]; omega
      rw [if_neg (show ¬ ¬ nI i = nI i from fun q => q rfl), if_neg (show ¬ ¬ nI i = nI i from fun q => q rfl), if_pos hm1, if_pos rfl, Int32.add_zero]
      exact ih (i + 1) fu a b c d σ τ (by omega) (by omega) h ht ha
    · have hne : ¬ nI i = nI j := fun q => hij ((ja_eq (by omega) (by omega)).mp q)
      rw [if_pos hne, if_pos hne]
      obtain ⟨t, σ1, τ1, hj, e1, e2, e3, e4⟩ := steps_both (rG_of h) hi (show j < Q by omega) hij hp
      have h1 := q_all h e3 e4
      have ht1 := q_th e4 ht
      rw [e1, e2]
      simp only [bnd]
      rw [if_neg hne, if_neg hne]
      by_cases hta : nI t ≤ a
      · have hnl : ¬ a < nI t := Int32.not_lt.mpr hta
        rw [if_pos hta, if_pos hta, if_neg hnl, if_neg hnl]
        by_cases hte : nI t = a
        · rw [if_neg (fun q => q hte), if_neg (fun q => q hte)]
          exact ih (j + 1) fu a b c (d + 1) σ1 τ1 (by omega) (by omega) h1 ht1 ha
        · rw [if_pos hte, if_pos hte, Int32.add_zero]
          exact ih (j + 1) fu a b c d σ1 τ1 (by omega) (by omega) h1 ht1 ha
      · rw [if_neg hta, if_neg hta, if_pos (Int32.not_le.mp hta), if_neg (by simp)]
        exact ih (j + 1) fu (nI t) (nI i) (nI j) (0 + 1) σ1 τ1 (by omega) (by omega) h1 ht1 (Or.inr ⟨t, hj, rfl⟩)
theorem rec_out {n P Q p : Nat} (hp : p < P) (hQ6 : Q ≤ 6) : ∀ (m i fu : Nat) (a b c d : Int32) (σ τ : jT), i + m = Q → m < fu → rAll n P Q σ τ → τ.1 4172 = 0 → (a = -1 ∨ ∃ s, s ≤ 200 ∧ a = nI s) →
    rEq n (f_X10_record_b40 fu (nI p) a b c d (nI i) σ) (f_X11_record_b39 fu (nI p) a b c d (nI i) τ) := by
  intro m
  induction m with
  | zero =>
    intro j fu a b c d σ τ hk hfu h ht ha
    obtain ⟨fu, rfl⟩ : ∃ f', fu = f' + 1 := ⟨fu - 1, by omega⟩
    obtain ⟨-, -, ⟨hQ, q1, q2, -⟩, -⟩ := id h
    rw [f_X10_record_b40, f_X11_record_b39]
    unfold f_X3_riderCount
    simp only [bnd]
    have hle : nI Q ≤ nI j := (ja_le (by omega) (by omega)).mpr (by omega)
    have et := m_tell1 τ b
    unfold mRow0 at et
    rw [q1, q2, if_pos hle, if_pos hle, c_tell3, et]
    simp only [bnd]
    rw [m_tell2]
    simp only [bnd]
    rw [m_tell3]
    exact rEq_row h rfl rfl rfl rfl (rW3 _ _ _ _ _) ht
  | succ m ih =>
    intro j fu a b c d σ τ hk hfu h ht ha
    obtain ⟨fu, rfl⟩ : ∃ f', fu = f' + 1 := ⟨fu - 1, by omega⟩
    obtain ⟨-, -, ⟨hQ, q1, q2, -⟩, -⟩ := id h
    rw [f_X10_record_b40, f_X11_record_b39]
    unfold f_X3_riderCount
    simp only [bnd]
    have hle : ¬ nI Q ≤ nI j := fun q => by rw [ja_le (by omega) (by omega)] at q; omega
    rw [q1, q2, if_neg hle, if_neg hle]
    obtain ⟨a', b', c', d', σ', τ', e1, e2, e3, e4, e5⟩ := rec_in (i := j) hp (by omega) hQ6 (f_X10_record_b40 fu) (f_X11_record_b39 fu) Q 0 1000 a b c d σ τ (by omega) (by omega) h ht ha
    have e1' : f_X10_record_b55 (f_X10_record_b40 fu) 1000 (nI p) a b c d (nI j) 0 σ = _ := e1
    have e2' : f_X11_record_b51 (f_X11_record_b39 fu) 1000 (nI p) a b c d (nI j) 0 τ = _ := e2
    rw [e1', e2', ← nI_succ]
    exact ih (j + 1) fu a' b' c' d' σ' τ' (by omega) (by omega) e3 e4 e5
theorem eq_record {n P Q : Nat} {σ τ : jT} (h : rAll n P Q σ τ) (x : Int32) : rEq n (f_X10_record x σ) (f_X11_record x τ) := by
  have h0 : rAll n P Q σ (gs τ 4172 0) := rAll_core h rfl rfl
  obtain ⟨-, ⟨hP, l1, l2, -⟩, ⟨hQ, q1, q2, -⟩, -⟩ := id h0
  unfold f_X10_record f_X11_record
  rcases vd_cases x (n := P) (by omega) with ⟨p, hp, rfl⟩ | hx
  · rw [c_hp_t l1 hP hp, m_isPlace_t l2 hP hp]
    simp only [bnd]
    unfold f_X3_riderCount
    rw [if_pos (by decide), if_pos (by decide)]
    simp only [bnd]
    rw [q1, q2]
    by_cases h2 : (2 : Int32) ≤ nI Q
    · rw [if_pos h2, if_pos h2]
      exact rec_out hp hQ Q 0 1000 _ _ _ _ σ _ (by omega) (by omega) h0 rfl (Or.inl rfl)
    · rw [if_neg h2, if_neg h2]
      exact rEq_same h0 rfl rfl rfl rfl rfl
  · rw [c_hp_f l1 hx, m_isPlace_f l2 hP hx]
    exact rEq_same h0 rfl rfl rfl rfl rfl
theorem stop_both {P Q f g p : Nat} {σ τ : jT} (h : rG P Q σ τ) (hf : f < Q) (hg : g < Q) (hfg : f ≠ g) (hp : p < P) : ∃ k a σ1 σ' τ', k ≤ 200 ∧ f_X5_begin (nI f) (nI g) (nI p) σ = some (0, σ1) ∧ f_X5_goOut σ1 = some (0, σ') ∧ f_X11_stopOf (nI f) (nI g) (nI p) 0 τ = some (a, τ') ∧ qC σ σ' ∧ qM τ τ' ∧ σ'.1 3146 = nI k ∧ τ'.1 4196 = nI k ∧ ∃ q, q < P ∧ σ'.1 3144 = nI q ∧ ((σ'.1 3148 = 0 ∧ a = -1) ∨ (σ'.1 3148 = 1 ∧ a = nI q)) := by
  obtain ⟨σ1, τ1, b1, b2, b3, b4, b5, b6, -⟩ := bg_82 h hf hg hfg (Or.inl hp)
  obtain ⟨hL1, ⟨hQ, -⟩, -, hU1⟩ := q_G h b3 b4
  obtain ⟨k, σ2, τ2, b, c1, c2, c3, c4, c5, c6, c7, c8, c9, c10, c11, c12⟩ := out_82 hQ hL1 hU1 b5 b6
  obtain ⟨-, -, -, -, -, -, -, ⟨q, hq, pc, pm⟩, -⟩ := id c6
  have hqP : q < P := by rcases hq with hq | ⟨-, hq⟩ <;> omega
  have hqm : qM τ1 (gs τ2 4196 (nI k)) := qM_trans c5 ⟨fun i _ _ _ _ h5 => if_neg h5, fun _ _ _ => rfl⟩
  have hgo := goesOn_mv (τ2 := gs τ2 4196 (nI k)) hQ c9 c6 c11 rfl rfl rfl rfl rfl rfl rfl
  rcases c12 with ⟨d1, rfl⟩ | ⟨d1, rfl⟩
  · refine ⟨k, -1, σ1, σ2, gs τ2 4196 (nI k), c3, b1, c1, ?_, qC_trans b3 c4, qM_trans b4 hqm, c7, rfl, q, hqP, pc, Or.inl ⟨d1, rfl⟩⟩
    unfold f_X11_stopOf
    rw [b2]
    simp only [bnd]
    rw [c2]
    simp only [bnd]
    rw [hgo]
    simp only [bnd]
    rw [if_neg (by decide)]
  · refine ⟨k, nI q, σ1, σ2, gs τ2 4196 (nI k), c3, b1, c1, ?_, qC_trans b3 c4, qM_trans b4 hqm, c7, rfl, q, hqP, pc, Or.inr ⟨d1, rfl⟩⟩
    unfold f_X11_stopOf
    rw [b2]
    simp only [bnd]
    rw [c2]
    simp only [bnd]
    rw [hgo]
    simp only [bnd]
    have hpm : (gs τ2 4196 (nI k)).2 82 0 = nI q := pm
    rw [if_pos (by simp), hpm]
theorem fstop_both {P Q f g p : Nat} {σ τ : jT} (h : rG P Q σ τ) (hf : f < Q) (hg : g < Q) (hfg : f ≠ g) (hp : p < P) : ∃ k a σ1 σ' τ', k ≤ 200 ∧ f_X5_beginFresh (nI f) (nI g) (nI p) σ = some (0, σ1) ∧ f_X5_goOut σ1 = some (0, σ') ∧ f_X11_stopOf (nI f) (nI g) (nI p) 1 τ = some (a, τ') ∧ qC σ σ' ∧ qM τ τ' ∧ σ'.1 3146 = nI k ∧ τ'.1 4196 = nI k ∧ ∃ q, q < P ∧ σ'.1 3144 = nI q ∧ ((σ'.1 3148 = 0 ∧ a = -1) ∨ (σ'.1 3148 = 1 ∧ a = nI q)) := by
  obtain ⟨σ1, τ1, b1, b2, b3, b4, b5, b6, -⟩ := bf_82 h hf hg hfg (Or.inl hp)
  obtain ⟨hL1, ⟨hQ, -⟩, -, hU1⟩ := q_G h b3 b4
  obtain ⟨k, σ2, τ2, b, c1, c2, c3, c4, c5, c6, c7, c8, c9, c10, c11, c12⟩ := out_82 hQ hL1 hU1 b5 b6
  obtain ⟨-, -, -, -, -, -, -, ⟨q, hq, pc, pm⟩, -⟩ := id c6
  have hqP : q < P := by rcases hq with hq | ⟨-, hq⟩ <;> omega
  have hqm : qM τ1 (gs τ2 4196 (nI k)) := qM_trans c5 ⟨fun i _ _ _ _ h5 => if_neg h5, fun _ _ _ => rfl⟩
  have hgo := goesOn_mv (τ2 := gs τ2 4196 (nI k)) hQ c9 c6 c11 rfl rfl rfl rfl rfl rfl rfl
  rcases c12 with ⟨d1, rfl⟩ | ⟨d1, rfl⟩
  · refine ⟨k, -1, σ1, σ2, gs τ2 4196 (nI k), c3, b1, c1, ?_, qC_trans b3 c4, qM_trans b4 hqm, c7, rfl, q, hqP, pc, Or.inl ⟨d1, rfl⟩⟩
    unfold f_X11_stopOf
    rw [b2]
    simp only [bnd]
    rw [c2]
    simp only [bnd]
    rw [hgo]
    simp only [bnd]
    rw [if_neg (by decide)]
  · refine ⟨k, nI q, σ1, σ2, gs τ2 4196 (nI k), c3, b1, c1, ?_, qC_trans b3 c4, qM_trans b4 hqm, c7, rfl, q, hqP, pc, Or.inr ⟨d1, rfl⟩⟩
    unfold f_X11_stopOf
    rw [b2]
    simp only [bnd]
    rw [c2]
    simp only [bnd]
    rw [hgo]
    simp only [bnd]
    have hpm : (gs τ2 4196 (nI k)).2 82 0 = nI q := pm
    rw [if_pos (by simp), hpm]
theorem stopsAt_both {P Q f g p t : Nat} {σ τ : jT} (h : rG P Q σ τ) (hf : f < Q) (hg : g < Q) (hfg : f ≠ g) (hp : p < P) (ht : t < P) : ∃ (k : Nat) (b a : Int32) (σ' τ' : jT), k ≤ 200 ∧ f_X10_stopsAt (nI f) (nI g) (nI p) (nI t) σ = some (b, σ') ∧ f_X11_stopOf (nI f) (nI g) (nI p) 0 τ = some (a, τ') ∧ qC σ σ' ∧ qM τ τ' ∧ σ'.1 3146 = nI k ∧ τ'.1 4196 = nI k ∧ ((b = 0 ∧ ¬ a = nI t) ∨ (b = 1 ∧ a = nI t)) := by
  have hP10 : P ≤ 10 := h.1.1
  obtain ⟨k, a, σ1, σ2, τ2, hk, e1, e2, e3, e4, e5, e6, e7, q, hq, pc, hc⟩ := stop_both h hf hg hfg hp
  have hfn : ∀ b : Int32, (σ2.1 3148 = 0 ∨ σ2.1 3148 = 1) → (if σ2.1 3148 = 0 then some ((0 : Int32), σ2) else if ¬ σ2.1 3144 = nI t then some (0, σ2) else some (1, σ2)) = some (b, σ2) → f_X10_stopsAt (nI f) (nI g) (nI p) (nI t) σ = some (b, σ2) := by
    intro b h01 hb
    unfold f_X10_stopsAt f_X5_hasStopped f_X5_spot
    rw [e1]
    simp only [bnd]
    rw [e2]
    simp only [bnd]
    rw [if_pos h01]
    simp only [bnd]
    exact hb
  rcases hc with ⟨d1, rfl⟩ | ⟨d1, rfl⟩
  · exact ⟨k, 0, -1, σ2, τ2, hk, hfn 0 (Or.inl d1) (by rw [if_pos d1]), e3, e4, e5, e6, e7, Or.inl ⟨rfl, fun q => ja_neg1 (by omega) q.symm⟩⟩
  · by_cases hqt : q = t
    · subst hqt
      exact ⟨k, 1, nI q, σ2, τ2, hk, hfn 1 (Or.inr d1) (by rw [if_neg (by rw [d1]; decide), if_neg (fun z => z pc)]), e3, e4, e5, e6, e7, Or.inr ⟨rfl, rfl⟩⟩
    · have hne : ¬ nI q = nI t := fun z => hqt ((ja_eq (by omega) (by omega)).mp z)
      exact ⟨k, 0, nI q, σ2, τ2, hk, hfn 0 (Or.inr d1) (by rw [if_neg (by rw [d1]; decide), if_pos (by rw [pc]; exact hne)]), e3, e4, e5, e6, e7, Or.inl ⟨rfl, hne⟩⟩
/-- pairs: what was found so far -/
def prI (P Q : Nat) (σ0 τ0 σ τ : jT) (c : Nat) (x a b d : Int32) : Prop := rG P Q σ τ ∧ coreCr σ = coreCr σ0 ∧ coreMr τ = coreMr τ0 ∧ τ.1 4172 = 0 ∧
  ((c = 0 ∧ x = 201 ∧ d = 1000000 ∧ σ.1 3009 = 0) ∨ ∃ k i j : Nat, 1 ≤ c ∧ k ≤ 200 ∧ x = nI k ∧ d = nI k ∧ a = nI i ∧ b = nI j ∧ σ.1 3009 = 3 ∧ σ.2 48 0 = nI i ∧ σ.2 48 1 = nI j ∧ σ.2 48 2 = nI k)
theorem prI_q {P Q : Nat} {σ0 τ0 σ τ σ' τ' : jT} {c c' : Nat} {x a b d : Int32} (h : prI P Q σ0 τ0 σ τ c x a b d) (h1 : qC σ σ') (h2 : qM τ τ') (hc : c = c' ∨ (1 ≤ c ∧ c ≤ c')) : prI P Q σ0 τ0 σ' τ' c' x a b d := by
  obtain ⟨g1, g2, g3, g4, g5⟩ := h
  refine ⟨q_G g1 h1 h2, (coreCr_of (qC_core h1)).trans g2, (coreMr_of (qM_core h2)).trans g3, q_th h2 g4, ?_⟩
  have e9 : σ'.1 3009 = σ.1 3009 := h1.1 3009 (by decide)
  have e48 : σ'.2 48 = σ.2 48 := h1.2 48 (by decide) (by decide) (by decide)
  rw [e9, e48]
  rcases g5 with ⟨rfl, z⟩ | ⟨k, i, j, hc1, z⟩
  · exact Or.inl ⟨by omega, z⟩
  · exact Or.inr ⟨k, i, j, by omega, z⟩
theorem pr_in {P Q p t i : Nat} {σ0 τ0 : jT} (hp : p < P) (ht : t < P) (hi : i < Q) (hQ6 : Q ≤ 6) (kc : Int32 → Int32 → Int32 → Int32 → Int32 → jT → Option (Int32 × jT)) (km : Int32 → Int32 → Int32 → Int32 → Int32 → Int32 → Int32 → jT → Option (Int32 × jT)) : ∀ (m j fu c : Nat) (x a b d : Int32) (σ τ : jT), j + m = Q → m < fu → c ≤ 6 * i + j → prI P Q σ0 τ0 σ τ c x a b d →
    ∃ c' x' a' b' d' σ' τ', f_X10_pairs_b56 kc fu (nI p) (nI t) (nI c) x (nI i) (nI j) σ = kc (nI p) (nI t) (nI c') x' (nI i + 1) σ' ∧ f_X11_pairs_b51 km fu (nI p) (nI t) (nI c) a b d (nI i) (nI j) τ = km (nI p) (nI t) (nI c') a' b' d' (nI i + 1) τ' ∧ c' ≤ 6 * (i + 1) ∧ prI P Q σ0 τ0 σ' τ' c' x' a' b' d' := by
  intro m
  induction m with
  | zero =>
    intro j fu c x a b d σ τ hk hfu hcb h
    obtain ⟨fu, rfl⟩ : ∃ f', fu = f' + 1 := ⟨fu - 1, by omega⟩
    obtain ⟨-, ⟨hQ, q1, q2, -⟩, -⟩ := id h.1
    rw [f_X10_pairs_b56, f_X11_pairs_b51]
    unfold f_X3_riderCount
    simp only [bnd]
    have hle : nI Q ≤ nI j := (ja_le (by omega) (by omega)).mpr (by omega)
    rw [q1, q2, if_pos hle, if_pos hle]
    exact ⟨c, x, a, b, d, σ, τ, rfl, rfl, by omega, h⟩
  | succ m ih =>
    intro j fu c x a b d σ τ hk hfu hcb h
    obtain ⟨fu, rfl⟩ : ∃ f', fu = f' + 1 := ⟨fu - 1, by omega⟩
    obtain ⟨-, ⟨hQ, q1, q2, -⟩, -⟩ := id h.1
    rw [f_X10_pairs_b56, f_X11_pairs_b51]
    unfold f_X3_riderCount f_X10_pairs_b125 f_X11_pairs_b113
    simp only [bnd]
    have hle : ¬ nI Q ≤ nI j := fun q => by rw [ja_le (by omega) (by omega)] at q; omega
    rw [q1, q2, if_neg hle, if_neg hle, ← nI_succ j]
    by_cases hij : i = j
    · subst hij
      rw [if_pos rfl, if_pos rfl]
      exact ih (i + 1) fu c x a b d σ τ (by omega) (by omega) (by omega) h
    · have hne : ¬ nI i = nI j := fun q => hij ((ja_eq (by omega) (by omega)).mp q)
      rw [if_neg hne, if_neg hne]
      obtain ⟨k, b0, a0, σ1, τ1, hk2, e1, e2, e3, e4, e5, e6, e7⟩ := stopsAt_both h.1 hi (show j < Q by omega) hij hp ht
      rw [e1, e2]
      simp only [bnd]
      rcases e7 with ⟨rfl, hna⟩ | ⟨rfl, rfl⟩
      · rw [if_pos rfl, if_neg hna]
        exact ih (j + 1) fu c x a b d σ1 τ1 (by omega) (by omega) (by omega) (prI_q h e3 e4 (Or.inl rfl))
      · rw [if_neg (by decide), if_pos rfl]
        unfold f_X5_taken
        simp only [bnd]
        rw [e5, e6, ← nI_succ c]
        rcases id h.2.2.2.2 with ⟨hc0, rfl, rfl, h9⟩ | ⟨k', i', j', hc1, hk', rfl, rfl, rfl, rfl, z⟩
        · have y1 : ¬ (201 : Int32) ≤ nI k := fun q => by
            rw [show (201 : Int32) = nI 201 from rfl, ja_le (by omega) (by omega)] at q; omega
          have y2 : nI k < (1000000 : Int32) := (ja_lt (b := 1000000) (by omega) (by omega)).mpr (by omega)
          rw [if_neg y1, if_pos y2, c_tell3]
          simp only [bnd]
          refine ih (j + 1) fu (c + 1) (nI k) (nI i) (nI j) (nI k) _ τ1 (by omega) (by omega) (by omega) ?_
          have hb := prI_q h e3 e4 (Or.inl rfl)
          exact ⟨rG_core hb.1 rfl rfl, hb.2.1, hb.2.2.1, hb.2.2.2.1, Or.inr ⟨k, i, j, by omega, hk2, rfl, rfl, rfl, rfl, rfl, rfl, rfl, rfl⟩⟩
        · by_cases hkk : k' ≤ k
          · rw [if_pos ((ja_le (by omega) (by omega)).mpr hkk), if_neg (fun q => by rw [ja_lt (by omega) (by omega)] at q; omega)]
            exact ih (j + 1) fu (c + 1) _ _ _ _ σ1 τ1 (by omega) (by omega) (by omega) (prI_q h e3 e4 (Or.inr ⟨hc1, by omega⟩))
          · rw [if_neg (fun q => by rw [ja_le (by omega) (by omega)] at q; omega), if_pos ((ja_lt (by omega) (by omega)).mpr (by omega)), c_tell3]
            simp only [bnd]
            refine ih (j + 1) fu (c + 1) (nI k) (nI i) (nI j) (nI k) _ τ1 (by omega) (by omega) (by omega) ?_
            have hb := prI_q h e3 e4 (Or.inl rfl)
            exact ⟨rG_core hb.1 rfl rfl, hb.2.1, hb.2.2.1, hb.2.2.2.1, Or.inr ⟨k, i, j, by omega, hk2, rfl, rfl, rfl, rfl, rfl, rfl, rfl, rfl⟩⟩
theorem pr_out {n P Q p t : Nat} {σ0 τ0 : jT} (h0 : rAll n P Q σ0 τ0) (hp : p < P) (ht : t < P) (hQ6 : Q ≤ 6) : ∀ (m i fu c : Nat) (x a b d : Int32) (σ τ : jT), i + m = Q → m < fu → c ≤ 6 * i → prI P Q σ0 τ0 σ τ c x a b d →
    rEq n (f_X10_pairs_b41 fu (nI p) (nI t) (nI c) x (nI i) σ) (f_X11_pairs_b39 fu (nI p) (nI t) (nI c) a b d (nI i) τ) := by
  intro m
  induction m with
  | zero =>
    intro j fu c x a b d σ τ hk hfu hcb h
    obtain ⟨fu, rfl⟩ : ∃ f', fu = f' + 1 := ⟨fu - 1, by omega⟩
    obtain ⟨⟨-, ⟨hQ, q1, q2, -⟩, -⟩, g2, g3, g4, g5⟩ := id h
    rw [f_X10_pairs_b41, f_X11_pairs_b39]
    unfold f_X3_riderCount
    simp only [bnd]
    have hle : nI Q ≤ nI j := (ja_le (by omega) (by omega)).mpr (by omega)
    rw [q1, q2, if_pos hle, if_pos hle]
    rcases g5 with ⟨rfl, rfl, rfl, h9⟩ | ⟨k, i, j, hc1, hk', rfl, rfl, rfl, rfl, z1, z2, z3, z4⟩
    · rw [if_pos (by decide)]
      exact rEq_row h0 rfl rfl g2 g3 (rW0 h9 rfl) g4
    · have et := m_tell1 τ (nI i)
      unfold mRow0 at et
      rw [if_neg (nI_nle (by omega) (by omega)), et]
      simp only [bnd]
      rw [m_tell2]
      simp only [bnd]
      rw [m_tell3]
      refine rEq_row h0 rfl rfl g2 g3 ⟨3, by omega, z1, rfl, fun y hy => ?_⟩ g4
      rcases (show y = 0 ∨ y = 1 ∨ y = 2 by omega) with rfl | rfl | rfl
      · exact z2
      · exact z3
      · exact z4
  | succ m ih =>
    intro j fu c x a b d σ τ hk hfu hcb h
    obtain ⟨fu, rfl⟩ : ∃ f', fu = f' + 1 := ⟨fu - 1, by omega⟩
    obtain ⟨-, ⟨hQ, q1, q2, -⟩, -⟩ := id h.1
    rw [f_X10_pairs_b41, f_X11_pairs_b39]
    unfold f_X3_riderCount
    simp only [bnd]
    have hle : ¬ nI Q ≤ nI j := fun q => by rw [ja_le (by omega) (by omega)] at q; omega
    rw [q1, q2, if_neg hle, if_neg hle]
    obtain ⟨c', x', a', b', d', σ', τ', e1, e2, e3, e4⟩ := pr_in (i := j) hp ht (by omega) hQ6 (f_X10_pairs_b41 fu) (f_X11_pairs_b39 fu) Q 0 1000 c x a b d σ τ (by omega) (by omega) (by omega) h
    have e1' : f_X10_pairs_b56 (f_X10_pairs_b41 fu) 1000 (nI p) (nI t) (nI c) x (nI j) 0 σ = _ := e1
    have e2' : f_X11_pairs_b51 (f_X11_pairs_b39 fu) 1000 (nI p) (nI t) (nI c) a b d (nI j) 0 τ = _ := e2
    rw [e1', e2', ← nI_succ]
    exact ih (j + 1) fu c' x' a' b' d' σ' τ' (by omega) (by omega) (by omega) e4
theorem eq_pairs {n P Q : Nat} {σ τ : jT} (h : rAll n P Q σ τ) (x y : Int32) : rEq n (f_X10_pairs x y σ) (f_X11_pairs x y τ) := by
  have h0 : rAll n P Q σ (gs τ 4172 0) := rAll_core h rfl rfl
  obtain ⟨-, ⟨hP, l1, l2, -⟩, ⟨hQ, q1, q2, -⟩, -⟩ := id h0
  unfold f_X10_pairs f_X11_pairs
  rcases vd_cases x (n := P) (by omega) with ⟨p, hp, rfl⟩ | hx
  · rw [c_hp_t l1 hP hp, m_isPlace_t l2 hP hp]
    simp only [bnd]
    rw [if_neg (by decide), if_neg (by decide)]
    rcases vd_cases y (n := P) (by omega) with ⟨t, ht, rfl⟩ | hy
    · rw [c_hp_t l1 hP ht, m_isPlace_t l2 hP ht]
      simp only [bnd]
      rw [if_pos (by decide), if_pos (by decide)]
      unfold f_X6_clear
      simp only [bnd]
      exact pr_out h0 hp ht hQ Q 0 1000 0 _ _ _ _ (gs σ 3009 0) (gs τ 4172 0) (by omega) (by omega) (by omega) ⟨rG_core (rG_of h0) rfl rfl, rfl, rfl, rfl, Or.inl ⟨rfl, rfl, rfl, rfl⟩⟩
    · rw [c_hp_f l1 hy, m_isPlace_f l2 hP hy]
      exact rEq_same h0 rfl rfl rfl rfl rfl
  · rw [c_hp_f l1 hx, m_isPlace_f l2 hP hx]
    exact rEq_same h0 rfl rfl rfl rfl rfl
