/-! ===== sheet ===== -/
theorem clampM (x : Int32) : ∃ m, 1 ≤ m ∧ m ≤ 99 ∧ jx_max 1 (jx_min 99 x) = nI m := by
  have key : 1 ≤ (jx_max 1 (jx_min 99 x)).toInt ∧ (jx_max 1 (jx_min 99 x)).toInt ≤ 99 := by
    unfold jx_max jx_min
    have e99 : (99 : Int32).toInt = 99 := by decide
    have e1 : (1 : Int32).toInt = 1 := by decide
    by_cases h1 : x < 99
    · rw [if_pos h1]
      rw [Int32.lt_iff_toInt_lt, e99] at h1
      by_cases h2 : 1 < x
      · rw [if_pos h2]
        rw [Int32.lt_iff_toInt_lt, e1] at h2
        omega
      · rw [if_neg h2, e1]
        omega
    · rw [if_neg h1, if_pos (by decide), e99]
      omega
  refine ⟨(jx_max 1 (jx_min 99 x)).toInt.toNat, by omega, by omega, ?_⟩
  apply Int32.toInt_inj.mp
  rw [nI_toInt (by omega)]
  omega
def coreCs (σ : jT) := ((σ.1 65, σ.2 2), (σ.1 195, σ.1 196, σ.2 4, σ.2 5), (σ.2 8, σ.1 452), (σ.1 898, σ.1 899, pastC σ), (σ.1 900, keptC σ), (σ.1 3009, σ.2 48), (σ.1 12, σ.2 62))
def coreMs (τ : jT) := ((τ.1 4169, τ.2 71), (τ.1 4161, τ.1 4164, τ.2 67, τ.2 68), τ.2 70, (τ.2 77, τ.1 4184), (τ.1 4189, τ.2 79), (τ.1 4208, τ.2 92, τ.2 93, τ.2 94), (τ.1 4171, τ.2 72), (τ.1 4203, τ.2 88))
theorem rAll_rn {n P Q : Nat} {σ σ' τ τ' : jT} (h : rAll n P Q σ τ) (h1 : coreCs σ' = coreCs σ) (h2 : coreMs τ' = coreMs τ) (hr : rR Q σ' τ') (hn : rN P Q σ' τ') : rAll n P Q σ' τ' := by
  simp only [coreCs, Prod.mk.injEq] at h1
  simp only [coreMs, Prod.mk.injEq] at h2
  obtain ⟨⟨a1, a2⟩, ⟨a3, a4, a5, a6⟩, ⟨a10, a11⟩, ⟨a12, a13, a14⟩, ⟨a15, a16⟩, ⟨a17, a18⟩, ⟨a19, a20⟩⟩ := h1
  obtain ⟨⟨b1, b2⟩, ⟨b3, b4, b5, b6⟩, b9, ⟨b11, b12⟩, ⟨b13, b14⟩, ⟨b15, b16, b17, b18⟩, ⟨b19, b20⟩, ⟨b21, b22⟩⟩ := h2
  obtain ⟨g1, g2, -, -, g5, g6, g7, g8, g9⟩ := h
  refine ⟨?_, ?_, hr, hn, ?_, ?_, ?_, ?_, ?_⟩
  · unfold rT at g1 ⊢; rw [a1, a2, b1, b2]; exact g1
  · unfold rL at g2 ⊢; rw [a3, a4, a5, a6, b3, b4, b5, b6]; exact g2
  · unfold rU at g5 ⊢; rw [a10, a11, b11, b12]; exact g5
  · unfold rH at g6 ⊢; rw [a12, a13, a14, b13, b14, b9]; exact g6
  · unfold rK at g7 ⊢; rw [a15, a16, b15, b16, b17, b18, b9]; exact g7
  · unfold rW at g8 ⊢; rw [a17, a18, b19, b20]; exact g8
  · unfold rP at g9 ⊢; rw [a19, a20, b21, b22]; exact g9
theorem rS_spent {P Q : Nat} {dg cn mn cn' mn' : Nat → Int32} (hQ : Q ≤ 6) (h : rS P Q dg cn mn) (h1 : ∀ z, 6 ≤ z → z < 28 → cn' z = cn z) (h2 : ∀ z, z < 4 ∨ (10 ≤ z ∧ z < 28) → mn' z = mn z) (h3 : ∀ r, r < Q → ∃ v, v ≤ 99 ∧ cn' r = nI v ∧ mn' (4 + r) = nI v) : rS P Q dg cn' mn' := by
  obtain ⟨g1, g2, g3, g4, g5, g6⟩ := h
  unfold rS
  rw [h1 24 (by omega) (by omega), h1 25 (by omega) (by omega), h1 26 (by omega) (by omega), h1 27 (by omega) (by omega), h2 0 (by omega), h2 1 (by omega), h2 2 (by omega), h2 3 (by omega)]
  refine ⟨g1, g2, g3, g4, ?_, fun r hr => ?_⟩
  · rcases g5 with g5 | ⟨f, t, k1, k2, k3, k4, k5, k6, k7⟩
    · exact Or.inl g5
    · exact Or.inr ⟨f, t, k1, k2, k3, k4, k5, by rw [h1 _ (by omega) (by omega)]; exact k6, by rw [h1 _ (by omega) (by omega)]; exact k7⟩
  · obtain ⟨-, a2, a3, a4⟩ := g6 r hr
    rw [h1 (6 + r) (by omega) (by omega), h1 (12 + r) (by omega) (by omega), h1 (18 + r) (by omega) (by omega), h2 (10 + r) (by omega), h2 (16 + r) (by omega), h2 (22 + r) (by omega)]
    exact ⟨h3 r hr, a2, a3, a4⟩
/-- no one has spent more than there is -/
theorem c_limit {Q : Nat} (hQ : Q ≤ 6) : ∀ (m k fu : Nat) (σ : jT), k + m = Q → m < fu → σ.1 197 = nI Q → ∃ σ', f_X10_limitSpent_b2 fu (nI k) σ = some (0, σ') ∧ σ'.1 = σ.1 ∧ (∀ o, o ≠ 13 → σ'.2 o = σ.2 o) ∧ (∀ z, z < k ∨ Q ≤ z → σ'.2 13 z = σ.2 13 z) ∧ ∀ r, k ≤ r → r < Q → σ'.2 13 r = jx_min (σ.2 13 r) (σ.2 6 r) := by
  intro m
  induction m with
  | zero =>
    intro k fu σ hk hfu q1
    obtain ⟨fu, rfl⟩ : ∃ f', fu = f' + 1 := ⟨fu - 1, by omega⟩
    have hle : nI Q ≤ nI k := (ja_le (by omega) (by omega)).mpr (by omega)
    rw [f_X10_limitSpent_b2]
    unfold f_X3_riderCount
    simp only [bnd]
    rw [q1, if_pos hle]
    exact ⟨σ, rfl, rfl, fun _ _ => rfl, fun _ _ => rfl, fun r h1 h2 => by omega⟩
  | succ m ih =>
    intro k fu σ hk hfu q1
    obtain ⟨fu, rfl⟩ : ∃ f', fu = f' + 1 := ⟨fu - 1, by omega⟩
    have hle : ¬ nI Q ≤ nI k := fun q => by rw [ja_le (by omega) (by omega)] at q; omega
    rw [f_X10_limitSpent_b2]
    unfold f_X3_riderCount
    simp only [bnd]
    rw [q1, if_neg hle, c_spentOf (by omega)]
    simp only [bnd]
    rw [c_mind_t q1 hQ (by omega)]
    simp only [bnd]
    rw [c_setSpent (by omega)]
    simp only [bnd]
    rw [← nI_succ]
    obtain ⟨σ', e1, e2, e3, e4, e5⟩ := ih (k + 1) fu (gA σ 13 k (jx_min (σ.2 13 k) (σ.2 6 k))) (by omega) (by omega) q1
    refine ⟨σ', e1, e2, fun o ho => ?_, fun z hz => ?_, fun r h1 h2 => ?_⟩
    · rw [e3 o ho]
      funext z
      show (if o = 13 ∧ _ then _ else σ.2 o z) = _
      rw [if_neg (fun q => ho q.1)]
    · rw [e4 z (by omega)]
      show (if 13 = 13 ∧ z = k then _ else σ.2 13 z) = _
      rw [if_neg (by omega)]
    · by_cases hrk : r = k
      · subst hrk
        rw [e4 r (by omega)]
        show (if 13 = 13 ∧ r = r then _ else σ.2 13 r) = _
        rw [if_pos ⟨rfl, rfl⟩]
      · rw [e5 r (by omega) h2]
        have y1 : (gA σ 13 k (jx_min (σ.2 13 k) (σ.2 6 k))).2 13 r = σ.2 13 r := by
          show (if 13 = 13 ∧ r = k then _ else σ.2 13 r) = _
          rw [if_neg (by omega)]
        rw [y1]
        rfl
theorem sh_ent (k : Nat) (x s : Int32) : x + nI k * s + s = x + nI (k + 1) * s := by
  rw [nI_succ, Int32.add_mul, Int32.one_mul, Int32.add_assoc]
/-- a rider's MIND by the sheet: on both sides the same -/
theorem sh_loop {n P Q : Nat} {σ0 τ0 : jT} {kd ne x s en : Int32} (h : rAll n P Q σ0 τ0) (ht : τ0.1 4172 = 0) (hent : (kd = 3 ∧ en = 0) ∨ (¬ kd = 3 ∧ en = ne)) : ∀ (m k fu : Nat) (su : Int32) (σ τ : jT), k + m = Q → m < fu → σ.1 = σ0.1 → (∀ o, o ≠ 6 → σ.2 o = σ0.2 o) → τ.1 = τ0.1 → (∀ o, o ≠ 69 → o ≠ 66 → τ.2 o = τ0.2 o) → (∀ z, z < 4 ∨ 10 ≤ z → τ.2 66 z = τ0.2 66 z) → (∀ r, r < k → ∃ m v, 1 ≤ m ∧ m ≤ 99 ∧ v ≤ 99 ∧ σ.2 6 r = nI m ∧ τ.2 69 r = nI m ∧ σ0.2 13 r = nI v ∧ τ.2 66 (4 + r) = nI (min v m)) → (∀ r, k ≤ r → r < Q → τ.2 66 (4 + r) = τ0.2 66 (4 + r)) →
    rEq n (f_X10_sheet_b47 fu kd x s en su (nI k) σ) (f_X11_sheet_b43 fu kd ne s su (x + nI k * s) (nI k) τ) := by
  obtain ⟨-, -, ⟨hQ, q1, q2, q3⟩, ⟨hS, hcap⟩, -⟩ := id h
  intro m
  induction m with
  | zero =>
    intro k fu su σ τ hk hfu c1 c2 c3 c4 c5 c6 c7
    obtain ⟨fu, rfl⟩ : ∃ f', fu = f' + 1 := ⟨fu - 1, by omega⟩
    have hle : nI Q ≤ nI k := (ja_le (by omega) (by omega)).mpr (by omega)
    have hkQ : k = Q := by omega
    subst hkQ
    rw [f_X10_sheet_b47, f_X11_sheet_b43]
    unfold f_X3_riderCount f_X10_limitSpent
    simp only [bnd]
    obtain ⟨σ', e1, e2, e3, e4, e5⟩ := c_limit hQ k 0 1000 σ (by omega) (by omega) (by rw [c1]; exact q1)
    have e1' : f_X10_limitSpent_b2 1000 0 σ = some (0, σ') := e1
    rw [c1, c3, q1, q2, if_pos hle, if_pos hle, e1']
    simp only [bnd]
    have hfin : rAll n P k σ' τ := by
      refine rAll_rn h ?_ ?_ ⟨hQ, by rw [e2, c1]; exact q1, by rw [c3]; exact q2, fun r hr => ?_⟩ ⟨?_, fun r hr => ?_⟩
      · have hh : ∀ o, o ≠ 13 → o ≠ 6 → σ'.2 o = σ0.2 o := fun o h1 h2 => (e3 o h1).trans (c2 o h2)
        have hp : pastC σ' = pastC σ0 := by
          funext i
          unfold pastC
          split <;> exact hh _ (by decide) (by decide)
        have hk : keptC σ' = keptC σ0 := by
          funext i
          unfold keptC
          split <;> exact hh _ (by decide) (by decide)
        unfold coreCs
        rw [hp, hk, e2, c1, hh 2 (by decide) (by decide), hh 4 (by decide) (by decide), hh 5 (by decide) (by decide), hh 8 (by decide) (by decide), hh 48 (by decide) (by decide), hh 62 (by decide) (by decide)]
      · unfold coreMs
        rw [c3, c4 71 (by decide) (by decide), c4 67 (by decide) (by decide), c4 68 (by decide) (by decide), c4 70 (by decide) (by decide), c4 77 (by decide) (by decide), c4 79 (by decide) (by decide), c4 92 (by decide) (by decide), c4 93 (by decide) (by decide), c4 94 (by decide) (by decide), c4 72 (by decide) (by decide), c4 88 (by decide) (by decide)]
      · obtain ⟨m, v, m1, m2, -, m3, m4, -⟩ := c6 r hr
        exact ⟨m, m1, m2, by rw [e3 6 (by decide)]; exact m3, m4⟩
      · rw [c4 70 (by decide) (by decide)]
        refine rS_spent hQ hS (fun z h1 h2 => ?_) (fun z hz => c5 z (by omega)) (fun r hr => ?_)
        · rw [e4 z (by omega), c2 13 (by decide)]
        · obtain ⟨m, v, m1, m2, hv, m3, m4, m5, m6⟩ := c6 r hr
          refine ⟨min v m, by omega, ?_, m6⟩
          rw [e5 r (by omega) hr, c2 13 (by decide), m5, m3, j_min (by omega) (by omega)]
      · obtain ⟨m, v, m1, m2, hv, m3, m4, m5, m6⟩ := c6 r hr
        rw [e5 r (by omega) hr, c2 13 (by decide), m5, e3 6 (by decide), m3, j_min (by omega) (by omega)]
        exact (ja_le (by omega) (by omega)).mpr (by omega)
    have ht' : τ.1 4172 = 0 := by rw [c3]; exact ht
    by_cases h3 : kd = 3
    · rw [if_neg (fun q => q h3), if_neg (fun q => q h3)]
      exact rEq_same hfin rfl rfl rfl rfl ht'
    · rw [if_pos h3, if_pos h3]
      exact rEq_same hfin rfl rfl rfl rfl ht'
  | succ m ih =>
    intro k fu su σ τ hk hfu c1 c2 c3 c4 c5 c6 c7
    obtain ⟨fu, rfl⟩ : ∃ f', fu = f' + 1 := ⟨fu - 1, by omega⟩
    have hle : ¬ nI Q ≤ nI k := fun q => by rw [ja_le (by omega) (by omega)] at q; omega
    have e4k : (4 : Int32) + nI k = nI (4 + k) := ja_add 4 k
    obtain ⟨⟨v, hv, v1, v2⟩, -⟩ := hS.2.2.2.2.2 k (by omega)
    have q1' : σ.1 197 = nI Q := by rw [c1]; exact q1
    -- one more mind m
    have go : ∀ mm : Nat, 1 ≤ mm → mm ≤ 99 → rEq n (f_X10_sheet_b81 (f_X10_sheet_b47 fu) kd x s en su (nI k) (nI mm) σ) (f_X11_sheet_b109 (f_X11_sheet_b43 fu) kd ne s su (x + nI k * s) (nI k) (nI mm) (nI k) τ) := by
      intro mm m1 m2
      unfold f_X10_sheet_b81 f_X11_sheet_b109 f_X3_setMind
      have y1 : τ.2 66 (4 + k) = nI v := (c7 k (Nat.le_refl _) (by omega)).trans v2
      have y2 : (gA τ 69 k (nI mm)).2 69 k = nI mm := by
        show (if 69 = 69 ∧ k = k then _ else _) = _
        rw [if_pos ⟨rfl, rfl⟩]
      rw [c_hr_t q1' hQ (by omega)]
      simp only [bnd]
      rw [if_neg (show ¬ (1 : Int32) = 0 by decide), if_pos (ja_in (by omega) (by omega)), if_pos (ja_in (by omega) (by omega)), e4k, if_pos (ja_in (by omega) (by omega)), if_pos (ja_in (by omega) (by omega)), nI_clamp (n := 4 + k) (by omega), nI_clamp (by omega), y2, y1, j_min (by omega) (by omega)]
      simp only [bnd]
      have y3 : ∀ w : Int32, (gA (gA τ 69 k (nI mm)) 66 (4 + k) w).2 69 k = nI mm := fun w => by
        show (gA τ 69 k (nI mm)).2 69 k = _
        exact y2
      rw [y3, sh_ent, ← nI_succ]
      refine ih (k + 1) fu _ _ _ (by omega) (by omega) c1 (fun o ho => ?_) c3 (fun o h1 h2 => ?_) (fun z hz => ?_) (fun r hr => ?_) (fun r h1 h2 => ?_)
      · rw [← c2 o ho]
        funext z
        show (if o = 6 ∧ _ then _ else σ.2 o z) = _
        rw [if_neg (fun q => ho q.1)]
      · rw [← c4 o h1 h2]
        funext z
        show (if o = 66 ∧ _ then _ else if o = 69 ∧ _ then _ else τ.2 o z) = _
        rw [if_neg (fun q => h2 q.1), if_neg (fun q => h1 q.1)]
      · rw [← c5 z hz]
        show (if 66 = 66 ∧ z = 4 + k then _ else τ.2 66 z) = _
        rw [if_neg (by omega)]
      · by_cases hrk : r = k
        · subst hrk
          refine ⟨mm, v, m1, m2, hv, ?_, y3 _, v1, ?_⟩
          · show (if 6 = 6 ∧ r = r then _ else _) = _
            rw [if_pos ⟨rfl, rfl⟩]
          · show (if 66 = 66 ∧ 4 + r = 4 + r then _ else _) = _
            rw [if_pos ⟨rfl, rfl⟩]
        · obtain ⟨m', v', n1, n2, n3, n4, n5, n6, n7⟩ := c6 r (by omega)
          refine ⟨m', v', n1, n2, n3, ?_, ?_, n6, ?_⟩
          · show (if 6 = 6 ∧ r = k then _ else σ.2 6 r) = _
            rw [if_neg (by omega)]; exact n4
          · show (if 69 = 69 ∧ r = k then _ else τ.2 69 r) = _
            rw [if_neg (by omega)]; exact n5
          · show (if 66 = 66 ∧ 4 + r = 4 + k then _ else τ.2 66 (4 + r)) = _
            rw [if_neg (by omega)]; exact n7
      · rw [← c7 r (by omega) h2]
        show (if 66 = 66 ∧ 4 + r = 4 + k then _ else τ.2 66 (4 + r)) = _
        rw [if_neg (by omega)]
    rw [f_X10_sheet_b47, f_X11_sheet_b43]
    unfold f_X3_riderCount f_X11_sheet_b75 f_X11_sheet_b94 f_X10_entryMind f_X10_entryMind_b20
    simp only [bnd]
    rw [c3, q1', q2, if_neg hle, if_neg hle]
    have g1 := go 1 (by omega) (by omega)
    have g1' : rEq n (f_X10_sheet_b81 (f_X10_sheet_b47 fu) kd x s en su (nI k) 1 σ) (f_X11_sheet_b109 (f_X11_sheet_b43 fu) kd ne s su (x + nI k * s) (nI k) 1 (nI k) τ) := g1
    rcases hent with ⟨rfl, rfl⟩ | ⟨hk3, rfl⟩
    · rw [if_pos (show (0 : Int32) ≤ nI k from Int32.not_lt.mp (nI_pos (by omega)))]
      rw [if_pos (show ¬ (3 : Int32) = 0 by decide), if_pos (show ¬ (3 : Int32) = 1 by decide), if_pos (show (3 : Int32) = 3 from rfl)]
      exact g1'
    · simp only [if_neg hk3]
      by_cases hek : en ≤ nI k
      · rw [if_pos hek]
        simp only [if_neg (Int32.not_lt.mpr hek)]
        by_cases h0 : kd = 0
        · rw [if_neg (fun q => q h0)]; exact g1'
        · rw [if_pos h0]
          by_cases h1 : kd = 1
          · rw [if_neg (fun q => q h1)]; exact g1'
          · rw [if_pos h1]; exact g1'
      · rw [if_neg hek]
        simp only [if_pos (Int32.not_le.mp hek)]
        by_cases h0 : kd = 0
        · rw [if_neg (fun q => q h0), if_neg (fun q => q h0)]
          simp only [bnd]
          obtain ⟨mm, m1, m2, m3⟩ := clampM (x + nI k * s).toInt8.toInt32
          rw [m3]
          exact go mm m1 m2
        · rw [if_pos h0, if_pos h0]
          by_cases h1 : kd = 1
          · rw [if_neg (fun q => q h1), if_neg (fun q => q h1)]
            simp only [bnd]
            obtain ⟨mm, m1, m2, m3⟩ := clampM (x + nI k * s).toInt16.toInt32
            rw [m3]
            exact go mm m1 m2
          · rw [if_pos h1, if_pos h1]
            simp only [bnd]
            obtain ⟨mm, m1, m2, m3⟩ := clampM (x + nI k * s)
            rw [m3]
            exact go mm m1 m2
theorem eq_sheet {n P Q : Nat} {σ τ : jT} (h : rAll n P Q σ τ) (kd ne x s : Int32) : rEq n (f_X10_sheet kd ne x s σ) (f_X11_sheet kd ne x s τ) := by
  have h0 : rAll n P Q σ (gs τ 4172 0) := rAll_core h rfl rfl
  have hQ := h.2.2.1.1
  unfold f_X10_sheet f_X11_sheet
  rcases vd_cases kd (n := 4) (by omega) with ⟨k, hk, rfl⟩ | hx
  · have hin : f_X11_in (nI k) 0 3 (gs τ 4172 0) = some (1, gs τ 4172 0) := m_in_t (a := 0) (b := 3) (by omega) (by omega) (by omega)
    have h3 : ¬ (3 : Int32) < nI k := fun q => by rw [show (3 : Int32) = nI 3 from rfl, ja_lt (by omega) (by omega)] at q; omega
    rw [if_neg (nI_pos (by omega)), if_neg h3, hin]
    simp only [bnd]
    rw [if_neg (show ¬ (1 : Int32) = 0 by decide)]
    have main : rEq n (f_X10_sheet_b29 (nI k) ne x s σ) (f_X11_sheet_b34 (nI k) ne x s (gs τ 4172 0)) := by
      unfold f_X10_sheet_b29 f_X10_sheet_b39 f_X11_sheet_b34
      have hx0 : x + nI 0 * s = x := by
        rw [show nI 0 = 0 from rfl, Int32.zero_mul, Int32.add_zero]
      have lp : ∀ en : Int32, ((nI k = 3 ∧ en = 0) ∨ (¬ nI k = 3 ∧ en = ne)) → rEq n (f_X10_sheet_b47 1000 (nI k) x s en 0 0 σ) (f_X11_sheet_b43 1000 (nI k) ne s 0 x 0 (gs τ 4172 0)) := by
        intro en hen
        have := sh_loop (x := x) (s := s) (ne := ne) h0 rfl hen Q 0 1000 0 σ (gs τ 4172 0) (by omega) (by omega) rfl (fun _ _ => rfl) rfl (fun _ _ _ => rfl) (fun _ _ => rfl) (fun r hr => by omega) (fun _ _ _ => rfl)
        rw [hx0] at this
        exact this
      by_cases hk3 : nI k = 3
      · rw [if_neg (fun q => q hk3)]
        exact lp 0 (Or.inl ⟨hk3, rfl⟩)
      · rw [if_pos hk3]
        exact lp ne (Or.inr ⟨hk3, rfl⟩)
    by_cases h6 : ne ≤ 6
    · rw [if_pos h6, if_pos h6]
      by_cases hk3 : nI k = 3
      · rw [if_pos hk3, if_pos (by rw [hk3]; decide)]
        exact main
      · have h3' : ¬ (3 : Int32) ≤ nI k := fun q => by
          rw [show (3 : Int32) = nI 3 from rfl, ja_le (by omega) (by omega)] at q
          exact hk3 (by rw [show k = 3 by omega]; rfl)
        rw [if_neg hk3, if_neg h3']
        by_cases hn0 : 0 ≤ ne
        · rw [if_pos hn0, if_pos hn0]
          exact main
        · rw [if_neg hn0, if_neg hn0]
          exact rEq_same h0 rfl rfl rfl rfl rfl
    · rw [if_neg h6, if_neg h6]
      exact rEq_same h0 rfl rfl rfl rfl rfl
  · have hin : f_X11_in kd 0 3 (gs τ 4172 0) = some (0, gs τ 4172 0) := by
      have e : (3 : Int32) = nI 4 - 1 := by decide
      rw [e]
      exact m_pred hx (by omega)
    rw [hin]
    simp only [bnd]
    rw [iT]
    rcases hx with hx | hx
    · rw [if_pos hx]
      exact rEq_same h0 rfl rfl rfl rfl rfl
    · rw [Int32.le_iff_toInt_le, nI_toInt (by omega)] at hx
      have h1 : ¬ kd < 0 := fun q => by
        rw [Int32.lt_iff_toInt_lt, Int32.toInt_zero] at q
        omega
      have h2 : (3 : Int32) < kd := by
        rw [show (3 : Int32) = nI 3 from rfl, Int32.lt_iff_toInt_lt, nI_toInt (by omega)]
        omega
      rw [if_neg h1, if_pos h2]
      exact rEq_same h0 rfl rfl rfl rfl rfl
/-! ===== county ===== -/
theorem ush16 (d : Int32) : ∃ q, q < 65536 ∧ (d.toUInt32 >>> ((16 : Int32).toUInt32 &&& Int32.toUInt32 31)).toInt32 = nI q := by
  have h1 := pk_ushr d 16 16 (by decide)
  have b := d.toBitVec.isLt
  refine ⟨d.toBitVec.toNat / 2 ^ 16, by omega, ?_⟩
  apply Int32.toInt_inj.mp
  rw [nI_toInt (by omega)]
  have h3 : ∀ y : Int32, y.toInt = y.toBitVec.toInt := fun _ => rfl
  rw [h3, BitVec.toInt_eq_toNat_cond, h1]
  split <;> omega
theorem draw_both {Q : Nat} {σ τ : jT} (hQ2 : 2 ≤ Q) (hQ6 : Q ≤ 6) (e : σ.1 13 = τ.1 4206) : ∃ (r : Nat) (w : Int32), r < Q ∧ f_X10_draw (nI Q) σ = some (nI r, gs σ 13 w) ∧ f_X11_draw (nI Q) τ = some (nI r, gs τ 4206 w) := by
  unfold f_X10_draw f_X11_draw
  rw [if_neg (nI_nle (by omega) (by omega)), if_neg (nI_ne0 (by omega) (by omega)), if_neg (nI_ne0 (by omega) (by omega)), ← e]
  obtain ⟨q, hq, e1⟩ := ush16 (σ.1 13 * 1103515245 + 12345)
  rw [e1, pk_rem (by omega) (by omega) (by omega)]
  exact ⟨q % Q, _, Nat.mod_lt _ (by omega), rfl, rfl⟩
def cyI (n P Q : Nat) (σ τ : jT) (vv : Nat → Nat) (B : Nat) : Prop := rAll n P Q σ τ ∧ τ.1 4172 = 0 ∧ σ.1 13 = τ.1 4206 ∧ ∀ i, i < 6 → σ.2 63 i = nI (vv i) ∧ τ.2 91 i = nI (vv i) ∧ vv i ≤ B
/-- one ride in the county -/
theorem cy_ride {n P Q p f g B : Nat} {σ τ : jT} {vv : Nat → Nat} (h : cyI n P Q σ τ vv B) (hB : B ≤ 2000) (hp : rPl P p) (hf : f < Q) (hg : g < Q) (hfg : f ≠ g) :
    ∃ (k q : Nat) (σ' τ' : jT) (vv' : Nat → Nat), k ≤ 20 ∧ rPl P q ∧ f_X10_rideInCounty_b50 (nI p) (nI f) (nI g) σ = some (nI k, σ') ∧ σ'.1 3144 = nI q ∧ τ'.2 82 0 = nI q ∧ cyI n P Q σ' τ' vv' (B + 20) ∧ ∀ (kk : Int32 → Int32 → Int32 → Int32 → Int32 → jT → Option (Int32 × jT)) (x2 x4 x5 x6 : Int32), f_X11_county_b114 kk x2 (nI p) x4 x5 x6 (nI f) (nI g) τ = (if ¬ nI k = 0 then f_X11_county_b179 kk x2 (x4 + nI k) x6 0 x5 τ' else f_X11_county_b179 kk x2 (x4 + nI k) x6 1 x5 τ') := by
  obtain ⟨ha, ht, hd, hv⟩ := h
  obtain ⟨σ1, τ1, b1, b2, b3, b4, b5, b6, -⟩ := bf_82 (rG_of ha) hf hg hfg hp
  obtain ⟨hL1, ⟨hQ, -⟩, -, hU1⟩ := q_G (rG_of ha) b3 b4
  obtain ⟨k, σ2, τ2, g1, g2, g3, g4, g5, g6, g7, -⟩ := ride_82 (N := 20) hQ (by omega) hL1 hU1 b5 b6
  obtain ⟨-, -, -, -, -, -, -, ⟨q, hq, pc, pm⟩, -⟩ := id g6
  have zc := qC_trans b3 g4
  have zm := qM_trans b4 g5
  have v63 : σ2.2 63 = σ.2 63 := zc.2 63 (by decide) (by decide) (by decide)
  have v91 : τ2.2 91 = τ.2 91 := zm.2 91 (by decide) (by decide)
  have g1' : f_X5_go 20 σ1 = some (0, σ2) := g1
  have g2' : f_X11_goRide_82 20 τ1 = some (nI k, τ2) := g2
  obtain ⟨f1, f2, f3⟩ := hv f (by omega)
  obtain ⟨y1, y2, y3⟩ := hv g (by omega)
  have cf : ∀ w : Int32, (gA σ2 63 f w).2 63 g = nI (vv g) := fun w => by
    show (if 63 = 63 ∧ g = f then _ else σ2.2 63 g) = _
    rw [if_neg (by omega), v63, y1]
  have mf : ∀ w : Int32, (gA τ2 91 f w).2 91 g = nI (vv g) := fun w => by
    show (if 91 = 91 ∧ g = f then _ else τ2.2 91 g) = _
    rw [if_neg (by omega), v91, y2]
  have ht2 : τ2.1 4172 = 0 := q_th zm ht
  refine ⟨k, q, gA (gA σ2 63 f (nI (vv f + k))) 63 g (nI (vv g + k)), gA (gA τ2 91 f (nI (vv f + k))) 91 g (nI (vv g + k)), fun i => if i = g then vv g + k else if i = f then vv f + k else vv i, g3, hq, ?_, pc, pm, ⟨rAll_core (q_all ha zc zm) rfl rfl, ht2, ?_, fun i hi => ?_⟩, ?_⟩
  · unfold f_X10_rideInCounty_b50 f_X5_taken
    rw [b1]
    simp only [bnd]
    rw [g1']
    simp only [bnd]
    rw [g7, if_pos (ja_in (by omega) (by omega)), if_pos (ja_in (by omega) (by omega)), nI_clamp (by omega), nI_clamp (by omega), v63, f1, cf, ja_add, ja_add]
  · show σ2.1 13 = τ2.1 4206
    rw [zc.1 13 (by decide), zm.1 4206 (by decide) (by decide) (by decide) (by decide) (by decide)]
    exact hd
  · obtain ⟨a1, a2, a3⟩ := hv i hi
    have e1 : (gA (gA σ2 63 f (nI (vv f + k))) 63 g (nI (vv g + k))).2 63 i = if i = g then nI (vv g + k) else if i = f then nI (vv f + k) else σ2.2 63 i := by
      show (if 63 = 63 ∧ i = g then _ else if 63 = 63 ∧ i = f then _ else σ2.2 63 i) = _
      by_cases h1 : i = g
      · rw [if_pos ⟨rfl, h1⟩, if_pos h1]
      · rw [if_neg (fun q => h1 q.2), if_neg h1]
        by_cases h2 : i = f
        · rw [if_pos ⟨rfl, h2⟩, if_pos h2]
        · rw [if_neg (fun q => h2 q.2), if_neg h2]
    have e2 : (gA (gA τ2 91 f (nI (vv f + k))) 91 g (nI (vv g + k))).2 91 i = if i = g then nI (vv g + k) else if i = f then nI (vv f + k) else τ2.2 91 i := by
      show (if 91 = 91 ∧ i = g then _ else if 91 = 91 ∧ i = f then _ else τ2.2 91 i) = _
      by_cases h1 : i = g
      · rw [if_pos ⟨rfl, h1⟩, if_pos h1]
      · rw [if_neg (fun q => h1 q.2), if_neg h1]
        by_cases h2 : i = f
        · rw [if_pos ⟨rfl, h2⟩, if_pos h2]
        · rw [if_neg (fun q => h2 q.2), if_neg h2]
    rw [e1, e2, v63, v91, a1, a2]
    by_cases h1 : i = g
    · simp only [if_pos h1]
      exact ⟨trivial, trivial, by omega⟩
    · simp only [if_neg h1]
      by_cases h2 : i = f
      · simp only [if_pos h2]
        exact ⟨trivial, trivial, by omega⟩
      · simp only [if_neg h2]
        exact ⟨trivial, trivial, by omega⟩
  · intro kk x2 x4 x5 x6
    unfold f_X11_county_b114
    rw [b2]
    simp only [bnd]
    rw [g2']
    simp only [bnd]
    rw [if_pos (ja_in (by omega) (by omega)), if_pos (ja_in (by omega) (by omega)), nI_clamp (by omega), nI_clamp (by omega), v91, f2, mf, ja_add, ja_add]
/-- who has ridden the farthest -/
theorem cy_far {n P Q B : Nat} {x3 x4 x5 : Int32} {σ τ : jT} {vv : Nat → Nat} (h : cyI n P Q σ τ vv B) (hB : B ≤ 4000) (hQ2 : 2 ≤ Q) : rEq n ((f_X10_farthestRidden σ).bind fun q2 => (f_X6_tell__ x3 q2.1 x5 q2.2).bind fun q3 => some (x4, q3.2)) (f_X11_county_b201 1000 x3 x4 x5 0 1 τ) := by
  obtain ⟨ha, ht, hd, hv⟩ := h
  obtain ⟨-, -, ⟨hQ, q1, q2, -⟩, -⟩ := id ha
  -- the class looks at the first RIDER alone, then both go on alike
  have loop : ∀ (m k fu b : Nat) (mo be : Int32), k + m = Q → m < fu → b < k → ((mo = nI (vv b) ∧ be = nI b ∧ 1 ≤ vv b) ∨ (mo = 0 ∧ be = -1 ∧ vv b = 0)) → rEq n ((f_X10_farthestRidden_b6 fu be mo (nI k) σ).bind fun q2 => (f_X6_tell__ x3 q2.1 x5 q2.2).bind fun q3 => some (x4, q3.2)) (f_X11_county_b201 fu x3 x4 x5 (nI b) (nI k) τ) := by
    intro m
    induction m with
    | zero =>
      intro k fu b mo be hk hfu hbk hc
      obtain ⟨fu, rfl⟩ : ∃ f', fu = f' + 1 := ⟨fu - 1, by omega⟩
      obtain ⟨u1, u2, u3⟩ := hv b (by omega)
      have hle : nI Q ≤ nI k := (ja_le (by omega) (by omega)).mpr (by omega)
      rw [f_X10_farthestRidden_b6, f_X11_county_b201]
      unfold f_X3_riderCount f_X11_county_b264
      simp only [bnd]
      have et := m_tell1 τ x3
      unfold mRow0 at et
      rw [q1, q2, if_pos hle, if_pos hle, et]
      simp only [bnd]
      have y : (mRow1 τ x3).2 91 b = nI (vv b) := u2
      rw [if_pos (ja_in (by omega) (by omega)), nI_clamp (by omega), y, c_tell3]
      rcases hc with ⟨rfl, rfl, hb1⟩ | ⟨rfl, rfl, hb1⟩
      · rw [if_pos (nI_ne0 (by omega) (by omega)), m_tell2]
        simp only [bnd]
        rw [m_tell3]
        exact rEq_row ha rfl rfl rfl rfl (rW3 _ _ _ _ _) ht
      · rw [hb1, if_neg (show ¬ ¬ nI 0 = 0 from fun q => q rfl), m_tell2]
        simp only [bnd]
        rw [m_tell3]
        exact rEq_row ha rfl rfl rfl rfl (rW3 _ _ _ _ _) ht
    | succ m ih =>
      intro k fu b mo be hk hfu hbk hc
      obtain ⟨fu, rfl⟩ : ∃ f', fu = f' + 1 := ⟨fu - 1, by omega⟩
      obtain ⟨u1, u2, u3⟩ := hv b (by omega)
      obtain ⟨w1, w2, w3⟩ := hv k (by omega)
      have hle : ¬ nI Q ≤ nI k := fun q => by rw [ja_le (by omega) (by omega)] at q; omega
      rw [f_X10_farthestRidden_b6, f_X11_county_b201]
      unfold f_X3_riderCount f_X10_farthestRidden_b36 f_X11_county_b231
      simp only [bnd]
      rw [q1, q2, if_neg hle, if_neg hle, if_pos (show jx_in (nI k) 6 from ja_in (by omega) (by omega)), if_pos (show jx_in (nI k) 6 from ja_in (by omega) (by omega)), if_pos (show jx_in (nI b) 6 from ja_in (by omega) (by omega)), nI_clamp (n := k) (by omega), nI_clamp (n := b) (by omega), w1, w2, u2, ← nI_succ]
      have hmo : mo = nI (vv b) := by
        rcases hc with ⟨rfl, -, -⟩ | ⟨rfl, -, hb1⟩
        · rfl
        · rw [hb1]; rfl
      rw [hmo] at hc ⊢
      by_cases hkb : nI (vv k) ≤ nI (vv b)
      · rw [if_pos hkb, if_pos hkb]
        exact ih (k + 1) fu b _ be (by omega) (by omega) (by omega) hc
      · have h1 : vv b < vv k := by
          rw [ja_le (by omega) (by omega)] at hkb
          omega
        rw [if_neg hkb, if_neg hkb]
        exact ih (k + 1) fu k _ _ (by omega) (by omega) (by omega) (Or.inl ⟨rfl, rfl, by omega⟩)
  obtain ⟨w1, w2, w3⟩ := hv 0 (by omega)
  have hle : ¬ nI Q ≤ nI 0 := fun q => by rw [ja_le (by omega) (by omega)] at q; omega
  have hst : f_X10_farthestRidden σ = if nI (vv 0) ≤ 0 then f_X10_farthestRidden_b6 999 (-1) 0 (nI 1) σ else f_X10_farthestRidden_b6 999 (nI 0) (nI (vv 0)) (nI 1) σ := by
    unfold f_X10_farthestRidden
    rw [show (1000 : Nat) = 999 + 1 from rfl, f_X10_farthestRidden_b6]
    unfold f_X3_riderCount f_X10_farthestRidden_b36
    simp only [bnd]
    have hle' : ¬ nI Q ≤ 0 := hle
    rw [q1, if_neg hle', if_pos (show jx_in (0 : Int32) 6 by decide), show (0 : Int32).toNatClampNeg = 0 from rfl, w1]
    rfl
  have hlast : f_X11_county_b201 1000 x3 x4 x5 0 1 τ = f_X11_county_b201 1000 x3 x4 x5 (nI 0) (nI 1) τ := rfl
  rw [hst, hlast]
  have h999 : ∀ (mo be : Int32), ((mo = nI (vv 0) ∧ be = nI 0 ∧ 1 ≤ vv 0) ∨ (mo = 0 ∧ be = -1 ∧ vv 0 = 0)) → rEq n ((f_X10_farthestRidden_b6 999 be mo (nI 1) σ).bind fun q2 => (f_X6_tell__ x3 q2.1 x5 q2.2).bind fun q3 => some (x4, q3.2)) (f_X11_county_b201 999 x3 x4 x5 (nI 0) (nI 1) τ) := fun mo be hc => loop (Q - 1) 1 999 0 mo be (by omega) (by omega) (by omega) hc
  have fuel : ∀ (m k fu b : Nat), k + m = Q → m < fu → b < k → f_X11_county_b201 (fu + 1) x3 x4 x5 (nI b) (nI k) τ = f_X11_county_b201 fu x3 x4 x5 (nI b) (nI k) τ := by
    intro m
    induction m with
    | zero =>
      intro k fu b hk hfu hb
      obtain ⟨fu, rfl⟩ : ∃ f', fu = f' + 1 := ⟨fu - 1, by omega⟩
      have hle : nI Q ≤ nI k := (ja_le (by omega) (by omega)).mpr (by omega)
      rw [f_X11_county_b201, f_X11_county_b201, q2, if_pos hle, if_pos hle]
    | succ m ih =>
      intro k fu b hk hfu hb
      obtain ⟨fu, rfl⟩ : ∃ f', fu = f' + 1 := ⟨fu - 1, by omega⟩
      have hle : ¬ nI Q ≤ nI k := fun q => by rw [ja_le (by omega) (by omega)] at q; omega
      rw [f_X11_county_b201, f_X11_county_b201, q2, if_neg hle, if_neg hle]
      unfold f_X11_county_b231
      rw [← nI_succ, ih (k + 1) fu b (by omega) (by omega) (by omega), ih (k + 1) fu k (by omega) (by omega) (by omega)]
  rw [fuel (Q - 1) 1 999 0 (by omega) (by omega) (by omega)]
  by_cases h0 : vv 0 = 0
  · rw [h0, if_pos (by decide)]
    exact h999 _ _ (Or.inr ⟨rfl, rfl, h0⟩)
  · rw [if_neg (nI_nle (by omega) (by omega))]
    exact h999 _ _ (Or.inl ⟨rfl, rfl, by omega⟩)
theorem cy_loop {n P Q N : Nat} (hQ2 : 2 ≤ Q) (hN : N ≤ 60) : ∀ (m k fu p : Nat) (al idl : Int32) (σ τ : jT) (vv : Nat → Nat), k + m = N → m < fu → rPl P p → cyI n P Q σ τ vv (20 * k) → rEq n (f_X10_county_b70 fu (nI N) (nI p) al idl (nI k) σ) (f_X11_county_b70 fu (nI N) (nI p) al idl (nI k) τ) := by
  intro m
  induction m with
  | zero =>
    intro k fu p al idl σ τ vv hk hfu hp h
    obtain ⟨fu, rfl⟩ : ∃ f', fu = f' + 1 := ⟨fu - 1, by omega⟩
    have hle : nI N ≤ nI k := (ja_le (by omega) (by omega)).mpr (by omega)
    rw [f_X10_county_b70, f_X11_county_b70, if_pos hle, if_pos hle]
    exact cy_far h (by omega) hQ2
  | succ m ih =>
    intro k fu p al idl σ τ vv hk hfu hp h
    obtain ⟨fu, rfl⟩ : ∃ f', fu = f' + 1 := ⟨fu - 1, by omega⟩
    obtain ⟨ha, ht, hd, hv⟩ := id h
    obtain ⟨-, -, ⟨hQ, q1, q2, -⟩, -⟩ := id ha
    have hle : ¬ nI N ≤ nI k := fun q => by rw [ja_le (by omega) (by omega)] at q; omega
    rw [f_X10_county_b70, f_X11_county_b70, if_neg hle, if_neg hle]
    unfold f_X10_rideInCounty f_X3_riderCount
    simp only [bnd]
    obtain ⟨f, w, hf, d1, d2⟩ := draw_both hQ2 hQ hd
    rw [q1, q2, d1, d2]
    simp only [bnd]
    have q1' : (gs σ 13 w).1 197 = nI Q := q1
    have q2' : (gs τ 4206 w).1 4165 = nI Q := q2
    obtain ⟨g, w2, hg, d3, d4⟩ := draw_both (σ := gs σ 13 w) (τ := gs τ 4206 w) hQ2 hQ rfl
    rw [q1', q2', d3, d4]
    simp only [bnd]
    have q1'' : (gs (gs σ 13 w) 13 w2).1 197 = nI Q := q1
    have q2'' : (gs (gs τ 4206 w) 4206 w2).1 4165 = nI Q := q2
    have h2 : cyI n P Q (gs (gs σ 13 w) 13 w2) (gs (gs τ 4206 w) 4206 w2) vv (20 * k) := ⟨rAll_core ha rfl rfl, ht, rfl, hv⟩
    have go : ∀ t, t < Q → f ≠ t → rEq n ((f_X10_rideInCounty_b50 (nI p) (nI f) (nI t) (gs (gs σ 13 w) 13 w2)).bind fun q4 => (f_X5_spot q4.2).bind fun q5 => if ¬ q4.1 = 0 then f_X10_county_b110 (f_X10_county_b70 fu) (nI N) q5.1 (al + q4.1) (nI k) 0 idl q5.2 else f_X10_county_b110 (f_X10_county_b70 fu) (nI N) q5.1 (al + q4.1) (nI k) 1 idl q5.2) (f_X11_county_b114 (f_X11_county_b70 fu) (nI N) (nI p) al idl (nI k) (nI f) (nI t) (gs (gs τ 4206 w) 4206 w2)) := by
      intro t ht2 hft
      obtain ⟨j, q, σ3, τ3, vv3, hj, hq, r1, r2, r3, r4, r5⟩ := cy_ride h2 (by omega) hp hf ht2 hft
      rw [r1, r5]
      unfold f_X5_spot f_X10_county_b110 f_X11_county_b179
      simp only [bnd]
      rw [r2, r3, ← nI_succ]
      have r4' : cyI n P Q σ3 τ3 vv3 (20 * (k + 1)) := by
        have : 20 * k + 20 = 20 * (k + 1) := by omega
        rw [← this]; exact r4
      by_cases hj0 : nI j = 0
      · rw [if_neg (fun q => q hj0), if_neg (fun q => q hj0)]
        exact ih (k + 1) fu q _ _ σ3 τ3 vv3 (by omega) (by omega) hq r4'
      · rw [if_pos hj0, if_pos hj0]
        exact ih (k + 1) fu q _ _ σ3 τ3 vv3 (by omega) (by omega) hq r4'
    by_cases hfg : f = g
    · subst hfg
      unfold f_X10_rideInCounty_b49
      rw [if_neg (show ¬ ¬ nI f = nI f from fun q => q rfl), if_neg (show ¬ ¬ nI f = nI f from fun q => q rfl), q1'', q2'', if_neg (nI_ne0 (by omega) (by omega)), ← nI_succ, pk_rem (by omega) (by omega) (by omega)]
      by_cases hlast : Q ≤ f + 1
      · rw [if_pos ((ja_le (by omega) (by omega)).mpr hlast)]
        have e0 : (f + 1) % Q = 0 := by
          have : f + 1 = Q := by omega
          rw [this, Nat.mod_self]
        rw [e0]
        exact go 0 (by omega) (by omega)
      · rw [if_neg (fun q => by rw [ja_le (by omega) (by omega)] at q; omega), Nat.mod_eq_of_lt (by omega)]
        exact go (f + 1) (by omega) (by omega)
    · have hne : ¬ nI g = nI f := fun q => hfg ((ja_eq (by omega) (by omega)).mp q).symm
      have hne' : ¬ nI f = nI g := fun q => hfg ((ja_eq (by omega) (by omega)).mp q)
      rw [if_pos hne, if_pos hne']
      exact go g hg hfg
theorem cy_z1 (x1 x2 : Int32) : ∀ (m k fu : Nat) (σ : jT), k + m = 6 → m < fu → (∀ i, i < k → σ.2 63 i = 0) → ∃ σ', f_X10_county_b29 fu x1 x2 (nI k) σ = f_X10_county_b70 1000 x2 (σ'.2 13 24) 0 0 0 (gs σ' 13 x1) ∧ σ'.1 = σ.1 ∧ (∀ o, o ≠ 63 → σ'.2 o = σ.2 o) ∧ ∀ i, i < 6 → σ'.2 63 i = 0 := by
  intro m
  induction m with
  | zero =>
    intro k fu σ hk hfu hz
    obtain ⟨fu, rfl⟩ : ∃ f', fu = f' + 1 := ⟨fu - 1, by omega⟩
    have hle : (6 : Int32) ≤ nI k := (ja_le (a := 6) (by omega) (by omega)).mpr (by omega)
    rw [f_X10_county_b29, if_pos hle]
    unfold f_X8_horse
    simp only [bnd]
    exact ⟨σ, rfl, rfl, fun _ _ => rfl, fun i hi => hz i (by omega)⟩
  | succ m ih =>
    intro k fu σ hk hfu hz
    obtain ⟨fu, rfl⟩ : ∃ f', fu = f' + 1 := ⟨fu - 1, by omega⟩
    have hle : ¬ (6 : Int32) ≤ nI k := fun q => by rw [show (6 : Int32) = nI 6 from rfl, ja_le (by omega) (by omega)] at q; omega
    rw [f_X10_county_b29, if_neg hle, if_pos (ja_in (by omega) (by omega)), nI_clamp (by omega), ← nI_succ]
    obtain ⟨σ', e1, e2, e3, e4⟩ := ih (k + 1) fu (gA σ 63 k 0) (by omega) (by omega) (fun i hi => by
      show (if 63 = 63 ∧ i = k then 0 else σ.2 63 i) = _
      by_cases hik : i = k
      · rw [if_pos ⟨rfl, hik⟩]
      · rw [if_neg (fun z => hik z.2)]; exact hz i (by omega))
    refine ⟨σ', e1, e2, fun o ho => ?_, e4⟩
    rw [e3 o ho]
    funext z
    show (if o = 63 ∧ _ then _ else σ.2 o z) = _
    rw [if_neg (fun q => ho q.1)]
theorem cy_z2 (x2 : Int32) : ∀ (m k fu : Nat) (τ : jT), k + m = 6 → m < fu → (∀ i, i < k → τ.2 91 i = 0) → ∃ τ', f_X11_county_b35 fu x2 (nI k) τ = f_X11_county_b70 1000 x2 (τ'.2 66 0) 0 0 0 τ' ∧ τ'.1 = τ.1 ∧ (∀ o, o ≠ 91 → τ'.2 o = τ.2 o) ∧ ∀ i, i < 6 → τ'.2 91 i = 0 := by
  intro m
  induction m with
  | zero =>
    intro k fu τ hk hfu hz
    obtain ⟨fu, rfl⟩ : ∃ f', fu = f' + 1 := ⟨fu - 1, by omega⟩
    have hle : (6 : Int32) ≤ nI k := (ja_le (a := 6) (by omega) (by omega)).mpr (by omega)
    rw [f_X11_county_b35, if_pos hle]
    exact ⟨τ, rfl, rfl, fun _ _ => rfl, fun i hi => hz i (by omega)⟩
  | succ m ih =>
    intro k fu τ hk hfu hz
    obtain ⟨fu, rfl⟩ : ∃ f', fu = f' + 1 := ⟨fu - 1, by omega⟩
    have hle : ¬ (6 : Int32) ≤ nI k := fun q => by rw [show (6 : Int32) = nI 6 from rfl, ja_le (by omega) (by omega)] at q; omega
    rw [f_X11_county_b35, if_neg hle, if_pos (ja_in (by omega) (by omega)), nI_clamp (by omega), ← nI_succ]
    obtain ⟨τ', e1, e2, e3, e4⟩ := ih (k + 1) fu (gA τ 91 k 0) (by omega) (by omega) (fun i hi => by
      show (if 91 = 91 ∧ i = k then 0 else τ.2 91 i) = _
      by_cases hik : i = k
      · rw [if_pos ⟨rfl, hik⟩]
      · rw [if_neg (fun z => hik z.2)]; exact hz i (by omega))
    refine ⟨τ', e1, e2, fun o ho => ?_, e4⟩
    rw [e3 o ho]
    funext z
    show (if o = 91 ∧ _ then _ else τ.2 o z) = _
    rw [if_neg (fun q => ho q.1)]
theorem eq_county {n P Q : Nat} {σ τ : jT} (h : rAll n P Q σ τ) (x y : Int32) : rEq n (f_X10_county x y σ) (f_X11_county x y τ) := by
  have h0 : rAll n P Q σ (gs τ 4172 0) := rAll_core h rfl rfl
  obtain ⟨-, -, ⟨hQ, q1, q2, -⟩, ⟨⟨⟨hh, hpl, nh1, nh2⟩, -⟩, -⟩, -⟩ := id h0
  unfold f_X10_county f_X11_county f_X3_riderCount
  by_cases hy : 1 ≤ y.toInt ∧ y.toInt ≤ 60
  · obtain ⟨N, hN1, hN, rfl⟩ : ∃ N, 1 ≤ N ∧ N ≤ 60 ∧ y = nI N := ⟨y.toInt.toNat, by omega, by omega, by
      apply Int32.toInt_inj.mp
      rw [nI_toInt (by omega)]
      omega⟩
    have hin : f_X11_in (nI N) 1 60 (gs τ 4172 0) = some (1, gs τ 4172 0) := m_in_t (a := 1) (b := 60) (by omega) (by omega) (by omega)
    have h1 : ¬ nI N < 1 := fun q => by rw [show (1 : Int32) = nI 1 from rfl, ja_lt (by omega) (by omega)] at q; omega
    have h60 : nI N ≤ 60 := (ja_le (b := 60) (by omega) (by omega)).mpr (by omega)
    rw [if_neg h1, if_pos h60, hin]
    simp only [bnd]
    rw [if_pos (show ¬ (1 : Int32) = 0 by decide), q1, q2]
    by_cases hQ2 : 2 ≤ Q
    · have hq2 : (2 : Int32) ≤ nI Q := (ja_le (a := 2) (by omega) (by omega)).mpr (by omega)
      rw [if_pos hq2, if_pos hq2]
      obtain ⟨σ1, a1, a2, a3, a4⟩ := cy_z1 x (nI N) 6 0 1000 σ (by omega) (by omega) (fun i hi => by omega)
      obtain ⟨τ1, b1, b2, b3, b4⟩ := cy_z2 (nI N) 6 0 1000 (gs (gs τ 4172 0) 4206 x) (by omega) (by omega) (fun i hi => by omega)
      have a1' : f_X10_county_b29 1000 x (nI N) 0 σ = _ := a1
      have b1' : f_X11_county_b35 1000 (nI N) 0 (gs (gs τ 4172 0) 4206 x) = _ := b1
      have p1 : σ1.2 13 24 = nI hh := by rw [a3 13 (by decide)]; exact nh1
      have p2 : τ1.2 66 0 = nI hh := by rw [b3 66 (by decide)]; exact nh2
      rw [a1', b1', p1, p2]
      have hr : rAll n P Q σ1 τ1 := by
        refine rAll_core h0 (coreC_fr (fun i hi => by rw [a2]) (fun o ho _ _ => a3 o (by omega))) (coreM_fr (fun i hi => ?_) (fun o ho => b3 o (fun q => by subst q; exact absurd ho (by decide))))
        rw [b2]
        show (if i = 4206 then _ else (gs τ 4172 0).1 i) = _
        rw [if_neg (fun q => by subst q; exact absurd hi (by decide))]
      exact cy_loop hQ2 hN N 0 1000 hh 0 0 _ τ1 (fun _ => 0) (by omega) (by omega) hpl ⟨rAll_core hr rfl rfl, by rw [b2]; rfl, by rw [b2]; rfl, fun i hi => ⟨a4 i hi, b4 i hi, Nat.zero_le _⟩⟩
    · have hq2 : ¬ (2 : Int32) ≤ nI Q := fun q => by rw [show (2 : Int32) = nI 2 from rfl, ja_le (by omega) (by omega)] at q; omega
      rw [if_neg hq2, if_neg hq2]
      exact rEq_same h0 rfl rfl rfl rfl rfl
  · have e1 : (1 : Int32).toInt = 1 := by decide
    have e60 : (60 : Int32).toInt = 60 := by decide
    have hin : f_X11_in y 1 60 (gs τ 4172 0) = some (0, gs τ 4172 0) := by
      unfold f_X11_in
      by_cases h1 : y < 1
      · rw [if_pos h1]
      · rw [if_neg h1]
        rw [Int32.lt_iff_toInt_lt, e1] at h1
        rw [if_pos (by rw [Int32.lt_iff_toInt_lt, e60]; omega)]
    rw [hin]
    simp only [bnd]
    rw [iNT]
    by_cases h1 : y < 1
    · rw [if_pos h1]
      exact rEq_same h0 rfl rfl rfl rfl rfl
    · rw [if_neg h1]
      rw [Int32.lt_iff_toInt_lt, e1] at h1
      rw [if_neg (by rw [Int32.le_iff_toInt_le, e60]; omega)]
      exact rEq_same h0 rfl rfl rfl rfl rfl
