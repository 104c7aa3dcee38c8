/-! ===== a STEP, on both sides ===== -/
def rowF (f g : Nat) (a a' : Nat → Int32) : Prop := ∀ z, z ≠ 0 → z ≠ 3 → z ≠ 4 + f → z ≠ 4 + g → z ≠ 10 + f → z ≠ 10 + g → z ≠ 16 + f → z ≠ 16 + g → a' z = a z
def latB (Q : Nat) (σ σ' τ' : jT) : Prop := (τ'.1 4187 = -1 ∧ σ'.1 3147 = σ.1 3147) ∨ ∃ r, r < Q ∧ τ'.1 4187 = nI r ∧ σ'.1 3147 = nI r
/-- a STEP was taken -/
def stGo (P Q A f g : Nat) (σ τ σ' τ' : jT) : Prop := frC σ σ' ∧ frM A τ τ' ∧ rD P Q A f g σ' τ' ∧ rowF f g (τ.2 A) (τ'.2 A) ∧ σ'.1 3148 = σ.1 3148 ∧ σ'.1 3146 = σ.1 3146 + 1 ∧ τ'.2 A (10 + f) = τ'.2 A 0 ∧ τ'.2 A (10 + g) = τ'.2 A 0 ∧ latB Q σ σ' τ' ∧ ∃ q, q < P ∧ σ'.1 3144 = nI q
theorem rDi_congr {P Q A i r : Nat} {σ τ σ' τ' : jT} (h : rDi P Q A σ τ i r) (a1 : σ'.2 6 = σ.2 6) (a2 : σ'.2 51 = σ.2 51) (a3 : σ'.2 52 = σ.2 52) (a4 : σ'.2 53 = σ.2 53) (a5 : σ'.2 54 = σ.2 54) (b1 : τ'.2 69 = τ.2 69) (b2 : τ'.2 70 = τ.2 70) (b3 : ∀ z, (3 < z ∧ z < 10) ∨ 15 < z → τ'.2 A z = τ.2 A z) (hQ : Q ≤ 6) (hr : r < Q) : rDi P Q A σ' τ' i r := by
  unfold rDi dgt at h ⊢
  rw [a1, a2, a3, a4, a5, b1, b2, b3 (4 + r) (by omega), b3 (16 + r) (by omega), b3 (22 + r) (by omega)]
  obtain ⟨h1, h2, h3, g0, j0, M0, u1, u2, u3, u4, u5, u6⟩ := h
  exact ⟨h1, h2, h3, g0, j0, M0, u1, u2, u3, u4, by rw [b3 (22 + g0) (by omega)]; exact u5, u6⟩
theorem rL_congr {P : Nat} {σ τ σ' τ' : jT} (h : rL P σ τ) (a1 : σ'.1 195 = σ.1 195) (a2 : σ'.1 196 = σ.1 196) (a3 : σ'.2 4 = σ.2 4) (a4 : σ'.2 5 = σ.2 5) (b1 : τ'.1 4161 = τ.1 4161) (b2 : τ'.1 4164 = τ.1 4164) (b3 : τ'.2 67 = τ.2 67) (b4 : τ'.2 68 = τ.2 68) : rL P σ' τ' := by
  unfold rL at h ⊢
  rw [a1, a2, a3, a4, b1, b2, b3, b4]; exact h
theorem rU_congr {σ τ σ' τ' : jT} (h : rU σ τ) (a1 : σ'.2 8 = σ.2 8) (a2 : σ'.1 452 = σ.1 452) (b1 : τ'.2 77 = τ.2 77) (b2 : τ'.1 4184 = τ.1 4184) : rU σ' τ' := by
  unfold rU at h ⊢
  rw [a1, a2, b1, b2]; exact h
theorem fr_L {P A : Nat} {σ τ σ' τ' : jT} (hA : A = 82 ∨ A = 66) (h : rL P σ τ) (h1 : frC σ σ') (h2 : frM A τ τ') : rL P σ' τ' :=
  rL_congr h (h1.1 _ (by omega) (by omega) (by omega) (by omega)) (h1.1 _ (by omega) (by omega) (by omega) (by omega)) (h1.2 _ (by omega) (by omega) (by omega) (by omega) (by omega)) (h1.2 _ (by omega) (by omega) (by omega) (by omega) (by omega)) (h2.1 _ (by omega) (by omega) (by omega)) (h2.1 _ (by omega) (by omega) (by omega)) (h2.2 _ (by omega) (by omega)) (h2.2 _ (by omega) (by omega))
theorem fr_U {A : Nat} {σ τ σ' τ' : jT} (hA : A = 82 ∨ A = 66) (h : rU σ τ) (h1 : frC σ σ') (h2 : frM A τ τ') : rU σ' τ' :=
  rU_congr h (h1.2 _ (by omega) (by omega) (by omega) (by omega) (by omega)) (h1.1 _ (by omega) (by omega) (by omega) (by omega)) (h2.2 _ (by omega) (by omega)) (h2.1 _ (by omega) (by omega) (by omega))
theorem frC_refl (σ : jT) : frC σ σ := ⟨fun _ _ _ _ _ => rfl, fun _ _ _ _ _ _ => rfl⟩
theorem frM_refl (A : Nat) (τ : jT) : frM A τ τ := ⟨fun _ _ _ _ => rfl, fun _ _ _ => rfl⟩
theorem e3_mul (p k : Nat) : (3 : Int32) * nI p + nI k = nI (3 * p + k) := by
  rw [show (3 : Int32) = nI 3 from rfl, pk_mul, ja_add]
/-- the class tells the WAY by the rule: a row of facts, then the rule -/
theorem way_tell {P p w : Nat} {σ τ : jT} (hL : rL P σ τ) (hU : rU σ τ) (hp : p < P) (hw1 : 1 ≤ w) (hw3 : w ≤ 3) (hpl : σ.1 3144 = nI p) (c4 : σ.2 4 p = nI w) (c67 : τ.2 67 p = nI w) {a b : Int32} (hab : a ≠ b) : ∃ k σ' τ', k < w ∧ f_X5_wayBy a b σ = some (nI k, σ') ∧ f_X11_wayBy a b (nI p) (σ.1 3145 + σ.1 3146) (σ.2 51 0) (σ.2 51 1) τ = some (nI k, τ') ∧ σ'.1 = σ.1 ∧ (∀ o, o ≠ 10 → o ≠ 11 → σ'.2 o = σ.2 o) ∧ (∀ o, o ≠ 78 → τ'.2 o = τ.2 o) ∧ (∀ i, (i < 4174 ∨ 4177 < i) → i ≠ 4185 → τ'.1 i = τ.1 i) := by
  obtain ⟨hP, l1, -⟩ := id hL
  obtain ⟨v, σ', τ', t1, t2, -, -, t3, t4, t5, t6, t7, t8, -⟩ := hU (gA (gA (gA (gA (gA σ 11 2 (nI w)) 11 3 (nI p)) 11 4 (σ.1 3145 + σ.1 3146)) 11 5 (σ.2 51 0)) 11 6 (σ.2 51 1)) τ a b (nI w) (nI p) (σ.1 3145 + σ.1 3146) (σ.2 51 0) (σ.2 51 1) rfl rfl rfl rfl (by rcases (show w = 1 ∨ w = 2 ∨ w = 3 by omega) with rfl | rfl | rfl <;> decide) rfl rfl rfl rfl rfl
  obtain ⟨k, hk, rfl⟩ := ja_of t7 t8 (by omega)
  refine ⟨k, σ', τ', hk, ?_, ?_, t3, ?_, t5, fun i h1 h2 => t6 i (by omega)⟩
  · unfold f_X5_wayBy
    rw [hpl, c_ways_t l1 hP hp, c4]
    simp only [Option.bind_some]
    rw [if_neg hab, if_pos (nI_ne0 (by omega) (by omega))]
    unfold f_X7_setFacts
    simp only [Option.bind_some]
    rw [hpl, t1]; rfl
  · unfold f_X11_wayBy
    rw [if_pos (ja_in (by omega) (by omega)), nI_clamp (by omega), c67]
    by_cases h2 : nI w = 2
    · rw [if_neg (fun q => q h2)]
      rw [if_pos h2] at t2
      exact t2
    · rw [if_pos h2]
      rw [if_neg h2] at t2
      exact t2
  · intro o h1 h2
    rw [t4 o ⟨h1, h2⟩]
    funext z
    show (if o = 11 ∧ z = 6 then _ else if o = 11 ∧ z = 5 then _ else if o = 11 ∧ z = 4 then _ else if o = 11 ∧ z = 3 then _ else if o = 11 ∧ z = 2 then _ else σ.2 o z) = _
    rw [if_neg (fun q => h2 q.1), if_neg (fun q => h2 q.1), if_neg (fun q => h2 q.1), if_neg (fun q => h2 q.1), if_neg (fun q => h2 q.1)]
theorem move_82 {P Q f g p w : Nat} {σ τ : jT} (hQ : Q ≤ 6) (hL : rL P σ τ) (hU : rU σ τ) (hD : rD P Q 82 f g σ τ) (hp : p < P) (hw1 : 1 ≤ w) (hw3 : w ≤ 3) (hpl : σ.1 3144 = nI p) (c4 : σ.2 4 p = nI w) (c67 : τ.2 67 p = nI w) {a b : Int32} (hab : a ≠ b) : ∃ k σ1 σ' τ', k < w ∧ f_X5_wayBy a b σ = some (nI k, σ1) ∧ f_X5_goBy (nI k) σ1 = some (1, σ') ∧ f_X11_goStep_82 a b τ = some (0, τ') ∧ stGo P Q 82 f g σ τ σ' τ' := by
  obtain ⟨hf, hg, hfg, w0, w1, r1, r2, ⟨p', hp', pc, pm⟩, st, d0, d1⟩ := id hD
  have hpp : nI p' = nI p := pc.symm.trans hpl
  rw [hpp] at pm
  obtain ⟨hP, l1, l2, -, lw, -⟩ := id hL
  obtain ⟨k, σ1, τ1, hk, e1, e2, s1, s2, u1, u2⟩ := way_tell hL hU hp hw1 hw3 hpl c4 c67 hab
  obtain ⟨w', hw', cw, mw, ld, -⟩ := lw p hp
  have hww : w' = w := (ja_eq (by omega) (by omega)).mp (cw.symm.trans c4)
  subst hww
  obtain ⟨q, hq, q1, q2⟩ := ld k hk
  obtain ⟨⟨m, s, hs, hm1, hm, m1, m2, ss1, lf1⟩, -⟩ := id d0
  obtain ⟨⟨m', s', hs', hm1', hm', m1', m2', ss1', lf1'⟩, -⟩ := id d1
  have e10f : (10 : Int32) + nI f = nI (10 + f) := ja_add 10 f
  have e10g : (10 : Int32) + nI g = nI (10 + g) := ja_add 10 g
  -- the class moves
  let σ2 := gs (gs σ1 3144 (nI q)) 3146 (σ.1 3146 + 1)
  let τ2 := gA (gA (gA (gA τ1 82 0 (nI q)) 82 (10 + f) (nI q)) 82 (10 + g) (nI q)) 82 3 (σ.1 3145 + σ.1 3146 + 1)
  have hr0 : ∀ z, z ≠ 0 → z ≠ 3 → z ≠ 10 + f → z ≠ 10 + g → τ2.2 82 z = τ.2 82 z := by
    intro z h0 h3 h1 h2
    show (if 82 = 82 ∧ z = 3 then _ else if 82 = 82 ∧ z = 10 + g then _ else if 82 = 82 ∧ z = 10 + f then _ else if 82 = 82 ∧ z = 0 then _ else τ1.2 82 z) = _
    rw [if_neg (fun q => h3 q.2), if_neg (fun q => h2 q.2), if_neg (fun q => h1 q.2), if_neg (fun q => h0 q.2), u1 82 (by decide)]
  have hro : ∀ o, o ≠ 82 → o ≠ 78 → τ2.2 o = τ.2 o := by
    intro o h0 h1
    funext z
    show (if o = 82 ∧ z = 3 then _ else if o = 82 ∧ z = 10 + g then _ else if o = 82 ∧ z = 10 + f then _ else if o = 82 ∧ z = 0 then _ else τ1.2 o z) = _
    rw [if_neg (fun q => h0 q.1), if_neg (fun q => h0 q.1), if_neg (fun q => h0 q.1), if_neg (fun q => h0 q.1), u1 o h1]
  have d0' : rDi P Q 82 σ2 τ2 0 f := rDi_congr d0 (s2 6 (by decide) (by decide)) (s2 51 (by decide) (by decide)) (s2 52 (by decide) (by decide)) (s2 53 (by decide) (by decide)) (s2 54 (by decide) (by decide)) (hro 69 (by decide) (by decide)) (hro 70 (by decide) (by decide)) (fun z hz => hr0 z (by omega) (by omega) (by omega) (by omega)) hQ hf
  have d1' : rDi P Q 82 σ2 τ2 1 g := rDi_congr d1 (s2 6 (by decide) (by decide)) (s2 51 (by decide) (by decide)) (s2 52 (by decide) (by decide)) (s2 53 (by decide) (by decide)) (s2 54 (by decide) (by decide)) (hro 69 (by decide) (by decide)) (hro 70 (by decide) (by decide)) (fun z hz => hr0 z (by omega) (by omega) (by omega) (by omega)) hQ hg
  have w0' : σ2.2 50 0 = nI f := by
    show σ1.2 50 0 = _
    rw [s2 50 (by decide) (by decide)]; exact w0
  have w1' : σ2.2 50 1 = nI g := by
    show σ1.2 50 1 = _
    rw [s2 50 (by decide) (by decide)]; exact w1
  -- what both wear down to
  have wr : ∃ σ' τ' r, (r = f ∨ r = g) ∧ f_X5_wear σ2 = some (0, σ') ∧ (if nI (m' - s') ≤ nI (m - s) then f_X11_goStep_82_b108 (nI f) (nI g) (nI g) τ2 else f_X11_goStep_82_b108 (nI f) (nI g) (nI f) τ2) = some (0, τ') ∧ rDi P Q 82 σ' τ' 0 f ∧ rDi P Q 82 σ' τ' 1 g ∧
      (∀ z, z ≠ 3147 → σ'.1 z = σ2.1 z) ∧ (∀ o, o ≠ 51 → o ≠ 52 → o ≠ 54 → σ'.2 o = σ2.2 o) ∧ (∀ z, z ≠ 4187 → τ'.1 z = τ2.1 z) ∧ (∀ o, o ≠ 82 → τ'.2 o = τ2.2 o) ∧ (∀ z, z ≠ 4 + r → z ≠ 16 + r → τ'.2 82 z = τ2.2 82 z) ∧
      ((τ'.1 4187 = -1 ∧ σ'.1 3147 = σ2.1 3147) ∨ (τ'.1 4187 = nI r ∧ σ'.1 3147 = nI r)) := by
    unfold f_X5_wear
    have y0 : σ2.2 51 0 = nI (m - s) := by
      show σ1.2 51 0 = _
      rw [s2 51 (by decide) (by decide)]; exact lf1
    have y1 : σ2.2 51 1 = nI (m' - s') := by
      show σ1.2 51 1 = _
      rw [s2 51 (by decide) (by decide)]; exact lf1'
    rw [y0, y1]
    by_cases hle : nI (m' - s') ≤ nI (m - s)
    · rw [if_pos hle, if_pos hle]
      obtain ⟨σ', τ', x1, x2, x3, x4, x5, x6, x7, x8, x9, x10⟩ := wear_82 (i := 1) (k := 0) (r := g) (t := f) (f := f) (g := g) (σ := σ2) (τ := τ2) (P := P) (Q := Q) hQ (Or.inr ⟨rfl, rfl⟩) hg hf (Ne.symm hfg) (Or.inr ⟨rfl, rfl⟩) w1' w0' d1' d0'
      exact ⟨σ', τ', g, Or.inr rfl, x1, x2, x4, x3, x5, x6, x7, x8, x9, x10⟩
    · rw [if_neg hle, if_neg hle]
      obtain ⟨σ', τ', x1, x2, x3, x4, x5, x6, x7, x8, x9, x10⟩ := wear_82 (i := 0) (k := 1) (r := f) (t := g) (f := f) (g := g) (σ := σ2) (τ := τ2) (P := P) (Q := Q) hQ (Or.inl ⟨rfl, rfl⟩) hf hg hfg (Or.inl ⟨rfl, rfl⟩) w0' w1' d0' d1'
      exact ⟨σ', τ', f, Or.inl rfl, x1, x2, x3, x4, x5, x6, x7, x8, x9, x10⟩
  obtain ⟨σ', τ', r, hr, x1, x2, x3, x4, x5, x6, x7, x8, x9, x10⟩ := wr
  have z0 : τ2.2 82 0 = nI q := by
    show (if 82 = 82 ∧ 0 = 3 then σ.1 3145 + σ.1 3146 + 1 else if 82 = 82 ∧ 0 = 10 + g then _ else if 82 = 82 ∧ 0 = 10 + f then _ else if 82 = 82 ∧ 0 = 0 then nI q else τ1.2 82 0) = _
    rw [if_neg (fun q => by omega), if_neg (fun q => by omega), if_neg (fun q => by omega), if_pos ⟨rfl, rfl⟩]
  have zf : τ2.2 82 (10 + f) = nI q := by
    show (if 82 = 82 ∧ 10 + f = 3 then _ else if 82 = 82 ∧ 10 + f = 10 + g then _ else if 82 = 82 ∧ 10 + f = 10 + f then nI q else _) = _
    rw [if_neg (fun q => by omega), if_neg (fun q => by omega), if_pos ⟨rfl, rfl⟩]
  have zg : τ2.2 82 (10 + g) = nI q := by
    show (if 82 = 82 ∧ 10 + g = 3 then _ else if 82 = 82 ∧ 10 + g = 10 + g then nI q else _) = _
    rw [if_neg (fun q => by omega), if_pos ⟨rfl, rfl⟩]
  have hmq : f_X5_goBy (nI k) σ1 = some (1, σ') := by
    unfold f_X5_goBy
    rw [s1, hpl, c_leads_t (P := P) (by rw [s1]; exact l1) hP hp (by rw [s2 4 (by decide) (by decide)]; exact c4) hw3 hk, s2 5 (by decide) (by decide), q1]
    simp only [Option.bind_some]
    rw [if_pos (ja_neg1 (by omega)), s1]
    show (f_X5_wear σ2).bind _ = _
    rw [x1]; rfl
  refine ⟨k, σ1, σ', τ', hk, e1, hmq, ?_, ⟨?_, ?_⟩, ⟨?_, ?_⟩, ?_, ?_, ?_, ?_, ?_, ?_, ?_, q, hq, ?_⟩
  · unfold f_X11_goStep_82
    rw [r1, r2, m_left82 (by omega) hm hs m2 ss1]
    simp only [Option.bind_some]
    rw [m_left82 (by omega) hm' hs' m2' ss1']
    simp only [Option.bind_some]
    rw [pm, st, ← lf1, ← lf1', e2]
    simp only [Option.bind_some]
    rw [e3_mul, e10f, e10g, if_pos (ja_in (by omega) (by omega)), if_pos (ja_in (by omega) (by omega)), if_pos (ja_in (by omega) (by omega)), nI_clamp (by omega), nI_clamp (by omega), nI_clamp (by omega), u1 68 (by decide), q2]
    have y1 : (gA (gA (gA τ1 82 0 (nI q)) 82 (10 + f) (nI q)) 82 (10 + g) ((gA (gA τ1 82 0 (nI q)) 82 (10 + f) (nI q)).2 82 0)) = gA (gA (gA τ1 82 0 (nI q)) 82 (10 + f) (nI q)) 82 (10 + g) (nI q) := by
      congr 1
      show (if 82 = 82 ∧ 0 = 10 + f then _ else if 82 = 82 ∧ 0 = 0 then nI q else τ1.2 82 0) = _
      rw [if_neg (fun q => by omega), if_pos ⟨rfl, rfl⟩]
    rw [y1]
    have y2 : (gA (gA (gA τ1 82 0 (nI q)) 82 (10 + f) (nI q)) 82 (10 + g) (nI q)).2 82 3 = σ.1 3145 + σ.1 3146 := by
      show (if 82 = 82 ∧ 3 = 10 + g then _ else if 82 = 82 ∧ 3 = 10 + f then _ else if 82 = 82 ∧ 3 = 0 then nI q else τ1.2 82 3) = _
      rw [if_neg (fun q => by omega), if_neg (fun q => by omega), if_neg (fun q => by omega), u1 82 (by decide), st]
    rw [y2]
    show (f_X11_leftOf_82 (nI f) τ2).bind _ = _
    rw [m_left82 (τ := τ2) (by omega) hm hs (by rw [hro 69 (by decide) (by decide)]; exact m2) (by rw [hr0 _ (by omega) (by omega) (by omega) (by omega)]; exact ss1)]
    simp only [Option.bind_some]
    rw [m_left82 (τ := τ2) (by omega) hm' hs' (by rw [hro 69 (by decide) (by decide)]; exact m2') (by rw [hr0 _ (by omega) (by omega) (by omega) (by omega)]; exact ss1')]
    simp only [Option.bind_some]
    exact x2
  · intro i h1 h2 h3 h4
    rw [x5 i h3]
    show (if i = 3146 then _ else if i = 3144 then _ else σ1.1 i) = _
    rw [if_neg h2, if_neg h1, s1]
  · intro o h1 h2 h3 h4 h5
    rw [x6 o h1 h2 h3]
    show σ1.2 o = _
    rw [s2 o h4 h5]
  · intro i h1 h2 h3
    rw [x7 i h1]
    show τ1.1 i = _
    rw [u2 i h2 h3]
  · intro o h1 h2
    rw [x8 o h1, hro o h1 h2]
  · refine ⟨hf, hg, hfg, ?_, ?_, ?_, ?_, ⟨q, Or.inl hq, ?_, ?_⟩, ?_, x3, x4⟩
    · rw [x6 50 (by decide) (by decide) (by decide)]; exact w0'
    · rw [x6 50 (by decide) (by decide) (by decide)]; exact w1'
    · rw [x9 _ (by omega) (by omega), hr0 _ (by omega) (by omega) (by omega) (by omega)]; exact r1
    · rw [x9 _ (by omega) (by omega), hr0 _ (by omega) (by omega) (by omega) (by omega)]; exact r2
    · rw [x5 3144 (by decide)]; rfl
    · rw [x9 _ (by omega) (by omega)]; exact z0
    · rw [x9 _ (by omega) (by omega), x5 3145 (by decide), x5 3146 (by decide)]
      show σ.1 3145 + σ.1 3146 + 1 = σ1.1 3145 + (σ.1 3146 + 1)
      rw [s1, Int32.add_assoc]
  · intro z h1 h2 h3 h4 h5 h6 h7 h8
    rw [x9 z (by rcases hr with rfl | rfl <;> assumption) (by rcases hr with rfl | rfl <;> assumption), hr0 z h1 h2 h5 h6]
  · rw [x5 3148 (by decide)]
    show σ1.1 3148 = _
    rw [s1]
  · rw [x5 3146 (by decide)]; rfl
  · rw [x9 _ (by rcases hr with rfl | rfl <;> omega) (by rcases hr with rfl | rfl <;> omega), x9 _ (by omega) (by omega), z0, zf]
  · rw [x9 _ (by rcases hr with rfl | rfl <;> omega) (by rcases hr with rfl | rfl <;> omega), x9 _ (by omega) (by omega), z0, zg]
  · rcases x10 with ⟨y1, y2⟩ | ⟨y1, y2⟩
    · refine Or.inl ⟨y1, y2.trans ?_⟩
      show σ1.1 3147 = _
      rw [s1]
    · exact Or.inr ⟨r, by rcases hr with rfl | rfl <;> assumption, y1, y2⟩
  · rw [x5 3144 (by decide)]; rfl
/-- the views of the two where they are, and whether the ride goes on -/
theorem look_82 {P Q f g : Nat} {σ τ : jT} (hQ : Q ≤ 6) (hL : rL P σ τ) (hD : rD P Q 82 f g σ τ) : ∃ v0 v1 : Int32, f_X3_viewOf (σ.2 54 0) (σ.1 3144) σ = some (v0, σ) ∧ f_X3_viewOf (σ.2 54 1) (σ.1 3144) σ = some (v1, σ) ∧ f_X11_goesOn_82 τ = some (if v0 = v1 then 0 else 1, τ) ∧
    ((v0 = -1 ∧ v1 = -1 ∧ f_X3_waysAt (σ.1 3144) σ = some (0, σ) ∧ f_X3_leadsTo (σ.1 3144) (-1) σ = some (-1, σ) ∧ ∃ p, rPl P p ∧ σ.1 3144 = nI p ∧ τ.2 67 p = nI 0) ∨ ∃ p w, p < P ∧ 1 ≤ w ∧ w ≤ 3 ∧ σ.1 3144 = nI p ∧ τ.2 82 0 = nI p ∧ σ.2 4 p = nI w ∧ τ.2 67 p = nI w ∧ f_X11_viewOf_82 (nI f) (nI p) τ = some (v0, τ) ∧ f_X11_viewOf_82 (nI g) (nI p) τ = some (v1, τ) ∧ ¬ v0 < 0 ∧ v0 < nI w ∧ ¬ v1 < 0 ∧ v1 < nI w) := by
  obtain ⟨hf, hg, hfg, w0, w1, r1, r2, ⟨p, hp, pc, pm⟩, st, d0, d1⟩ := id hD
  obtain ⟨hP, l1, l2, -, lw, l0⟩ := id hL
  obtain ⟨-, -, -, g0, j0, M0, u1, u2, u3, u4, u5, u6, u7⟩ := id d0
  obtain ⟨-, -, -, g1, j1, M1, t1, t2, t3, t4, t5, t6, t7⟩ := id d1
  unfold f_X11_goesOn_82
  rw [pc, pm, u6, t6]
  rcases hp with hp | ⟨rfl, rfl⟩
  · obtain ⟨w, hw3, cw, mw, ld, -⟩ := lw p hp
    rw [c_viewOf l1 hP hp cw hw3 (j_pow4 hP u3), c_viewOf l1 hP hp cw hw3 (j_pow4 hP t3), if_pos (ja_in (by omega) (by omega)), nI_clamp (by omega), mw]
    by_cases hw0 : w = 0
    · subst hw0
      refine ⟨-1, -1, rfl, rfl, rfl, Or.inl ⟨rfl, rfl, ?_, c_leads_f l1 hP hp cw (Or.inl (by decide)), p, Or.inl hp, rfl, mw⟩⟩
      rw [c_ways_t l1 hP hp, cw]; rfl
    · rw [if_neg hw0, if_neg hw0, if_neg (nI_nle (by omega) (by omega)), r1]
      have V0 := m_view82 (τ := τ) (r := f) (g := g0) (j := j0) (p := p) (w := w) (d := M0 / 4 ^ p % 4) (by omega) (by omega) (by omega) (by omega) u4 u5 mw (by omega) hw3 (u7 p hp) j_dig3
      have V1 := m_view82 (τ := τ) (r := g) (g := g1) (j := j1) (p := p) (w := w) (d := M1 / 4 ^ p % 4) (by omega) (by omega) (by omega) (by omega) t4 t5 mw (by omega) hw3 (t7 p hp) j_dig3
      rw [V0]
      simp only [Option.bind_some]
      rw [r2, V1]
      simp only [Option.bind_some]
      have b0 : M0 / 4 ^ p % 4 % w < w := Nat.mod_lt _ (by omega)
      have b1 : M1 / 4 ^ p % 4 % w < w := Nat.mod_lt _ (by omega)
      refine ⟨_, _, rfl, rfl, ?_, Or.inr ⟨p, w, hp, by omega, hw3, rfl, rfl, cw, mw, V0, V1, nI_pos (by omega), (ja_lt (by omega) (by omega)).mpr b0, nI_pos (by omega), (ja_lt (by omega) (by omega)).mpr b1⟩⟩
      split <;> rfl
  · have hx : (nI 0 : Int32) < 0 ∨ nI 0 ≤ nI 0 := Or.inr (by decide)
    rw [c_viewOf_f l1 hx, c_viewOf_f l1 hx, c_ways_f l1 hx, c_leads_n l1 hx]
    refine ⟨-1, -1, rfl, rfl, ?_, Or.inl ⟨rfl, rfl, rfl, rfl, 0, Or.inr ⟨rfl, rfl⟩, rfl, l0 rfl⟩⟩
    rw [if_pos (ja_in (by omega) (by omega)), show (nI 0).toNatClampNeg = 0 from rfl, l0 rfl]
    rfl
/-- a STEP: it stops on both sides, or goes on on both sides -/
theorem step_82 {P Q f g : Nat} {σ τ : jT} (hQ : Q ≤ 6) (hL : rL P σ τ) (hU : rU σ τ) (hD : rD P Q 82 f g σ τ) : (f_X5_step σ = some (0, gs σ 3148 1) ∧ f_X11_step_82 τ = some (0, τ) ∧ f_X11_goesOn_82 τ = some (0, τ)) ∨ ∃ σ' τ', f_X5_step σ = some (1, σ') ∧ f_X11_step_82 τ = some (1, τ') ∧ f_X11_goesOn_82 τ = some (1, τ) ∧ stGo P Q 82 f g σ τ σ' τ' := by
  obtain ⟨v0, v1, e0, e1, e2, hc⟩ := look_82 hQ hL hD
  obtain ⟨hf, hg, hfg, w0, w1, r1, r2, -⟩ := id hD
  obtain ⟨hP, l1, l2, -, lw, l0⟩ := id hL
  unfold f_X5_step f_X11_step_82
  rw [e0, e2]
  simp only [Option.bind_some]
  rw [e1]
  simp only [Option.bind_some]
  by_cases hv : v0 = v1
  · left
    rw [if_pos hv, if_neg (fun q => q rfl)]
    refine ⟨?_, rfl, rfl⟩
    rcases hc with ⟨rfl, rfl, c1, c2, -⟩ | ⟨p, w, hp, hw1, hw3, pc, pm, cw, mw, -⟩
    · unfold f_X5_wayBy f_X5_goBy
      rw [c1]
      simp only [Option.bind_some]
      rw [if_pos trivial]
      simp only [Option.bind_some]
      rw [c2]
      rfl
    · unfold f_X5_wayBy f_X5_goBy
      rw [pc, c_ways_t l1 hP hp]
      simp only [Option.bind_some]
      rw [if_pos hv]
      simp only [Option.bind_some]
      rw [pc, c_leads_f l1 hP hp cw (Or.inl (by decide))]
      rfl
  · right
    rw [if_neg hv, if_pos (by decide)]
    rcases hc with ⟨rfl, rfl, -⟩ | ⟨p, w, hp, hw1, hw3, pc, pm, cw, mw, V0, V1, -⟩
    · exact absurd rfl hv
    · obtain ⟨k, σ1, σ', τ', hk, a1, a2, a3, a4⟩ := move_82 hQ hL hU hD hp hw1 hw3 pc cw mw hv
      refine ⟨σ', τ', ?_, ?_, rfl, a4⟩
      · rw [a1]
        simp only [Option.bind_some]
        rw [a2]; rfl
      · rw [r1, pm, V0]
        simp only [Option.bind_some]
        rw [r2, pm, V1]
        simp only [Option.bind_some]
        rw [a3]; rfl
theorem move_66 {P Q f g p w : Nat} {σ τ : jT} (hQ : Q ≤ 6) (hL : rL P σ τ) (hU : rU σ τ) (hD : rD P Q 66 f g σ τ) (hp : p < P) (hw1 : 1 ≤ w) (hw3 : w ≤ 3) (hpl : σ.1 3144 = nI p) (c4 : σ.2 4 p = nI w) (c67 : τ.2 67 p = nI w) {a b : Int32} (hab : a ≠ b) : ∃ k σ1 σ' τ', k < w ∧ f_X5_wayBy a b σ = some (nI k, σ1) ∧ f_X5_goBy (nI k) σ1 = some (1, σ') ∧ f_X11_goStep_66 a b τ = some (0, τ') ∧ stGo P Q 66 f g σ τ σ' τ' := by
  obtain ⟨hf, hg, hfg, w0, w1, r1, r2, ⟨p', hp', pc, pm⟩, st, d0, d1⟩ := id hD
  have hpp : nI p' = nI p := pc.symm.trans hpl
  rw [hpp] at pm
  obtain ⟨hP, l1, l2, -, lw, -⟩ := id hL
  obtain ⟨k, σ1, τ1, hk, e1, e2, s1, s2, u1, u2⟩ := way_tell hL hU hp hw1 hw3 hpl c4 c67 hab
  obtain ⟨w', hw', cw, mw, ld, -⟩ := lw p hp
  have hww : w' = w := (ja_eq (by omega) (by omega)).mp (cw.symm.trans c4)
  subst hww
  obtain ⟨q, hq, q1, q2⟩ := ld k hk
  obtain ⟨⟨m, s, hs, hm1, hm, m1, m2, ss1, lf1⟩, -⟩ := id d0
  obtain ⟨⟨m', s', hs', hm1', hm', m1', m2', ss1', lf1'⟩, -⟩ := id d1
  have e10f : (10 : Int32) + nI f = nI (10 + f) := ja_add 10 f
  have e10g : (10 : Int32) + nI g = nI (10 + g) := ja_add 10 g
  -- the class moves
  let σ2 := gs (gs σ1 3144 (nI q)) 3146 (σ.1 3146 + 1)
  let τ2 := gA (gA (gA (gA τ1 66 0 (nI q)) 66 (10 + f) (nI q)) 66 (10 + g) (nI q)) 66 3 (σ.1 3145 + σ.1 3146 + 1)
  have hr0 : ∀ z, z ≠ 0 → z ≠ 3 → z ≠ 10 + f → z ≠ 10 + g → τ2.2 66 z = τ.2 66 z := by
    intro z h0 h3 h1 h2
    show (if 66 = 66 ∧ z = 3 then _ else if 66 = 66 ∧ z = 10 + g then _ else if 66 = 66 ∧ z = 10 + f then _ else if 66 = 66 ∧ z = 0 then _ else τ1.2 66 z) = _
    rw [if_neg (fun q => h3 q.2), if_neg (fun q => h2 q.2), if_neg (fun q => h1 q.2), if_neg (fun q => h0 q.2), u1 66 (by decide)]
  have hro : ∀ o, o ≠ 66 → o ≠ 78 → τ2.2 o = τ.2 o := by
    intro o h0 h1
    funext z
    show (if o = 66 ∧ z = 3 then _ else if o = 66 ∧ z = 10 + g then _ else if o = 66 ∧ z = 10 + f then _ else if o = 66 ∧ z = 0 then _ else τ1.2 o z) = _
    rw [if_neg (fun q => h0 q.1), if_neg (fun q => h0 q.1), if_neg (fun q => h0 q.1), if_neg (fun q => h0 q.1), u1 o h1]
  have d0' : rDi P Q 66 σ2 τ2 0 f := rDi_congr d0 (s2 6 (by decide) (by decide)) (s2 51 (by decide) (by decide)) (s2 52 (by decide) (by decide)) (s2 53 (by decide) (by decide)) (s2 54 (by decide) (by decide)) (hro 69 (by decide) (by decide)) (hro 70 (by decide) (by decide)) (fun z hz => hr0 z (by omega) (by omega) (by omega) (by omega)) hQ hf
  have d1' : rDi P Q 66 σ2 τ2 1 g := rDi_congr d1 (s2 6 (by decide) (by decide)) (s2 51 (by decide) (by decide)) (s2 52 (by decide) (by decide)) (s2 53 (by decide) (by decide)) (s2 54 (by decide) (by decide)) (hro 69 (by decide) (by decide)) (hro 70 (by decide) (by decide)) (fun z hz => hr0 z (by omega) (by omega) (by omega) (by omega)) hQ hg
  have w0' : σ2.2 50 0 = nI f := by
    show σ1.2 50 0 = _
    rw [s2 50 (by decide) (by decide)]; exact w0
  have w1' : σ2.2 50 1 = nI g := by
    show σ1.2 50 1 = _
    rw [s2 50 (by decide) (by decide)]; exact w1
  -- what both wear down to
  have wr : ∃ σ' τ' r, (r = f ∨ r = g) ∧ f_X5_wear σ2 = some (0, σ') ∧ (if nI (m' - s') ≤ nI (m - s) then f_X11_goStep_66_b108 (nI f) (nI g) (nI g) τ2 else f_X11_goStep_66_b108 (nI f) (nI g) (nI f) τ2) = some (0, τ') ∧ rDi P Q 66 σ' τ' 0 f ∧ rDi P Q 66 σ' τ' 1 g ∧
      (∀ z, z ≠ 3147 → σ'.1 z = σ2.1 z) ∧ (∀ o, o ≠ 51 → o ≠ 52 → o ≠ 54 → σ'.2 o = σ2.2 o) ∧ (∀ z, z ≠ 4187 → τ'.1 z = τ2.1 z) ∧ (∀ o, o ≠ 66 → τ'.2 o = τ2.2 o) ∧ (∀ z, z ≠ 4 + r → z ≠ 16 + r → τ'.2 66 z = τ2.2 66 z) ∧
      ((τ'.1 4187 = -1 ∧ σ'.1 3147 = σ2.1 3147) ∨ (τ'.1 4187 = nI r ∧ σ'.1 3147 = nI r)) := by
    unfold f_X5_wear
    have y0 : σ2.2 51 0 = nI (m - s) := by
      show σ1.2 51 0 = _
      rw [s2 51 (by decide) (by decide)]; exact lf1
    have y1 : σ2.2 51 1 = nI (m' - s') := by
      show σ1.2 51 1 = _
      rw [s2 51 (by decide) (by decide)]; exact lf1'
    rw [y0, y1]
    by_cases hle : nI (m' - s') ≤ nI (m - s)
    · rw [if_pos hle, if_pos hle]
      obtain ⟨σ', τ', x1, x2, x3, x4, x5, x6, x7, x8, x9, x10⟩ := wear_66 (i := 1) (k := 0) (r := g) (t := f) (f := f) (g := g) (σ := σ2) (τ := τ2) (P := P) (Q := Q) hQ (Or.inr ⟨rfl, rfl⟩) hg hf (Ne.symm hfg) (Or.inr ⟨rfl, rfl⟩) w1' w0' d1' d0'
      exact ⟨σ', τ', g, Or.inr rfl, x1, x2, x4, x3, x5, x6, x7, x8, x9, x10⟩
    · rw [if_neg hle, if_neg hle]
      obtain ⟨σ', τ', x1, x2, x3, x4, x5, x6, x7, x8, x9, x10⟩ := wear_66 (i := 0) (k := 1) (r := f) (t := g) (f := f) (g := g) (σ := σ2) (τ := τ2) (P := P) (Q := Q) hQ (Or.inl ⟨rfl, rfl⟩) hf hg hfg (Or.inl ⟨rfl, rfl⟩) w0' w1' d0' d1'
      exact ⟨σ', τ', f, Or.inl rfl, x1, x2, x3, x4, x5, x6, x7, x8, x9, x10⟩
  obtain ⟨σ', τ', r, hr, x1, x2, x3, x4, x5, x6, x7, x8, x9, x10⟩ := wr
  have z0 : τ2.2 66 0 = nI q := by
    show (if 66 = 66 ∧ 0 = 3 then σ.1 3145 + σ.1 3146 + 1 else if 66 = 66 ∧ 0 = 10 + g then _ else if 66 = 66 ∧ 0 = 10 + f then _ else if 66 = 66 ∧ 0 = 0 then nI q else τ1.2 66 0) = _
    rw [if_neg (fun q => by omega), if_neg (fun q => by omega), if_neg (fun q => by omega), if_pos ⟨rfl, rfl⟩]
  have zf : τ2.2 66 (10 + f) = nI q := by
    show (if 66 = 66 ∧ 10 + f = 3 then _ else if 66 = 66 ∧ 10 + f = 10 + g then _ else if 66 = 66 ∧ 10 + f = 10 + f then nI q else _) = _
    rw [if_neg (fun q => by omega), if_neg (fun q => by omega), if_pos ⟨rfl, rfl⟩]
  have zg : τ2.2 66 (10 + g) = nI q := by
    show (if 66 = 66 ∧ 10 + g = 3 then _ else if 66 = 66 ∧ 10 + g = 10 + g then nI q else _) = _
    rw [if_neg (fun q => by omega), if_pos ⟨rfl, rfl⟩]
  have hmq : f_X5_goBy (nI k) σ1 = some (1, σ') := by
    unfold f_X5_goBy
    rw [s1, hpl, c_leads_t (P := P) (by rw [s1]; exact l1) hP hp (by rw [s2 4 (by decide) (by decide)]; exact c4) hw3 hk, s2 5 (by decide) (by decide), q1]
    simp only [Option.bind_some]
    rw [if_pos (ja_neg1 (by omega)), s1]
    show (f_X5_wear σ2).bind _ = _
    rw [x1]; rfl
  refine ⟨k, σ1, σ', τ', hk, e1, hmq, ?_, ⟨?_, ?_⟩, ⟨?_, ?_⟩, ?_, ?_, ?_, ?_, ?_, ?_, ?_, q, hq, ?_⟩
  · unfold f_X11_goStep_66
    rw [r1, r2, m_left66 (by omega) hm hs m2 ss1]
    simp only [Option.bind_some]
    rw [m_left66 (by omega) hm' hs' m2' ss1']
    simp only [Option.bind_some]
    rw [pm, st, ← lf1, ← lf1', e2]
    simp only [Option.bind_some]
    rw [e3_mul, e10f, e10g, if_pos (ja_in (by omega) (by omega)), if_pos (ja_in (by omega) (by omega)), if_pos (ja_in (by omega) (by omega)), nI_clamp (by omega), nI_clamp (by omega), nI_clamp (by omega), u1 68 (by decide), q2]
    have y1 : (gA (gA (gA τ1 66 0 (nI q)) 66 (10 + f) (nI q)) 66 (10 + g) ((gA (gA τ1 66 0 (nI q)) 66 (10 + f) (nI q)).2 66 0)) = gA (gA (gA τ1 66 0 (nI q)) 66 (10 + f) (nI q)) 66 (10 + g) (nI q) := by
      congr 1
      show (if 66 = 66 ∧ 0 = 10 + f then _ else if 66 = 66 ∧ 0 = 0 then nI q else τ1.2 66 0) = _
      rw [if_neg (fun q => by omega), if_pos ⟨rfl, rfl⟩]
    rw [y1]
    have y2 : (gA (gA (gA τ1 66 0 (nI q)) 66 (10 + f) (nI q)) 66 (10 + g) (nI q)).2 66 3 = σ.1 3145 + σ.1 3146 := by
      show (if 66 = 66 ∧ 3 = 10 + g then _ else if 66 = 66 ∧ 3 = 10 + f then _ else if 66 = 66 ∧ 3 = 0 then nI q else τ1.2 66 3) = _
      rw [if_neg (fun q => by omega), if_neg (fun q => by omega), if_neg (fun q => by omega), u1 66 (by decide), st]
    rw [y2]
    show (f_X11_leftOf_66 (nI f) τ2).bind _ = _
    rw [m_left66 (τ := τ2) (by omega) hm hs (by rw [hro 69 (by decide) (by decide)]; exact m2) (by rw [hr0 _ (by omega) (by omega) (by omega) (by omega)]; exact ss1)]
    simp only [Option.bind_some]
    rw [m_left66 (τ := τ2) (by omega) hm' hs' (by rw [hro 69 (by decide) (by decide)]; exact m2') (by rw [hr0 _ (by omega) (by omega) (by omega) (by omega)]; exact ss1')]
    simp only [Option.bind_some]
    exact x2
  · intro i h1 h2 h3 h4
    rw [x5 i h3]
    show (if i = 3146 then _ else if i = 3144 then _ else σ1.1 i) = _
    rw [if_neg h2, if_neg h1, s1]
  · intro o h1 h2 h3 h4 h5
    rw [x6 o h1 h2 h3]
    show σ1.2 o = _
    rw [s2 o h4 h5]
  · intro i h1 h2 h3
    rw [x7 i h1]
    show τ1.1 i = _
    rw [u2 i h2 h3]
  · intro o h1 h2
    rw [x8 o h1, hro o h1 h2]
  · refine ⟨hf, hg, hfg, ?_, ?_, ?_, ?_, ⟨q, Or.inl hq, ?_, ?_⟩, ?_, x3, x4⟩
    · rw [x6 50 (by decide) (by decide) (by decide)]; exact w0'
    · rw [x6 50 (by decide) (by decide) (by decide)]; exact w1'
    · rw [x9 _ (by omega) (by omega), hr0 _ (by omega) (by omega) (by omega) (by omega)]; exact r1
    · rw [x9 _ (by omega) (by omega), hr0 _ (by omega) (by omega) (by omega) (by omega)]; exact r2
    · rw [x5 3144 (by decide)]; rfl
    · rw [x9 _ (by omega) (by omega)]; exact z0
    · rw [x9 _ (by omega) (by omega), x5 3145 (by decide), x5 3146 (by decide)]
      show σ.1 3145 + σ.1 3146 + 1 = σ1.1 3145 + (σ.1 3146 + 1)
      rw [s1, Int32.add_assoc]
  · intro z h1 h2 h3 h4 h5 h6 h7 h8
    rw [x9 z (by rcases hr with rfl | rfl <;> assumption) (by rcases hr with rfl | rfl <;> assumption), hr0 z h1 h2 h5 h6]
  · rw [x5 3148 (by decide)]
    show σ1.1 3148 = _
    rw [s1]
  · rw [x5 3146 (by decide)]; rfl
  · rw [x9 _ (by rcases hr with rfl | rfl <;> omega) (by rcases hr with rfl | rfl <;> omega), x9 _ (by omega) (by omega), z0, zf]
  · rw [x9 _ (by rcases hr with rfl | rfl <;> omega) (by rcases hr with rfl | rfl <;> omega), x9 _ (by omega) (by omega), z0, zg]
  · rcases x10 with ⟨y1, y2⟩ | ⟨y1, y2⟩
    · refine Or.inl ⟨y1, y2.trans ?_⟩
      show σ1.1 3147 = _
      rw [s1]
    · exact Or.inr ⟨r, by rcases hr with rfl | rfl <;> assumption, y1, y2⟩
  · rw [x5 3144 (by decide)]; rfl
/-- the views of the two where they are, and whether the ride goes on -/
theorem look_66 {P Q f g : Nat} {σ τ : jT} (hQ : Q ≤ 6) (hL : rL P σ τ) (hD : rD P Q 66 f g σ τ) : ∃ v0 v1 : Int32, f_X3_viewOf (σ.2 54 0) (σ.1 3144) σ = some (v0, σ) ∧ f_X3_viewOf (σ.2 54 1) (σ.1 3144) σ = some (v1, σ) ∧ f_X11_goesOn_66 τ = some (if v0 = v1 then 0 else 1, τ) ∧
    ((v0 = -1 ∧ v1 = -1 ∧ f_X3_waysAt (σ.1 3144) σ = some (0, σ) ∧ f_X3_leadsTo (σ.1 3144) (-1) σ = some (-1, σ) ∧ ∃ p, rPl P p ∧ σ.1 3144 = nI p ∧ τ.2 67 p = nI 0) ∨ ∃ p w, p < P ∧ 1 ≤ w ∧ w ≤ 3 ∧ σ.1 3144 = nI p ∧ τ.2 66 0 = nI p ∧ σ.2 4 p = nI w ∧ τ.2 67 p = nI w ∧ f_X11_viewOf_66 (nI f) (nI p) τ = some (v0, τ) ∧ f_X11_viewOf_66 (nI g) (nI p) τ = some (v1, τ) ∧ ¬ v0 < 0 ∧ v0 < nI w ∧ ¬ v1 < 0 ∧ v1 < nI w) := by
  obtain ⟨hf, hg, hfg, w0, w1, r1, r2, ⟨p, hp, pc, pm⟩, st, d0, d1⟩ := id hD
  obtain ⟨hP, l1, l2, -, lw, l0⟩ := id hL
  obtain ⟨-, -, -, g0, j0, M0, u1, u2, u3, u4, u5, u6, u7⟩ := id d0
  obtain ⟨-, -, -, g1, j1, M1, t1, t2, t3, t4, t5, t6, t7⟩ := id d1
  unfold f_X11_goesOn_66
  rw [pc, pm, u6, t6]
  rcases hp with hp | ⟨rfl, rfl⟩
  · obtain ⟨w, hw3, cw, mw, ld, -⟩ := lw p hp
    rw [c_viewOf l1 hP hp cw hw3 (j_pow4 hP u3), c_viewOf l1 hP hp cw hw3 (j_pow4 hP t3), if_pos (ja_in (by omega) (by omega)), nI_clamp (by omega), mw]
    by_cases hw0 : w = 0
    · subst hw0
      refine ⟨-1, -1, rfl, rfl, rfl, Or.inl ⟨rfl, rfl, ?_, c_leads_f l1 hP hp cw (Or.inl (by decide)), p, Or.inl hp, rfl, mw⟩⟩
      rw [c_ways_t l1 hP hp, cw]; rfl
    · rw [if_neg hw0, if_neg hw0, if_neg (nI_nle (by omega) (by omega)), r1]
      have V0 := m_view66 (τ := τ) (r := f) (g := g0) (j := j0) (p := p) (w := w) (d := M0 / 4 ^ p % 4) (by omega) (by omega) (by omega) (by omega) u4 u5 mw (by omega) hw3 (u7 p hp) j_dig3
      have V1 := m_view66 (τ := τ) (r := g) (g := g1) (j := j1) (p := p) (w := w) (d := M1 / 4 ^ p % 4) (by omega) (by omega) (by omega) (by omega) t4 t5 mw (by omega) hw3 (t7 p hp) j_dig3
      rw [V0]
      simp only [Option.bind_some]
      rw [r2, V1]
      simp only [Option.bind_some]
      have b0 : M0 / 4 ^ p % 4 % w < w := Nat.mod_lt _ (by omega)
      have b1 : M1 / 4 ^ p % 4 % w < w := Nat.mod_lt _ (by omega)
      refine ⟨_, _, rfl, rfl, ?_, Or.inr ⟨p, w, hp, by omega, hw3, rfl, rfl, cw, mw, V0, V1, nI_pos (by omega), (ja_lt (by omega) (by omega)).mpr b0, nI_pos (by omega), (ja_lt (by omega) (by omega)).mpr b1⟩⟩
      split <;> rfl
  · have hx : (nI 0 : Int32) < 0 ∨ nI 0 ≤ nI 0 := Or.inr (by decide)
    rw [c_viewOf_f l1 hx, c_viewOf_f l1 hx, c_ways_f l1 hx, c_leads_n l1 hx]
    refine ⟨-1, -1, rfl, rfl, ?_, Or.inl ⟨rfl, rfl, rfl, rfl, 0, Or.inr ⟨rfl, rfl⟩, rfl, l0 rfl⟩⟩
    rw [if_pos (ja_in (by omega) (by omega)), show (nI 0).toNatClampNeg = 0 from rfl, l0 rfl]
    rfl
/-- a STEP: it stops on both sides, or goes on on both sides -/
theorem step_66 {P Q f g : Nat} {σ τ : jT} (hQ : Q ≤ 6) (hL : rL P σ τ) (hU : rU σ τ) (hD : rD P Q 66 f g σ τ) : (f_X5_step σ = some (0, gs σ 3148 1) ∧ f_X11_step_66 τ = some (0, τ) ∧ f_X11_goesOn_66 τ = some (0, τ)) ∨ ∃ σ' τ', f_X5_step σ = some (1, σ') ∧ f_X11_step_66 τ = some (1, τ') ∧ f_X11_goesOn_66 τ = some (1, τ) ∧ stGo P Q 66 f g σ τ σ' τ' := by
  obtain ⟨v0, v1, e0, e1, e2, hc⟩ := look_66 hQ hL hD
  obtain ⟨hf, hg, hfg, w0, w1, r1, r2, -⟩ := id hD
  obtain ⟨hP, l1, l2, -, lw, l0⟩ := id hL
  unfold f_X5_step f_X11_step_66
  rw [e0, e2]
  simp only [Option.bind_some]
  rw [e1]
  simp only [Option.bind_some]
  by_cases hv : v0 = v1
  · left
    rw [if_pos hv, if_neg (fun q => q rfl)]
    refine ⟨?_, rfl, rfl⟩
    rcases hc with ⟨rfl, rfl, c1, c2, -⟩ | ⟨p, w, hp, hw1, hw3, pc, pm, cw, mw, -⟩
    · unfold f_X5_wayBy f_X5_goBy
      rw [c1]
      simp only [Option.bind_some]
      rw [if_pos trivial]
      simp only [Option.bind_some]
      rw [c2]
      rfl
    · unfold f_X5_wayBy f_X5_goBy
      rw [pc, c_ways_t l1 hP hp]
      simp only [Option.bind_some]
      rw [if_pos hv]
      simp only [Option.bind_some]
      rw [pc, c_leads_f l1 hP hp cw (Or.inl (by decide))]
      rfl
  · right
    rw [if_neg hv, if_pos (by decide)]
    rcases hc with ⟨rfl, rfl, -⟩ | ⟨p, w, hp, hw1, hw3, pc, pm, cw, mw, V0, V1, -⟩
    · exact absurd rfl hv
    · obtain ⟨k, σ1, σ', τ', hk, a1, a2, a3, a4⟩ := move_66 hQ hL hU hD hp hw1 hw3 pc cw mw hv
      refine ⟨σ', τ', ?_, ?_, rfl, a4⟩
      · rw [a1]
        simp only [Option.bind_some]
        rw [a2]; rfl
      · rw [r1, pm, V0]
        simp only [Option.bind_some]
        rw [r2, pm, V1]
        simp only [Option.bind_some]
        rw [a3]; rfl
