/-! ===== a ride of two: the class's trial, the model's row ===== -/
def dgt (P : Nat) (τ : jT) (j M : Nat) : Prop := ∀ p, p < P → τ.2 70 (10 * j + p) = nI (M / 4 ^ p % 4)
/-- one of the two: number i of the trial, RIDER r -/
def rDi (P Q A : Nat) (σ τ : jT) (i r : Nat) : Prop :=
  (∃ m s, s ≤ m ∧ 1 ≤ m ∧ m ≤ 99 ∧ σ.2 6 r = nI m ∧ τ.2 69 r = nI m ∧ τ.2 A (4 + r) = nI s ∧ σ.2 51 i = nI (m - s)) ∧
  (σ.2 52 i = τ.2 A (16 + r)) ∧
  (∃ j M, j < Q ∧ M < 4 ^ P ∧ τ.2 A (22 + r) = nI j ∧ σ.2 53 i = nI M ∧ dgt P τ j M) ∧
  ∃ g j M, g < Q ∧ j < Q ∧ M < 4 ^ P ∧ ((τ.2 A (16 + r) = -1 ∧ g = r) ∨ τ.2 A (16 + r) = nI g) ∧ τ.2 A (22 + g) = nI j ∧ σ.2 54 i = nI M ∧ dgt P τ j M
def rD (P Q A f g : Nat) (σ τ : jT) : Prop := f < Q ∧ g < Q ∧ f ≠ g ∧ σ.2 50 0 = nI f ∧ σ.2 50 1 = nI g ∧ τ.2 A 1 = nI f ∧ τ.2 A 2 = nI g ∧ (∃ p, rPl P p ∧ σ.1 3144 = nI p ∧ τ.2 A 0 = nI p) ∧ τ.2 A 3 = σ.1 3145 + σ.1 3146 ∧ rDi P Q A σ τ 0 f ∧ rDi P Q A σ τ 1 g
/-- what a STEP leaves as it was -/
def frC (σ σ' : jT) : Prop := (∀ i, i ≠ 3144 → i ≠ 3146 → i ≠ 3147 → i ≠ 3148 → σ'.1 i = σ.1 i) ∧ ∀ o, o ≠ 51 → o ≠ 52 → o ≠ 54 → o ≠ 10 → o ≠ 11 → σ'.2 o = σ.2 o
def frM (A : Nat) (τ τ' : jT) : Prop := (∀ i, i ≠ 4187 → (i < 4174 ∨ 4177 < i) → i ≠ 4185 → τ'.1 i = τ.1 i) ∧ ∀ o, o ≠ A → o ≠ 78 → τ'.2 o = τ.2 o
theorem frC_trans {a b c : jT} (h1 : frC a b) (h2 : frC b c) : frC a c := ⟨fun i a1 a2 a3 a4 => (h2.1 i a1 a2 a3 a4).trans (h1.1 i a1 a2 a3 a4), fun o a1 a2 a3 a4 a5 => (h2.2 o a1 a2 a3 a4 a5).trans (h1.2 o a1 a2 a3 a4 a5)⟩
theorem frM_trans {A : Nat} {a b c : jT} (h1 : frM A a b) (h2 : frM A b c) : frM A a c := ⟨fun i a1 a2 a3 => (h2.1 i a1 a2 a3).trans (h1.1 i a1 a2 a3), fun o a1 a2 => (h2.2 o a1 a2).trans (h1.2 o a1 a2)⟩
theorem j_max1 {l : Nat} (hl : l < 2 ^ 31) : jx_max (nI l - 1) 0 = nI (l - 1) := by
  cases l with
  | zero => decide
  | succ l =>
    rw [nI_pred]
    unfold jx_max
    rw [if_neg (nI_pos (by omega)), Nat.add_sub_cancel]
theorem m_left82 {τ : jT} {r m s : Nat} (hr : r < 6) (hm : m ≤ 99) (hs : s ≤ m) (h1 : τ.2 69 r = nI m) (h2 : τ.2 82 (4 + r) = nI s) : f_X11_leftOf_82 (nI r) τ = some (nI (m - s), τ) := by
  have e4 : (4 : Int32) + nI r = nI (4 + r) := ja_add 4 r
  unfold f_X11_leftOf_82
  rw [if_pos (ja_in (by omega) (by omega)), e4, if_pos (ja_in (by omega) (by omega)), nI_clamp (by omega), nI_clamp (by omega), h1, h2]
  have : nI m - nI s = nI (m - s) := by
    have : nI m = nI (m - s) + nI s := by rw [ja_add]; congr 1; omega
    rw [this, Int32.add_sub_cancel]
  rw [this]
/-- the weaker of the two, number i of the trial, RIDER r; the other one: number k, RIDER t -/
theorem wear_82 {P Q i k r t f g : Nat} {σ τ : jT} (hQ : Q ≤ 6) (hik : (i = 0 ∧ k = 1) ∨ (i = 1 ∧ k = 0)) (hr : r < Q) (ht : t < Q) (hrt : r ≠ t) (hfg : (r = f ∧ t = g) ∨ (r = g ∧ t = f)) (w1 : σ.2 50 i = nI r) (w2 : σ.2 50 k = nI t) (d1 : rDi P Q 82 σ τ i r) (d2 : rDi P Q 82 σ τ k t) :
    ∃ σ' τ', f_X5_wear_b20 (nI i) σ = some (0, σ') ∧ f_X11_goStep_82_b108 (nI f) (nI g) (nI r) τ = some (0, τ') ∧ rDi P Q 82 σ' τ' i r ∧ rDi P Q 82 σ' τ' k t ∧
      (∀ z, z ≠ 3147 → σ'.1 z = σ.1 z) ∧ (∀ o, o ≠ 51 → o ≠ 52 → o ≠ 54 → σ'.2 o = σ.2 o) ∧ (∀ z, z ≠ 4187 → τ'.1 z = τ.1 z) ∧ (∀ o, o ≠ 82 → τ'.2 o = τ.2 o) ∧ (∀ z, z ≠ 4 + r → z ≠ 16 + r → τ'.2 82 z = τ.2 82 z) ∧
      ((τ'.1 4187 = -1 ∧ σ'.1 3147 = σ.1 3147) ∨ (τ'.1 4187 = nI r ∧ σ'.1 3147 = nI r)) := by
  obtain ⟨⟨m, s, hs, hm1, hm, m1, m2, s1, l1⟩, b1, ⟨j, M, hj, hM, j1, o1, dg1⟩, gd⟩ := id d1
  obtain ⟨⟨m', s', hs', hm1', hm', m1', m2', s1', l1'⟩, b1', ⟨j', M', hj', hM', j1', o1', dg1'⟩, gd'⟩ := id d2
  have hi2 : i < 2 := by omega
  have hk2 : k < 2 := by omega
  have e16 : (16 : Int32) + nI r = nI (16 + r) := ja_add 16 r
  have e4 : (4 : Int32) + nI r = nI (4 + r) := ja_add 4 r
  have ek : (1 : Int32) - nI i = nI k := by rcases hik with ⟨rfl, rfl⟩ | ⟨rfl, rfl⟩ <;> decide
  have hneik : k ≠ i := by omega
  unfold f_X5_wear_b20 f_X11_goStep_82_b108
  rw [if_pos (ja_in hi2 (by omega)), nI_clamp (by omega), e16, if_pos (ja_in (by omega) (by omega)), nI_clamp (by omega), b1]
  by_cases hb : τ.2 82 (16 + r) = -1
  · rw [if_pos hb, if_pos hb, l1, j_max1 (by omega), if_pos (ja_in (by omega) (by omega)), e4, if_pos (ja_in (by omega) (by omega)), nI_clamp (by omega), nI_clamp (by omega), m2, s1]
    have emin : jx_min (nI m) (nI s + 1) = nI (min m (s + 1)) := by
      rw [← nI_succ, j_min (by omega) (by omega)]
    rw [emin]
    -- the model's row with one more spent
    have hA4 : (gA (gs τ 4187 (-1)) 82 (4 + r) (nI (min m (s + 1)))).2 82 = jx_up (τ.2 82) (4 + r) (nI (min m (s + 1))) := by
      rw [ju_gA]; rfl
    have hle := m_left82 (τ := gA (gs τ 4187 (-1)) 82 (4 + r) (nI (min m (s + 1)))) (r := r) (m := m) (s := min m (s + 1)) (by omega) hm (by omega) m2 (by rw [hA4, ju_eq])
    rw [hle]
    simp only [Option.bind_some]
    have hlm : m - min m (s + 1) = m - s - 1 := by omega
    rw [hlm]
    by_cases hz : m - s - 1 = 0
    · -- convinced
      rw [hz, if_neg (fun q => q rfl), ek, if_pos (ja_in hk2 (by omega)), if_pos (by decide), nI_clamp (by omega), w1, w2, o1']
      have hby : (if ¬ nI r = nI f then f_X11_goStep_82_b188 (nI f) (nI (16 + r)) (gs (gA (gs τ 4187 (-1)) 82 (4 + r) (nI (min m (s + 1)))) 4187 (nI r)) else f_X11_goStep_82_b188 (nI g) (nI (16 + r)) (gs (gA (gs τ 4187 (-1)) 82 (4 + r) (nI (min m (s + 1)))) 4187 (nI r))) = some (0, gA (gs (gA (gs τ 4187 (-1)) 82 (4 + r) (nI (min m (s + 1)))) 4187 (nI r)) 82 (16 + r) (nI t)) := by
        unfold f_X11_goStep_82_b188
        rw [if_pos (ja_in (by omega) (by omega)), if_pos (ja_in (by omega) (by omega)), nI_clamp (by omega)]
        rcases hfg with ⟨rfl, rfl⟩ | ⟨rfl, rfl⟩
        · rw [if_neg (fun q => q rfl)]
        · rw [if_pos (fun q => hrt ((ja_eq (by omega) (by omega)).mp q))]
      rw [hby]
      have hT : (gA (gs (gA (gs τ 4187 (-1)) 82 (4 + r) (nI (min m (s + 1)))) 4187 (nI r)) 82 (16 + r) (nI t)).2 82 = jx_up (jx_up (τ.2 82) (4 + r) (nI (min m (s + 1)))) (16 + r) (nI t) := by
        rw [ju_gA]
        show jx_up ((gA (gs τ 4187 (-1)) 82 (4 + r) (nI (min m (s + 1)))).2 82) _ _ = _
        rw [hA4]
      have hTne : ∀ z, z ≠ 4 + r → z ≠ 16 + r → (gA (gs (gA (gs τ 4187 (-1)) 82 (4 + r) (nI (min m (s + 1)))) 4187 (nI r)) 82 (16 + r) (nI t)).2 82 z = τ.2 82 z := fun z h1 h2 => by rw [hT, ju_ne _ _ h2, ju_ne _ _ h1]
      have h51 : (gs (gA (gA (gA σ 51 i (nI 0)) 52 i (nI t)) 54 i (nI M')) 3147 (nI r)).2 51 = jx_up (σ.2 51) i (nI 0) := by
        show (gA σ 51 i (nI 0)).2 51 = _
        rw [ju_gA]
      have h52 : (gs (gA (gA (gA σ 51 i (nI 0)) 52 i (nI t)) 54 i (nI M')) 3147 (nI r)).2 52 = jx_up (σ.2 52) i (nI t) := by
        show (gA (gA σ 51 i (nI 0)) 52 i (nI t)).2 52 = _
        rw [ju_gA]; rfl
      have h54 : (gs (gA (gA (gA σ 51 i (nI 0)) 52 i (nI t)) 54 i (nI M')) 3147 (nI r)).2 54 = jx_up (σ.2 54) i (nI M') := by
        show (gA (gA (gA σ 51 i (nI 0)) 52 i (nI t)) 54 i (nI M')).2 54 = _
        rw [ju_gA]; rfl
      refine ⟨gs (gA (gA (gA σ 51 i (nI 0)) 52 i (nI t)) 54 i (nI M')) 3147 (nI r), _, rfl, rfl, ?_, ?_, ?_, ?_, ?_, ?_, ?_, Or.inr ⟨rfl, rfl⟩⟩
      · refine ⟨⟨m, min m (s + 1), by omega, hm1, hm, m1, m2, ?_, ?_⟩, ?_, ⟨j, M, hj, hM, ?_, o1, dg1⟩, ⟨t, j', M', ht, hj', hM', Or.inr ?_, ?_, ?_, dg1'⟩⟩
        · rw [hT, ju_ne _ _ (by omega), ju_eq]
        · rw [h51, ju_eq, hlm, hz]
        · rw [h52, ju_eq, hT, ju_eq]
        · rw [hTne _ (by omega) (by omega)]; exact j1
        · rw [hT, ju_eq]
        · rw [hTne _ (by omega) (by omega)]; exact j1'
        · rw [h54, ju_eq]
      · refine ⟨⟨m', s', hs', hm1', hm', m1', m2', ?_, ?_⟩, ?_, ⟨j', M', hj', hM', ?_, o1', dg1'⟩, ?_⟩
        · rw [hTne _ (by omega) (by omega)]; exact s1'
        · rw [h51, ju_ne _ _ hneik]; exact l1'
        · rw [h52, ju_ne _ _ hneik, hTne _ (by omega) (by omega)]; exact b1'
        · rw [hTne _ (by omega) (by omega)]; exact j1'
        · obtain ⟨g0, j0, M0, u1, u2, u3, u4, u5, u6, u7⟩ := gd'
          refine ⟨g0, j0, M0, u1, u2, u3, ?_, ?_, ?_, u7⟩
          · rw [hTne _ (by omega) (by omega)]; exact u4
          · rw [hTne _ (by omega) (by omega)]; exact u5
          · rw [h54, ju_ne _ _ hneik]; exact u6
      · intro z hz; exact if_neg hz
      · intro o h1 h2 h3
        funext z
        show (if o = 54 ∧ z = i then _ else if o = 52 ∧ z = i then _ else if o = 51 ∧ z = i then _ else σ.2 o z) = _
        rw [if_neg (fun q => h3 q.1), if_neg (fun q => h2 q.1), if_neg (fun q => h1 q.1)]
      · intro z hz
        show (if z = 4187 then nI r else if z = 4187 then (-1 : Int32) else τ.1 z) = _
        rw [if_neg hz, if_neg hz]
      · intro o ho
        funext z
        show (if o = 82 ∧ z = 16 + r then _ else if o = 82 ∧ z = 4 + r then _ else τ.2 o z) = _
        rw [if_neg (fun q => ho q.1), if_neg (fun q => ho q.1)]
      · exact hTne
    · rw [if_pos (nI_ne0 (by omega) (by omega)), if_neg (nI_nle (by omega) (by omega))]
      have hTne : ∀ z, z ≠ 4 + r → (gA (gs τ 4187 (-1)) 82 (4 + r) (nI (min m (s + 1)))).2 82 z = τ.2 82 z := fun z h1 => by rw [hA4, ju_ne _ _ h1]
      have h51 : (gA σ 51 i (nI (m - s - 1))).2 51 = jx_up (σ.2 51) i (nI (m - s - 1)) := ju_gA _ _ _ _
      refine ⟨gA σ 51 i (nI (m - s - 1)), _, rfl, rfl, ?_, ?_, fun _ _ => rfl, ?_, ?_, ?_, ?_, Or.inl ⟨rfl, rfl⟩⟩
      · refine ⟨⟨m, min m (s + 1), by omega, hm1, hm, m1, m2, ?_, ?_⟩, ?_, ⟨j, M, hj, hM, ?_, o1, dg1⟩, ?_⟩
        · rw [hA4, ju_eq]
        · rw [h51, ju_eq, hlm]
        · rw [hTne _ (by omega)]; exact b1
        · rw [hTne _ (by omega)]; exact j1
        · obtain ⟨g0, j0, M0, u1, u2, u3, u4, u5, u6, u7⟩ := gd
          refine ⟨g0, j0, M0, u1, u2, u3, ?_, ?_, u6, u7⟩
          · rw [hTne _ (by omega)]; exact u4
          · rw [hTne _ (by omega)]; exact u5
      · refine ⟨⟨m', s', hs', hm1', hm', m1', m2', ?_, ?_⟩, ?_, ⟨j', M', hj', hM', ?_, o1', dg1'⟩, ?_⟩
        · rw [hTne _ (by omega)]; exact s1'
        · rw [h51, ju_ne _ _ hneik]; exact l1'
        · rw [hTne _ (by omega)]; exact b1'
        · rw [hTne _ (by omega)]; exact j1'
        · obtain ⟨g0, j0, M0, u1, u2, u3, u4, u5, u6, u7⟩ := gd'
          refine ⟨g0, j0, M0, u1, u2, u3, ?_, ?_, u6, u7⟩
          · rw [hTne _ (by omega)]; exact u4
          · rw [hTne _ (by omega)]; exact u5
      · intro o h1 h2 h3
        funext z
        show (if o = 51 ∧ z = i then _ else σ.2 o z) = _
        rw [if_neg (fun q => h1 q.1)]
      · intro z hz; exact if_neg hz
      · intro o ho
        funext z
        show (if o = 82 ∧ z = 4 + r then _ else τ.2 o z) = _
        rw [if_neg (fun q => ho q.1)]
      · exact fun z h1 _ => hTne z h1
  · rw [if_neg hb, if_neg hb]
    exact ⟨σ, gs τ 4187 (-1), rfl, rfl, d1, d2, fun _ _ => rfl, fun _ _ _ _ => rfl, fun z hz => if_neg hz, fun _ _ => rfl, fun _ _ _ => rfl, Or.inl ⟨rfl, rfl⟩⟩
theorem m_left66 {τ : jT} {r m s : Nat} (hr : r < 6) (hm : m ≤ 99) (hs : s ≤ m) (h1 : τ.2 69 r = nI m) (h2 : τ.2 66 (4 + r) = nI s) : f_X11_leftOf_66 (nI r) τ = some (nI (m - s), τ) := by
  have e4 : (4 : Int32) + nI r = nI (4 + r) := ja_add 4 r
  unfold f_X11_leftOf_66
  rw [if_pos (ja_in (by omega) (by omega)), e4, if_pos (ja_in (by omega) (by omega)), nI_clamp (by omega), nI_clamp (by omega), h1, h2]
  have : nI m - nI s = nI (m - s) := by
    have : nI m = nI (m - s) + nI s := by rw [ja_add]; congr 1; omega
    rw [this, Int32.add_sub_cancel]
  rw [this]
/-- the weaker of the two, number i of the trial, RIDER r; the other one: number k, RIDER t -/
theorem wear_66 {P Q i k r t f g : Nat} {σ τ : jT} (hQ : Q ≤ 6) (hik : (i = 0 ∧ k = 1) ∨ (i = 1 ∧ k = 0)) (hr : r < Q) (ht : t < Q) (hrt : r ≠ t) (hfg : (r = f ∧ t = g) ∨ (r = g ∧ t = f)) (w1 : σ.2 50 i = nI r) (w2 : σ.2 50 k = nI t) (d1 : rDi P Q 66 σ τ i r) (d2 : rDi P Q 66 σ τ k t) :
    ∃ σ' τ', f_X5_wear_b20 (nI i) σ = some (0, σ') ∧ f_X11_goStep_66_b108 (nI f) (nI g) (nI r) τ = some (0, τ') ∧ rDi P Q 66 σ' τ' i r ∧ rDi P Q 66 σ' τ' k t ∧
      (∀ z, z ≠ 3147 → σ'.1 z = σ.1 z) ∧ (∀ o, o ≠ 51 → o ≠ 52 → o ≠ 54 → σ'.2 o = σ.2 o) ∧ (∀ z, z ≠ 4187 → τ'.1 z = τ.1 z) ∧ (∀ o, o ≠ 66 → τ'.2 o = τ.2 o) ∧ (∀ z, z ≠ 4 + r → z ≠ 16 + r → τ'.2 66 z = τ.2 66 z) ∧
      ((τ'.1 4187 = -1 ∧ σ'.1 3147 = σ.1 3147) ∨ (τ'.1 4187 = nI r ∧ σ'.1 3147 = nI r)) := by
  obtain ⟨⟨m, s, hs, hm1, hm, m1, m2, s1, l1⟩, b1, ⟨j, M, hj, hM, j1, o1, dg1⟩, gd⟩ := id d1
  obtain ⟨⟨m', s', hs', hm1', hm', m1', m2', s1', l1'⟩, b1', ⟨j', M', hj', hM', j1', o1', dg1'⟩, gd'⟩ := id d2
  have hi2 : i < 2 := by omega
  have hk2 : k < 2 := by omega
  have e16 : (16 : Int32) + nI r = nI (16 + r) := ja_add 16 r
  have e4 : (4 : Int32) + nI r = nI (4 + r) := ja_add 4 r
  have ek : (1 : Int32) - nI i = nI k := by rcases hik with ⟨rfl, rfl⟩ | ⟨rfl, rfl⟩ <;> decide
  have hneik : k ≠ i := by omega
  unfold f_X5_wear_b20 f_X11_goStep_66_b108
  rw [if_pos (ja_in hi2 (by omega)), nI_clamp (by omega), e16, if_pos (ja_in (by omega) (by omega)), nI_clamp (by omega), b1]
  by_cases hb : τ.2 66 (16 + r) = -1
  · rw [if_pos hb, if_pos hb, l1, j_max1 (by omega), if_pos (ja_in (by omega) (by omega)), e4, if_pos (ja_in (by omega) (by omega)), nI_clamp (by omega), nI_clamp (by omega), m2, s1]
    have emin : jx_min (nI m) (nI s + 1) = nI (min m (s + 1)) := by
      rw [← nI_succ, j_min (by omega) (by omega)]
    rw [emin]
    -- the model's row with one more spent
    have hA4 : (gA (gs τ 4187 (-1)) 66 (4 + r) (nI (min m (s + 1)))).2 66 = jx_up (τ.2 66) (4 + r) (nI (min m (s + 1))) := by
      rw [ju_gA]; rfl
    have hle := m_left66 (τ := gA (gs τ 4187 (-1)) 66 (4 + r) (nI (min m (s + 1)))) (r := r) (m := m) (s := min m (s + 1)) (by omega) hm (by omega) m2 (by rw [hA4, ju_eq])
    rw [hle]
    simp only [Option.bind_some]
    have hlm : m - min m (s + 1) = m - s - 1 := by omega
    rw [hlm]
    by_cases hz : m - s - 1 = 0
    · -- convinced
      rw [hz, if_neg (fun q => q rfl), ek, if_pos (ja_in hk2 (by omega)), if_pos (by decide), nI_clamp (by omega), w1, w2, o1']
      have hby : (if ¬ nI r = nI f then f_X11_goStep_66_b188 (nI f) (nI (16 + r)) (gs (gA (gs τ 4187 (-1)) 66 (4 + r) (nI (min m (s + 1)))) 4187 (nI r)) else f_X11_goStep_66_b188 (nI g) (nI (16 + r)) (gs (gA (gs τ 4187 (-1)) 66 (4 + r) (nI (min m (s + 1)))) 4187 (nI r))) = some (0, gA (gs (gA (gs τ 4187 (-1)) 66 (4 + r) (nI (min m (s + 1)))) 4187 (nI r)) 66 (16 + r) (nI t)) := by
        unfold f_X11_goStep_66_b188
        rw [if_pos (ja_in (by omega) (by omega)), if_pos (ja_in (by omega) (by omega)), nI_clamp (by omega)]
        rcases hfg with ⟨rfl, rfl⟩ | ⟨rfl, rfl⟩
        · rw [if_neg (fun q => q rfl)]
        · rw [if_pos (fun q => hrt ((ja_eq (by omega) (by omega)).mp q))]
      rw [hby]
      have hT : (gA (gs (gA (gs τ 4187 (-1)) 66 (4 + r) (nI (min m (s + 1)))) 4187 (nI r)) 66 (16 + r) (nI t)).2 66 = jx_up (jx_up (τ.2 66) (4 + r) (nI (min m (s + 1)))) (16 + r) (nI t) := by
        rw [ju_gA]
        show jx_up ((gA (gs τ 4187 (-1)) 66 (4 + r) (nI (min m (s + 1)))).2 66) _ _ = _
        rw [hA4]
      have hTne : ∀ z, z ≠ 4 + r → z ≠ 16 + r → (gA (gs (gA (gs τ 4187 (-1)) 66 (4 + r) (nI (min m (s + 1)))) 4187 (nI r)) 66 (16 + r) (nI t)).2 66 z = τ.2 66 z := fun z h1 h2 => by rw [hT, ju_ne _ _ h2, ju_ne _ _ h1]
      have h51 : (gs (gA (gA (gA σ 51 i (nI 0)) 52 i (nI t)) 54 i (nI M')) 3147 (nI r)).2 51 = jx_up (σ.2 51) i (nI 0) := by
        show (gA σ 51 i (nI 0)).2 51 = _
        rw [ju_gA]
      have h52 : (gs (gA (gA (gA σ 51 i (nI 0)) 52 i (nI t)) 54 i (nI M')) 3147 (nI r)).2 52 = jx_up (σ.2 52) i (nI t) := by
        show (gA (gA σ 51 i (nI 0)) 52 i (nI t)).2 52 = _
        rw [ju_gA]; rfl
      have h54 : (gs (gA (gA (gA σ 51 i (nI 0)) 52 i (nI t)) 54 i (nI M')) 3147 (nI r)).2 54 = jx_up (σ.2 54) i (nI M') := by
        show (gA (gA (gA σ 51 i (nI 0)) 52 i (nI t)) 54 i (nI M')).2 54 = _
        rw [ju_gA]; rfl
      refine ⟨gs (gA (gA (gA σ 51 i (nI 0)) 52 i (nI t)) 54 i (nI M')) 3147 (nI r), _, rfl, rfl, ?_, ?_, ?_, ?_, ?_, ?_, ?_, Or.inr ⟨rfl, rfl⟩⟩
      · refine ⟨⟨m, min m (s + 1), by omega, hm1, hm, m1, m2, ?_, ?_⟩, ?_, ⟨j, M, hj, hM, ?_, o1, dg1⟩, ⟨t, j', M', ht, hj', hM', Or.inr ?_, ?_, ?_, dg1'⟩⟩
        · rw [hT, ju_ne _ _ (by omega), ju_eq]
        · rw [h51, ju_eq, hlm, hz]
        · rw [h52, ju_eq, hT, ju_eq]
        · rw [hTne _ (by omega) (by omega)]; exact j1
        · rw [hT, ju_eq]
        · rw [hTne _ (by omega) (by omega)]; exact j1'
        · rw [h54, ju_eq]
      · refine ⟨⟨m', s', hs', hm1', hm', m1', m2', ?_, ?_⟩, ?_, ⟨j', M', hj', hM', ?_, o1', dg1'⟩, ?_⟩
        · rw [hTne _ (by omega) (by omega)]; exact s1'
        · rw [h51, ju_ne _ _ hneik]; exact l1'
        · rw [h52, ju_ne _ _ hneik, hTne _ (by omega) (by omega)]; exact b1'
        · rw [hTne _ (by omega) (by omega)]; exact j1'
        · obtain ⟨g0, j0, M0, u1, u2, u3, u4, u5, u6, u7⟩ := gd'
          refine ⟨g0, j0, M0, u1, u2, u3, ?_, ?_, ?_, u7⟩
          · rw [hTne _ (by omega) (by omega)]; exact u4
          · rw [hTne _ (by omega) (by omega)]; exact u5
          · rw [h54, ju_ne _ _ hneik]; exact u6
      · intro z hz; exact if_neg hz
      · intro o h1 h2 h3
        funext z
        show (if o = 54 ∧ z = i then _ else if o = 52 ∧ z = i then _ else if o = 51 ∧ z = i then _ else σ.2 o z) = _
        rw [if_neg (fun q => h3 q.1), if_neg (fun q => h2 q.1), if_neg (fun q => h1 q.1)]
      · intro z hz
        show (if z = 4187 then nI r else if z = 4187 then (-1 : Int32) else τ.1 z) = _
        rw [if_neg hz, if_neg hz]
      · intro o ho
        funext z
        show (if o = 66 ∧ z = 16 + r then _ else if o = 66 ∧ z = 4 + r then _ else τ.2 o z) = _
        rw [if_neg (fun q => ho q.1), if_neg (fun q => ho q.1)]
      · exact hTne
    · rw [if_pos (nI_ne0 (by omega) (by omega)), if_neg (nI_nle (by omega) (by omega))]
      have hTne : ∀ z, z ≠ 4 + r → (gA (gs τ 4187 (-1)) 66 (4 + r) (nI (min m (s + 1)))).2 66 z = τ.2 66 z := fun z h1 => by rw [hA4, ju_ne _ _ h1]
      have h51 : (gA σ 51 i (nI (m - s - 1))).2 51 = jx_up (σ.2 51) i (nI (m - s - 1)) := ju_gA _ _ _ _
      refine ⟨gA σ 51 i (nI (m - s - 1)), _, rfl, rfl, ?_, ?_, fun _ _ => rfl, ?_, ?_, ?_, ?_, Or.inl ⟨rfl, rfl⟩⟩
      · refine ⟨⟨m, min m (s + 1), by omega, hm1, hm, m1, m2, ?_, ?_⟩, ?_, ⟨j, M, hj, hM, ?_, o1, dg1⟩, ?_⟩
        · rw [hA4, ju_eq]
        · rw [h51, ju_eq, hlm]
        · rw [hTne _ (by omega)]; exact b1
        · rw [hTne _ (by omega)]; exact j1
        · obtain ⟨g0, j0, M0, u1, u2, u3, u4, u5, u6, u7⟩ := gd
          refine ⟨g0, j0, M0, u1, u2, u3, ?_, ?_, u6, u7⟩
          · rw [hTne _ (by omega)]; exact u4
          · rw [hTne _ (by omega)]; exact u5
      · refine ⟨⟨m', s', hs', hm1', hm', m1', m2', ?_, ?_⟩, ?_, ⟨j', M', hj', hM', ?_, o1', dg1'⟩, ?_⟩
        · rw [hTne _ (by omega)]; exact s1'
        · rw [h51, ju_ne _ _ hneik]; exact l1'
        · rw [hTne _ (by omega)]; exact b1'
        · rw [hTne _ (by omega)]; exact j1'
        · obtain ⟨g0, j0, M0, u1, u2, u3, u4, u5, u6, u7⟩ := gd'
          refine ⟨g0, j0, M0, u1, u2, u3, ?_, ?_, u6, u7⟩
          · rw [hTne _ (by omega)]; exact u4
          · rw [hTne _ (by omega)]; exact u5
      · intro o h1 h2 h3
        funext z
        show (if o = 51 ∧ z = i then _ else σ.2 o z) = _
        rw [if_neg (fun q => h1 q.1)]
      · intro z hz; exact if_neg hz
      · intro o ho
        funext z
        show (if o = 66 ∧ z = 4 + r then _ else τ.2 o z) = _
        rw [if_neg (fun q => ho q.1)]
      · exact fun z h1 _ => hTne z h1
  · rw [if_neg hb, if_neg hb]
    exact ⟨σ, gs τ 4187 (-1), rfl, rfl, d1, d2, fun _ _ => rfl, fun _ _ _ _ => rfl, fun z hz => if_neg hz, fun _ _ => rfl, fun _ _ _ => rfl, Or.inl ⟨rfl, rfl⟩⟩
