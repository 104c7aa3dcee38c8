/-! ===== matches: the call ===== -/
def gF0 (σ σ' : jT) : Prop := (∀ i, i < 3144 ∨ 3148 < i → σ'.1 i = σ.1 i) ∧ ∀ o, o ≠ 10 → o ≠ 11 → o ≠ 59 → o < 50 ∨ 54 < o → σ'.2 o = σ.2 o
theorem gF0_refl (σ : jT) : gF0 σ σ := ⟨fun _ _ => rfl, fun _ _ _ _ _ => rfl⟩
theorem gF0_trans {a b c : jT} (h1 : gF0 a b) (h2 : gF0 b c) : gF0 a c := ⟨fun i h => (h2.1 i h).trans (h1.1 i h), fun o a1 a2 a3 a4 => (h2.2 o a1 a2 a3 a4).trans (h1.2 o a1 a2 a3 a4)⟩
theorem gF0_q {a b : jT} (h : qC a b) : gF0 a b := ⟨h.1, fun o a1 a2 _ a4 => h.2 o a1 a2 a4⟩
theorem gF0_59 {a : jT} {k : Nat} {v : Int32} : gF0 a (gA a 59 k v) := ⟨fun _ _ => rfl, fun o _ _ ho _ => funext fun j => by rw [ja_gA, if_neg (fun q => ho q.1)]⟩
theorem gF0_g {σ σ' : jT} (h : gF0 σ σ') : coreGC σ' = coreGC σ := by
  unfold coreGC
  rw [h.1 195 (by decide), h.1 196 (by decide), h.1 197 (by decide), h.1 452 (by decide), h.2 4 (by decide) (by decide) (by decide) (by decide), h.2 5 (by decide) (by decide) (by decide) (by decide), h.2 6 (by decide) (by decide) (by decide) (by decide), h.2 13 (by decide) (by decide) (by decide) (by decide), h.2 8 (by decide) (by decide) (by decide) (by decide)]
/-- what a call leaves lying about in the class, all in all -/
theorem coreC_lie {σ σ' : jT} (h1 : ∀ i, i < 3144 → σ'.1 i = σ.1 i) (h2 : ∀ o, o ≠ 10 → o ≠ 11 → o < 50 ∨ o = 62 → σ'.2 o = σ.2 o) : coreC σ' = coreC σ := by
  have hp : pastC σ' = pastC σ := by
    funext i
    unfold pastC
    split <;> exact h2 _ (by decide) (by decide) (by decide)
  have hk : keptC σ' = keptC σ := by
    funext i
    unfold keptC
    split <;> exact h2 _ (by decide) (by decide) (by decide)
  unfold coreC
  rw [hp, hk, h1 65 (by decide), h1 195 (by decide), h1 196 (by decide), h1 197 (by decide), h1 452 (by decide), h1 898 (by decide), h1 899 (by decide), h1 900 (by decide), h1 3009 (by decide), h1 12 (by decide),
    h2 2 (by decide) (by decide) (by decide), h2 4 (by decide) (by decide) (by decide), h2 5 (by decide) (by decide) (by decide), h2 6 (by decide) (by decide) (by decide), h2 13 (by decide) (by decide) (by decide), h2 8 (by decide) (by decide) (by decide), h2 48 (by decide) (by decide) (by decide), h2 62 (by decide) (by decide) (by decide)]
theorem gF2_core {τ τ' : jT} (h : gF2 τ τ') : coreM τ' = coreM τ := by
  unfold coreM
  rw [h.1 4169 (by decide) (by decide) (by decide) (by decide) (by decide) (by decide), h.1 4161 (by decide) (by decide) (by decide) (by decide) (by decide) (by decide), h.1 4164 (by decide) (by decide) (by decide) (by decide) (by decide) (by decide), h.1 4165 (by decide) (by decide) (by decide) (by decide) (by decide) (by decide), h.1 4184 (by decide) (by decide) (by decide) (by decide) (by decide) (by decide), h.1 4189 (by decide) (by decide) (by decide) (by decide) (by decide) (by decide), h.1 4208 (by decide) (by decide) (by decide) (by decide) (by decide) (by decide), h.1 4171 (by decide) (by decide) (by decide) (by decide) (by decide) (by decide), h.1 4203 (by decide) (by decide) (by decide) (by decide) (by decide) (by decide),
    h.2 71 (by decide) (by decide) (by decide) (by decide), h.2 67 (by decide) (by decide) (by decide) (by decide), h.2 68 (by decide) (by decide) (by decide) (by decide), h.2 69 (by decide) (by decide) (by decide) (by decide), h.2 70 (by decide) (by decide) (by decide) (by decide), h.2 66 (by decide) (by decide) (by decide) (by decide), h.2 77 (by decide) (by decide) (by decide) (by decide), h.2 79 (by decide) (by decide) (by decide) (by decide), h.2 92 (by decide) (by decide) (by decide) (by decide), h.2 93 (by decide) (by decide) (by decide) (by decide), h.2 94 (by decide) (by decide) (by decide) (by decide), h.2 72 (by decide) (by decide) (by decide) (by decide), h.2 88 (by decide) (by decide) (by decide) (by decide)]
def mtD (Q t : Nat) (S : Nat → Nat → Nat) (i j : Nat) (σ : jT) : Prop := ∀ a b, a < b → b < Q → (a < i ∨ (a = i ∧ b < j)) → t / 2 ^ a % 2 = 1 → t / 2 ^ b % 2 = 1 → σ.2 59 (6 * a + b) = nI (S a b)
theorem both_bit {t a b : Nat} (ht : t < 64) (ha : a < 6) (hb : b < 6) : ((nI t >>> (nI a &&& 31)) &&& (nI t >>> (nI b &&& 31))) &&& 1 = if t / 2 ^ a % 2 = 1 ∧ t / 2 ^ b % 2 = 1 then 1 else 0 := by
  have key : ∀ t, t < 64 → ∀ a, a < 6 → ∀ b, b < 6 → ((nI t >>> (nI a &&& 31)) &&& (nI t >>> (nI b &&& 31))) &&& 1 = if t / 2 ^ a % 2 = 1 ∧ t / 2 ^ b % 2 = 1 then 1 else 0 := by decide +kernel
  exact key t ht a ha b hb
theorem c_setSteps {i j : Nat} {v : Int32} {σ : jT} (hi : i < 6) (hj : j < 6) : f_X4_setSteps (nI i) (nI j) v σ = some (0, gA σ 59 (6 * i + j) v) := by
  unfold f_X4_setSteps
  rw [if_neg (nI_pos (by omega)), if_neg (show ¬ (6 : Int32) ≤ nI i from nI_ge (b := 6) (by omega) (by omega)), if_neg (nI_pos (by omega)), if_neg (show ¬ (6 : Int32) ≤ nI j from nI_ge (b := 6) (by omega) (by omega)), ix66 hi hj, if_pos (ja_in (n := 36) (by omega) (by omega)), nI_clamp (by omega)]
theorem mt_in {Q p t i : Nat} {σ0 τ0 : jT} {S : Nat → Nat → Nat} (hQ : Q ≤ 6) (q1 : σ0.1 197 = nI Q) (hS : stT Q p σ0 τ0 S) (ht : t < 64) (hi : i < Q) (k26 : Int32 → Int32 → Int32 → jT → Option (Int32 × jT)) : ∀ (m j fu : Nat) (σ : jT), j + m = Q → i < j → m < fu → gF0 σ0 σ → mtD Q t S i j σ →
    ∃ σ', f_X10_matches_b42 k26 fu (nI t) (nI p) (nI i) (nI j) σ = k26 (nI t) (nI p) (nI (i + 1)) σ' ∧ gF0 σ0 σ' ∧ mtD Q t S (i + 1) 0 σ' := by
  intro m
  induction m with
  | zero =>
    intro j fu σ hj hij hf hg hd
    obtain ⟨fu, rfl⟩ : ∃ f', fu = f' + 1 := ⟨fu - 1, by omega⟩
    rw [f_X10_matches_b42]
    unfold f_X3_riderCount
    simp only [bnd]
    rw [hg.1 197 (by decide), q1, if_pos ((ja_le (by omega) (by omega)).2 (by omega)), nS]
    exact ⟨σ, rfl, hg, fun a b h1 h2 h3 => hd a b h1 h2 (by omega)⟩
  | succ m ih =>
    intro j fu σ hj hij hf hg hd
    obtain ⟨fu, rfl⟩ : ∃ f', fu = f' + 1 := ⟨fu - 1, by omega⟩
    rw [f_X10_matches_b42]
    unfold f_X3_riderCount
    simp only [bnd]
    rw [hg.1 197 (by decide), q1, if_neg (show ¬ nI Q ≤ nI j from fun c => by have := (ja_le (by omega) (by omega)).1 c; omega), both_bit ht (by omega) (by omega)]
    unfold f_X10_matches_b72 f_X10_matches_b98
    have put : ∀ (σ1 : jT) (v : Nat), gF0 σ0 σ1 → σ1.2 59 = σ.2 59 → (t / 2 ^ i % 2 = 1 → t / 2 ^ j % 2 = 1 → v = S i j) → ∃ σ', f_X10_matches_b42 k26 fu (nI t) (nI p) (nI i) (nI (j + 1)) (gA σ1 59 (6 * i + j) (nI v)) = k26 (nI t) (nI p) (nI (i + 1)) σ' ∧ gF0 σ0 σ' ∧ mtD Q t S (i + 1) 0 σ' := by
      intro σ1 v h1 h2 h3
      refine ih (j + 1) fu _ (by omega) (by omega) (by omega) (gF0_trans h1 gF0_59) (fun a b k1 k2 k3 k4 k5 => ?_)
      rw [ja_gA]
      by_cases z : 6 * a + b = 6 * i + j
      · have za : a = i := by omega
        have zb : b = j := by omega
        subst za
        subst zb
        rw [if_pos ⟨rfl, rfl⟩, h3 k4 k5]
      · rw [if_neg (fun w => z w.2), h2]
        exact hd a b k1 k2 (by omega) k4 k5
    by_cases c : t / 2 ^ i % 2 = 1 ∧ t / 2 ^ j % 2 = 1
    · rw [if_pos c, if_neg (show ¬ (1 : Int32) = 0 by decide), if_neg (show ¬ (1 : Int32) = 0 by decide)]
      obtain ⟨-, hc, -⟩ := hS i j hi (by omega) (by omega)
      obtain ⟨σ1, e1, e2⟩ := hc σ (gF0_g hg)
      rw [e1]
      simp only [bnd]
      rw [c_setSteps (by omega) (by omega)]
      simp only [bnd]
      rw [nS]
      exact put σ1 (S i j) (gF0_trans hg (gF0_q e2)) (e2.2 59 (by decide) (by decide) (by decide)) (fun _ _ => rfl)
    · rw [if_neg c, if_pos rfl, if_pos rfl, c_setSteps (by omega) (by omega)]
      simp only [bnd]
      rw [nS]
      exact put σ 0 hg rfl (fun k1 k2 => absurd ⟨k1, k2⟩ c)
theorem c_fill {t : Nat} : ∀ (m k fu : Nat) (σ : jT), k + m = 6 → m < fu → (∀ i, i < k → σ.2 60 i = -1) → ∃ σ', f_X4_best_b7 fu (nI t) (nI k) σ = f_X4_best_b7 1 (nI t) 6 σ' ∧ σ'.1 = σ.1 ∧ (∀ o, o ≠ 60 → σ'.2 o = σ.2 o) ∧ ∀ i, i < 6 → σ'.2 60 i = -1 := by
  intro m
  induction m with
  | zero =>
    intro k fu σ hk hf h
    obtain ⟨fu, rfl⟩ : ∃ f', fu = f' + 1 := ⟨fu - 1, by omega⟩
    obtain rfl : k = 6 := by omega
    refine ⟨σ, ?_, rfl, fun _ _ => rfl, h⟩
    rw [f_X4_best_b7, f_X4_best_b7, if_pos (show (6 : Int32) ≤ nI 6 by decide), if_pos (show (6 : Int32) ≤ 6 by decide)]
  | succ m ih =>
    intro k fu σ hk hf h
    obtain ⟨fu, rfl⟩ : ∃ f', fu = f' + 1 := ⟨fu - 1, by omega⟩
    rw [f_X4_best_b7, if_neg (show ¬ (6 : Int32) ≤ nI k from nI_ge (b := 6) (by omega) (by omega)), if_pos (ja_in (n := 6) (by omega) (by omega)), nI_clamp (by omega), nS]
    obtain ⟨σ', e1, e2, e3, e4⟩ := ih (k + 1) fu (gA σ 60 k (-1)) (by omega) (by omega) (fun i hi => by
      rw [ja_gA]
      by_cases z : i = k
      · rw [if_pos ⟨rfl, z⟩]
      · rw [if_neg (fun w => z w.2)]; exact h i (by omega))
    exact ⟨σ', e1, e2, fun o ho => (e3 o ho).trans (funext fun j => by rw [ja_gA, if_neg (fun q => ho q.1)]), e4⟩
theorem m_fill {t : Nat} {p : Int32} : ∀ (m k fu : Nat) (τ : jT), k + m = 6 → m < fu → (∀ i, i < k → τ.2 86 i = -1) → ∃ τ', f_X11_matches_b25 fu (nI t) p (nI k) τ = f_X11_matches_b25 1 (nI t) p 6 τ' ∧ τ'.1 = τ.1 ∧ (∀ o, o ≠ 86 → τ'.2 o = τ.2 o) ∧ ∀ i, i < 6 → τ'.2 86 i = -1 := by
  intro m
  induction m with
  | zero =>
    intro k fu τ hk hf h
    obtain ⟨fu, rfl⟩ : ∃ f', fu = f' + 1 := ⟨fu - 1, by omega⟩
    obtain rfl : k = 6 := by omega
    refine ⟨τ, ?_, rfl, fun _ _ => rfl, h⟩
    rw [f_X11_matches_b25, f_X11_matches_b25, if_pos (show (6 : Int32) ≤ nI 6 by decide), if_pos (show (6 : Int32) ≤ 6 by decide)]
  | succ m ih =>
    intro k fu τ hk hf h
    obtain ⟨fu, rfl⟩ : ∃ f', fu = f' + 1 := ⟨fu - 1, by omega⟩
    rw [f_X11_matches_b25, if_neg (show ¬ (6 : Int32) ≤ nI k from nI_ge (b := 6) (by omega) (by omega)), if_pos (ja_in (n := 6) (by omega) (by omega)), nI_clamp (by omega), nS]
    obtain ⟨τ', e1, e2, e3, e4⟩ := ih (k + 1) fu (gA τ 86 k (-1)) (by omega) (by omega) (fun i hi => by
      rw [ja_gA]
      by_cases z : i = k
      · rw [if_pos ⟨rfl, z⟩]
      · rw [if_neg (fun w => z w.2)]; exact h i (by omega))
    exact ⟨τ', e1, e2, fun o ho => (e3 o ho).trans (funext fun j => by rw [ja_gA, if_neg (fun q => ho q.1)]), e4⟩
theorem mt_tell {n P Q : Nat} {v : Int32} (hQ : Q ≤ 6) : ∀ (m k fu fu' : Nat) (σ τ : jT), k + m = Q → m < fu → m < fu' → rAll n P Q σ τ → τ.1 4172 = 0 → τ.1 4171 = nI k → τ.1 4201 = v → (∀ i, i < Q → σ.2 61 i = τ.2 87 i) →
    ∃ σ' τ', f_X4_tell_47_b6 fu (nI Q) (nI k) σ = some (0, σ') ∧ f_X11_matches_b70 fu' (nI k) τ = some (v, τ') ∧ rAll n P Q σ' τ' ∧ τ'.1 4172 = 0 := by
  intro m
  induction m with
  | zero =>
    intro k fu fu' σ τ hk hf hf' h hth hs hv he
    obtain ⟨fu, rfl⟩ : ∃ f', fu = f' + 1 := ⟨fu - 1, by omega⟩
    obtain ⟨fu', rfl⟩ : ∃ f', fu' = f' + 1 := ⟨fu' - 1, by omega⟩
    obtain ⟨-, -, ⟨-, q1, q2, -⟩, -⟩ := id h
    have hle : nI Q ≤ nI k := (ja_le (by omega) (by omega)).2 (by omega)
    rw [f_X4_tell_47_b6, if_pos hle, f_X11_matches_b70, q2, if_pos hle, hv]
    exact ⟨σ, τ, rfl, rfl, h, hth⟩
  | succ m ih =>
    intro k fu fu' σ τ hk hf hf' h hth hs hv he
    obtain ⟨fu, rfl⟩ : ∃ f', fu = f' + 1 := ⟨fu - 1, by omega⟩
    obtain ⟨fu', rfl⟩ : ∃ f', fu' = f' + 1 := ⟨fu' - 1, by omega⟩
    obtain ⟨-, -, ⟨-, q1, q2, -⟩, -⟩ := id h
    have hle : ¬ nI Q ≤ nI k := fun c => by have := (ja_le (by omega) (by omega)).1 c; omega
    rw [f_X4_tell_47_b6, if_neg hle, if_neg (show ¬ (6 : Int32) ≤ nI k from nI_ge (b := 6) (by omega) (by omega)), if_pos (ja_in (n := 6) (by omega) (by omega)), f_X11_matches_b70, q2, if_neg hle, if_pos (ja_in (n := 6) (by omega) (by omega)), nI_clamp (by omega), he k (by omega)]
    obtain ⟨σ1, τ1, a1, a2, a3, a4, a5, a6, a7, a8⟩ := put_both h hs (by omega) (τ.2 87 k)
    rw [a1, a2]
    simp only [bnd]
    rw [nS]
    refine ih (k + 1) fu fu' σ1 τ1 (by omega) (by omega) (by omega) a3 ?_ a4 ?_ ?_
    · rw [a7 4172 (by decide)]; exact hth
    · rw [a7 4201 (by decide)]; exact hv
    · rw [a6 61 (by decide), a8 87 (by decide)]; exact he
theorem eq_matches {n P Q : Nat} {σ τ : jT} (h : rAll n P Q σ τ) (x y : Int32) : rEq n (f_X10_matches x y σ) (f_X11_matches x y τ) := by
  have h0 : rAll n P Q σ (gs τ 4172 0) := rAll_core h rfl rfl
  have hth : (gs τ 4172 0).1 4172 = 0 := rfl
  obtain ⟨-, ⟨hP, p1, p2, -⟩, ⟨hQ, q1, q2, -⟩, -⟩ := id h0
  have h64 := p2_64 hQ
  unfold f_X10_matches f_X11_matches
  rcases vd_cases x (n := 2 ^ Q) (by omega) with ⟨t, ht, rfl⟩ | hx
  rotate_left
  · rw [c_th_f q1 hQ hx, m_th_f q2 hQ hx]
    simp only [bnd]
    exact rEq_same h rfl rfl rfl rfl rfl
  rw [c_th_t q1 hQ ht, m_th_t q2 hQ ht]
  simp only [bnd]
  rw [if_neg (show ¬ (1 : Int32) = 0 by decide), if_neg (show ¬ (1 : Int32) = 0 by decide)]
  rcases vd_cases y (n := P) (by omega) with ⟨p, hp, rfl⟩ | hy
  rotate_left
  · rw [c_hp_f p1 hy, m_isPlace_f p2 hP hy]
    simp only [bnd]
    exact rEq_same h rfl rfl rfl rfl rfl
  rw [c_hp_t p1 hP hp, m_isPlace_t p2 hP hp]
  simp only [bnd]
  rw [if_pos (show ¬ (1 : Int32) = 0 by decide), if_pos (show ¬ (1 : Int32) = 0 by decide)]
  generalize gs τ 4172 0 = τ at h0 hth p2 q2
  obtain ⟨S, hS⟩ := st_table (rG_of h0) hp
  -- the class lays the steps
  have steps : ∀ (m i fu : Nat) (σ1 : jT), i + m = Q → m < fu → gF0 σ σ1 → mtD Q t S i 0 σ1 → ∃ σ2, f_X10_matches_b26 fu (nI t) (nI p) (nI i) σ1 = ((f_X4_best (nI t) σ2).bind fun q3 => (f_X3_riderCount q3.2).bind fun q4 => (f_X4_tell_47 q4.1 q4.2).bind fun q5 => some (q3.1, q5.2)) ∧ gF0 σ σ2 ∧ mtD Q t S Q 0 σ2 := by
    intro m
    induction m with
    | zero =>
      intro i fu σ1 hi hf hg hd
      obtain ⟨fu, rfl⟩ : ∃ f', fu = f' + 1 := ⟨fu - 1, by omega⟩
      refine ⟨σ1, ?_, hg, by rw [show Q = i by omega]; rw [show Q = i by omega] at hd; exact hd⟩
      rw [f_X10_matches_b26]
      have er : f_X3_riderCount σ1 = some (nI Q, σ1) := by unfold f_X3_riderCount; rw [hg.1 197 (by decide), q1]
      rw [er]
      simp only [bnd]
      rw [if_pos ((ja_le (by omega) (by omega)).2 (by omega))]
    | succ m ih =>
      intro i fu σ1 hi hf hg hd
      obtain ⟨fu, rfl⟩ : ∃ f', fu = f' + 1 := ⟨fu - 1, by omega⟩
      rw [f_X10_matches_b26]
      have er : f_X3_riderCount σ1 = some (nI Q, σ1) := by unfold f_X3_riderCount; rw [hg.1 197 (by decide), q1]
      rw [er]
      simp only [bnd]
      rw [if_neg (fun c => by have := (ja_le (by omega) (by omega)).1 c; omega), nS]
      obtain ⟨σ2, e1, e2, e3⟩ := mt_in hQ q1 hS (show t < 64 by omega) (show i < Q by omega) (f_X10_matches_b26 fu) (Q - (i + 1)) (i + 1) 1000 σ1 (by omega) (by omega) (by omega) hg (fun a b k1 k2 k3 k4 k5 => hd a b k1 k2 (by omega) k4 k5)
      rw [e1]
      exact ih (i + 1) fu σ2 (by omega) (by omega) e2 e3
  obtain ⟨σ1, c1, c2, c3⟩ := steps Q 0 1000 σ (by omega) (by omega) (gF0_refl _) (fun a b k1 k2 k3 k4 k5 => by omega)
  have c1' : f_X10_matches_b26 1000 (nI t) (nI p) 0 σ = _ := c1
  rw [c1']
  unfold f_X4_best
  obtain ⟨σ2, d1, d2, d3, d4⟩ := c_fill (t := t) 6 0 1000 (gs σ1 3715 (-1)) (by omega) (by omega) (fun i hi => absurd hi (Nat.not_lt_zero _))
  have d1' : f_X4_best_b7 1000 (nI t) 0 (gs σ1 3715 (-1)) = _ := d1
  obtain ⟨τ2, e1, e2, e3, e4⟩ := m_fill (t := t) (p := nI p) 6 0 1000 τ (by omega) (by omega) (fun i hi => absurd hi (Nat.not_lt_zero _))
  have e1' : f_X11_matches_b25 1000 (nI t) (nI p) 0 τ = _ := e1
  rw [d1', e1', f_X4_best_b7, f_X11_matches_b25, if_pos (show (6 : Int32) ≤ 6 by decide), if_pos (show (6 : Int32) ≤ 6 by decide), bc_eq (by omega), bc_eq (by omega)]
  simp only [bnd]
  have hpc := pcnt_le t 6
  have hodd : ∀ k, k < 7 → nI k - nI k / 2 * 2 = nI (k % 2) := by decide
  rw [hodd _ (by omega)]
  have q2' : (gs τ2 4201 (-1)).1 4165 = nI Q := by
    show τ2.1 4165 = nI Q
    rw [e2]; exact q2
  have fm : gF2 τ (gs τ2 4201 (-1)) := ⟨fun i _ _ _ _ _ h6 => (if_neg h6).trans (congrFun e2 i), fun o _ _ h3 _ => e3 o h3⟩
  have hx : rep (nI t) (fun i => t.testBit i = true) := ⟨t, by omega, rfl, fun _ => Iff.rfl⟩
  have htb : ∀ i, t.testBit i = true ↔ t / 2 ^ i % 2 = 1 := fun i => by rw [Nat.testBit_eq_decide_div_mod_eq, decide_eq_true_eq]
  have hmt := mt_both (p := p) (Th := fun i => t / 2 ^ i % 2 = 1) (σ0 := σ2) (τ0 := gs τ2 4201 (-1)) hQ q2' hS (gF2_g fm) (fun a b k1 k2 k3 k4 => by
    rw [d3 59 (by decide)]
    exact c3 a b k1 k2 (Or.inl (by omega)) k3 k4) Q 0 100 100 (by omega) (by omega) (by omega)
  obtain ⟨σ3, τ3, g1, g2, g3, g4, -, -⟩ := hmt (nI t) (fun i => t.testBit i = true) 0 (pcnt t 6 % 2) σ2 (gs τ2 4201 (-1)) hx (fun i hi => ⟨Nat.zero_le _, by
      by_cases z : i < Q
      · exact z
      · have : (2:Nat) ^ Q ≤ 2 ^ i := Nat.pow_le_pow_right (by omega) (by omega)
        rw [Nat.testBit_lt_two_pow (by omega)] at hi
        exact absurd hi (by decide), (htb i).1 hi⟩) (by omega) (by omega) ⟨⟨fun _ _ => rfl, fun _ _ _ => rfl⟩, ⟨fun _ _ _ _ _ _ _ => rfl, fun _ _ _ _ _ => rfl⟩, fun i hi _ => by
      rw [d4 i hi]; exact (e4 i hi).symm, fun i hi _ => e4 i hi, by
      rw [d2]; rfl, Or.inl (by rw [d2]; rfl)⟩
  have hne := g4 (by
    have : cntR 0 (fun i => t.testBit i = true) = pcnt t 6 := by
      rw [pcnt_cN]
      exact cN_iff 6 (fun i _ => ⟨fun w => (htb i).1 w.2, fun w => ⟨Nat.zero_le _, (htb i).2 w⟩⟩)
    rw [this])
  have g2' : f_rec4 100 0 [0, nI t, nI (pcnt t 6 % 2), 0, nI p] (gs τ2 4201 (-1)) = _ := g2
  rw [g2']
  simp only [bnd]
  obtain ⟨j1, j2, j3, j4, j5, j6⟩ := g3
  obtain ⟨s, hs, js, jr⟩ := j6.resolve_left hne
  have hbest : (if nI (pcnt t 6 % 2) = 0 then f_X4_best_b44 0 0 (nI t) 0 σ2 else f_X4_best_b44 1 0 (nI t) 0 σ2) = some (nI s, σ3) := by
    have g1' : ∀ v : Int32, v = nI (pcnt t 6 % 2) → f_X4_best_b44 v 0 (nI t) 0 σ2 = some (nI s, σ3) := by
      intro v hv
      unfold f_X4_best_b44
      rw [hv]
      have g1' : f_rec1 100 0 [0, nI t, 0, nI (pcnt t 6 % 2)] σ2 = _ := g1
      rw [g1']
      simp only [bnd]
      rw [js]
    rcases (show pcnt t 6 % 2 = 0 ∨ pcnt t 6 % 2 = 1 by omega) with w | w
    · rw [w] at g1' ⊢
      rw [if_pos (show nI 0 = 0 from rfl)]; exact g1' 0 rfl
    · rw [w] at g1' ⊢
      rw [if_neg (by decide)]; exact g1' 1 rfl
  rw [hbest]
  simp only [bnd]
  have er : f_X3_riderCount σ3 = some (nI Q, σ3) := by
    unfold f_X3_riderCount
    rw [j1.1 197 (by decide), d2]
    show some (σ1.1 197, σ3) = _
    rw [c2.1 197 (by decide), q1]
  rw [er]
  simp only [bnd]
  unfold f_X4_tell_47 f_X6_clear
  simp only [bnd]
  have hcC : coreC σ3 = coreC σ := coreC_lie (fun i hi => by
      rw [j1.1 i (by omega), d2]
      exact (if_neg (by omega)).trans (c2.1 i (by omega))) (fun o o1 o2 o3 => by
      rw [j1.2 o (by omega) (by omega), d3 o (by omega)]
      exact c2.2 o o1 o2 (by omega) (by omega))
  have hA : rAll n P Q σ3 τ3 := rAll_core h0 hcC (gF2_core (gF2_trans fm j2))
  have hth3 : τ3.1 4172 = 0 := by
    rw [j2.1 4172 (by decide) (by decide) (by decide) (by decide) (by decide) (by decide)]
    show τ2.1 4172 = 0
    rw [e2]; exact hth
  obtain ⟨σ', τ', z1, z2, z3, z4⟩ := mt_tell (n := n) (P := P) (v := nI s) hQ Q 0 1000 1000 (gs σ3 3009 0) (gs τ3 4171 0) (by omega) (by omega) (by omega) (rAll_row hA rfl rfl (rW0 rfl rfl)) hth3 rfl (by
    show τ3.1 4201 = nI s
    rw [← j5]; exact js) jr
  have z1' : f_X4_tell_47_b6 1000 (nI Q) 0 (gs σ3 3009 0) = _ := z1
  have z2' : f_X11_matches_b70 1000 0 (gs τ3 4171 0) = _ := z2
  rw [z1', z2']
  simp only [bnd]
  exact ⟨_, _, _, P, Q, rfl, rfl, z4, rAll_step z3⟩
