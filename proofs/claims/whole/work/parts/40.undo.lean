/-! ===== SPENT is MIND at most; keep, again, undo ===== -/
theorem j_min {a b : Nat} (ha : a < 2 ^ 31) (hb : b < 2 ^ 31) : jx_min (nI a) (nI b) = nI (min a b) := by
  unfold jx_min
  by_cases h : b < a
  · rw [if_pos (nI_lt h ha), show min a b = b by omega]
  · rw [if_neg (nI_nlt (by omega) hb), show min a b = a by omega]
theorem cap_loop {P Q : Nat} (hQ : Q ≤ 6) : ∀ (m k f : Nat) (σ τ : jT), k + m = Q → m < f → rR Q σ τ → rS P Q (τ.2 70) (σ.2 13) (τ.2 66) → (∀ r, r < k → σ.2 13 r ≤ σ.2 6 r) → ∃ σ' τ', f_X10_limitSpent_b2 f (nI k) σ = some (0, σ') ∧ f_X11_capSpent_b2 f (nI k) τ = some (0, τ') ∧ coreCn σ' = coreCn σ ∧ coreMn τ' = coreMn τ ∧ σ'.1 = σ.1 ∧ τ'.1 = τ.1 ∧ rN P Q σ' τ' := by
  intro m
  induction m with
  | zero =>
    intro k f σ τ hk hf hR hS hc
    obtain ⟨f, rfl⟩ : ∃ g, f = g + 1 := ⟨f - 1, by omega⟩
    obtain ⟨-, q1, q2, q3⟩ := hR
    refine ⟨σ, τ, ?_, ?_, rfl, rfl, rfl, rfl, hS, fun r hr => hc r (by omega)⟩
    · rw [f_X10_limitSpent_b2]
      unfold f_X3_riderCount
      simp only [Option.bind_some]
      rw [q1, if_pos (nI_le (by omega) (by omega))]
    · rw [f_X11_capSpent_b2, q2, if_pos (nI_le (by omega) (by omega))]
  | succ m ih =>
    intro k f σ τ hk hf hR hS hc
    obtain ⟨f, rfl⟩ : ∃ g, f = g + 1 := ⟨f - 1, by omega⟩
    obtain ⟨-, q1, q2, q3⟩ := id hR
    obtain ⟨mm, hm1, hm2, m1, m2⟩ := q3 k (by omega)
    obtain ⟨⟨v, hv, v1, v2⟩, -⟩ := hS.2.2.2.2.2 k (by omega)
    have e4 : (4 : Int32) + nI k = nI (4 + k) := ja_add 4 k
    have hS' : rS P Q ((gA τ 66 (4 + k) (nI (min v mm))).2 70) ((gA σ 13 k (nI (min v mm))).2 13) ((gA τ 66 (4 + k) (nI (min v mm))).2 66) := by
      show rS P Q (τ.2 70) _ _
      rw [ju_gA, ju_gA]
      have s1 := rS_rider hQ hS (c := 0) (v := nI (min v mm)) (r := k) (by omega) (by omega) (Or.inl ⟨rfl, _, by omega, rfl⟩)
      rw [show 6 * 0 + k = k by omega] at s1
      exact s1
    obtain ⟨σ', τ', a1, a2, a3, a4, a5, a6, a7⟩ := ih (k + 1) f (gA σ 13 k (nI (min v mm))) (gA τ 66 (4 + k) (nI (min v mm))) (by omega) (by omega) hR hS' (fun r hr => by
      show (gA σ 13 k (nI (min v mm))).2 13 r ≤ σ.2 6 r
      rw [ju_gA]
      by_cases hrk : r = k
      · subst hrk
        rw [ju_eq, m1]
        exact nI_le (by omega) (by omega)
      · rw [ju_ne _ _ hrk]; exact hc r (by omega))
    refine ⟨σ', τ', ?_, ?_, a3, a4, a5, a6, a7⟩
    · rw [f_X10_limitSpent_b2]
      unfold f_X3_riderCount
      simp only [Option.bind_some]
      rw [q1, if_neg (nI_ge (by omega) (by omega)), c_spentOf (by omega), v1]
      simp only [Option.bind_some]
      rw [c_mind_t q1 hQ (by omega), m1]
      simp only [Option.bind_some]
      rw [j_min (by omega) (by omega), c_setSpent (by omega)]
      simp only [Option.bind_some]
      rw [← nI_succ]; exact a1
    · rw [f_X11_capSpent_b2, q2, if_neg (nI_ge (by omega) (by omega)), e4, if_pos (ja_in (by omega) (by omega)), if_pos (ja_in (by omega) (by omega)), nI_clamp (by omega), nI_clamp (by omega), v2, m2, j_min (by omega) (by omega), ← nI_succ]
      exact a2
theorem cap_both {P Q : Nat} {σ τ : jT} (hR : rR Q σ τ) (hS : rS P Q (τ.2 70) (σ.2 13) (τ.2 66)) : ∃ σ' τ', f_X10_limitSpent σ = some (0, σ') ∧ f_X11_capSpent τ = some (0, τ') ∧ coreCn σ' = coreCn σ ∧ coreMn τ' = coreMn τ ∧ σ'.1 = σ.1 ∧ τ'.1 = τ.1 ∧ rN P Q σ' τ' := cap_loop hR.1 Q 0 1000 σ τ (by omega) (by have := hR.1; omega) hR hS (fun r hr => by omega)
def cpT (τ : jT) (S D a k : Nat) : jT := (τ.1, fun o j => if o = D ∧ j < k then τ.2 S (a + j) else τ.2 o j)
theorem cpT_0 (τ : jT) (S D a : Nat) : cpT τ S D a 0 = τ := by
  unfold cpT
  have : (fun o j => if o = D ∧ j < 0 then τ.2 S (a + j) else τ.2 o j) = τ.2 := by
    funext o j
    rw [if_neg (by omega)]
  rw [this]
theorem cpT_s (τ : jT) {S D : Nat} (a k : Nat) (hSD : S ≠ D) : gA (cpT τ S D a k) D k ((cpT τ S D a k).2 S (a + k)) = cpT τ S D a (k + 1) := by
  unfold gA cpT
  simp only
  congr 1
  funext o j
  unfold jx_up2
  simp only
  rw [if_neg (show ¬ (S = D ∧ a + k < k) from fun q => hSD q.1)]
  by_cases h1 : o = D ∧ j = k
  · obtain ⟨rfl, rfl⟩ := h1
    rw [if_pos ⟨rfl, rfl⟩, if_pos ⟨rfl, by omega⟩]
  · rw [if_neg h1]
    by_cases h2 : o = D ∧ j < k
    · rw [if_pos h2, if_pos ⟨h2.1, by omega⟩]
    · rw [if_neg h2, if_neg (fun q => by
        rcases Nat.lt_or_ge j k with z | z
        · exact h2 ⟨q.1, z⟩
        · exact h1 ⟨q.1, by omega⟩)]
theorem cpT_in (τ : jT) {S D a k j : Nat} (h : j < k) : (cpT τ S D a k).2 D j = τ.2 S (a + j) := if_pos ⟨rfl, h⟩
theorem cpT_ne (τ : jT) {S D a k o : Nat} (h : o ≠ D) : (cpT τ S D a k).2 o = τ.2 o := by
  funext j
  exact if_neg (fun q => h q.1)
theorem m_undo_loop (τ : jT) {a : Nat} (ha : a ≤ 11) (h : τ.1 4189 = nI a) : f_X11_undo_b26 1000 0 τ = (f_X11_capSpent (cpT τ 79 66 (28 * a) 28)).bind fun q2 => some ((q2.2.1 4189), q2.2) := by
  have key : ∀ (m k f : Nat), k + m = 28 → m < f → f_X11_undo_b26 f (nI k) (cpT τ 79 66 (28 * a) k) = (f_X11_capSpent (cpT τ 79 66 (28 * a) 28)).bind fun q2 => some ((q2.2.1 4189), q2.2) := by
    intro m
    induction m with
    | zero =>
      intro k f hk hf
      obtain ⟨f, rfl⟩ : ∃ g, f = g + 1 := ⟨f - 1, by omega⟩
      have : k = 28 := by omega
      subst this
      rw [f_X11_undo_b26, if_pos (by decide)]
    | succ m ih =>
      intro k f hk hf
      obtain ⟨f, rfl⟩ : ∃ g, f = g + 1 := ⟨f - 1, by omega⟩
      have e : (28 : Int32) * (cpT τ 79 66 (28 * a) k).1 4189 + nI k = nI (28 * a + k) := by
        show 28 * τ.1 4189 + nI k = _
        rw [h, show (28 : Int32) = nI 28 from rfl, pk_mul, ja_add]
      rw [f_X11_undo_b26, if_neg (show ¬ (28 : Int32) ≤ nI k from nI_ge (b := 28) (by omega) (by omega)), e, if_pos (ja_in (by omega) (by omega)), if_pos (ja_in (by omega) (by omega)), nI_clamp (by omega), nI_clamp (by omega), cpT_s τ _ k (by decide), ← nI_succ]
      exact ih (k + 1) f (by omega) (by omega)
  have := key 28 0 1000 (by omega) (by omega)
  rw [cpT_0] at this
  exact this
theorem m_again_loop (τ : jT) {i : Nat} (hi : i < 2) : f_X11_again_b40 1000 (nI i) 0 τ = (f_X11_capSpent (cpT τ 92 66 (28 * i) 28)).bind fun q2 => some (1, (gs q2.2 4189 0)) := by
  have key : ∀ (m k f : Nat), k + m = 28 → m < f → f_X11_again_b40 f (nI i) (nI k) (cpT τ 92 66 (28 * i) k) = (f_X11_capSpent (cpT τ 92 66 (28 * i) 28)).bind fun q2 => some (1, (gs q2.2 4189 0)) := by
    intro m
    induction m with
    | zero =>
      intro k f hk hf
      obtain ⟨f, rfl⟩ : ∃ g, f = g + 1 := ⟨f - 1, by omega⟩
      have : k = 28 := by omega
      subst this
      rw [f_X11_again_b40, if_pos (by decide)]
    | succ m ih =>
      intro k f hk hf
      obtain ⟨f, rfl⟩ : ∃ g, f = g + 1 := ⟨f - 1, by omega⟩
      have e : (28 : Int32) * nI i + nI k = nI (28 * i + k) := by
        rw [show (28 : Int32) = nI 28 from rfl, pk_mul, ja_add]
      rw [f_X11_again_b40, if_neg (show ¬ (28 : Int32) ≤ nI k from nI_ge (b := 28) (by omega) (by omega)), e, if_pos (ja_in (by omega) (by omega)), if_pos (ja_in (by omega) (by omega)), nI_clamp (by omega), nI_clamp (by omega), cpT_s τ _ k (by decide), ← nI_succ]
      exact ih (k + 1) f (by omega) (by omega)
  have := key 28 0 1000 (by omega) (by omega)
  rw [cpT_0] at this
  exact this
/-- the class takes back how it stood in a row o -/
theorem gC_now (σ : jT) (o : Nat) {k : Nat} (hk : k < 28) : (gC σ o 13 0 0 28).2 13 k = σ.2 o k := by
  show (if 13 = 13 then va_cpy (σ.2 o) (σ.2 13) 0 0 28 else σ.2 13) k = _
  rw [if_pos rfl]
  unfold va_cpy
  rw [if_pos (by omega)]
  simp
theorem c_back {σ : jT} {N S : Nat} (hN : N < 13) (h1 : σ.1 898 = nI N) (h2 : σ.1 899 = nI (S + 1)) (hS : S ≤ 11) : f_X2_back_12 σ = some (1, gC (gs (gs σ 898 (nI ((N + 12) % 13))) 899 (nI S)) (17 + 2 * ((N + 12) % 13)) 13 0 0 28) := by
  have e1 : (((σ.1 898) + 13) - 1) - (((σ.1 898) + 13) - 1) / 13 * 13 = nI ((N + 12) % 13) := by
    rw [h1, show (13 : Int32) = nI 13 from rfl, ja_add, show N + 13 = N + 12 + 1 by omega, nI_pred]
    exact pk_rem (d := 13) (by omega) (by omega) (by omega)
  have e2 : (σ.1 899) - 1 = nI S := by rw [h2, nI_pred]
  unfold f_X2_back_12
  rw [if_pos (by rw [h2]; exact nI_ne0 (by omega) (by omega)), e1, e2]
  generalize hM : (N + 12) % 13 = M
  have hM13 : M < 13 := by omega
  rcases (show M = 0 ∨ M = 1 ∨ M = 2 ∨ M = 3 ∨ M = 4 ∨ M = 5 ∨ M = 6 ∨ M = 7 ∨ M = 8 ∨ M = 9 ∨ M = 10 ∨ M = 11 ∨ M = 12 by omega) with rfl | rfl | rfl | rfl | rfl | rfl | rfl | rfl | rfl | rfl | rfl | rfl | rfl <;> rfl
theorem eq_undo {n P Q : Nat} {σ τ : jT} (h : rAll n P Q σ τ) : rEq n (f_X10_undo σ) (f_X11_undo τ) := by
  have h0 : rAll n P Q σ (gs τ 4172 0) := rAll_core h rfl rfl
  obtain ⟨g1, g2, g3, ⟨hSn, -⟩, g5, ⟨S, N, hS, hN, e1, e2, e3, e4⟩, g7, g8, g9⟩ := id h0
  cases S with
  | zero =>
    refine rEq_same (r := -1) (σ' := σ) (τ' := gs τ 4172 0) h ?_ ?_ rfl rfl rfl
    · unfold f_X10_undo f_X2_back_12
      rw [e1]; rfl
    · unfold f_X11_undo
      have e2' : τ.1 4189 = nI 0 := e2
      rw [e2']; rfl
  | succ S =>
    have e2' : τ.1 4189 = nI (S + 1) := e2
    have hb := c_back hN e3 e1 (by omega : S ≤ 11)
    have hold := e4 0 (by omega)
    rw [Nat.sub_zero, Nat.sub_zero] at hold
    have hM : (N + 12) % 13 < 13 := Nat.mod_lt _ (by decide)
    rw [pastC_lt σ hM] at hold
    have hQ := g3.1
    -- the states that are taken back
    have hS2 : rS P Q ((cpT (gs (gs τ 4172 0) 4189 (nI S)) 79 66 (28 * S) 28).2 70) ((gC (gs (gs σ 898 (nI ((N + 12) % 13))) 899 (nI S)) (17 + 2 * ((N + 12) % 13)) 13 0 0 28).2 13) ((cpT (gs (gs τ 4172 0) 4189 (nI S)) 79 66 (28 * S) 28).2 66) := by
      rw [cpT_ne _ (by decide)]
      refine rS_congr hQ hold (fun k hk => gC_now _ _ hk) (fun k hk => ?_)
      rw [cpT_in _ hk]
      show τ.2 79 (28 * S + k) = τ.2 79 (28 * (S + 1 - 1) + k)
      rw [Nat.add_sub_cancel]
    obtain ⟨σ', τ', a1, a2, a3, a4, a5, a6, a7⟩ := cap_both (σ := gC (gs (gs σ 898 (nI ((N + 12) % 13))) 899 (nI S)) (17 + 2 * ((N + 12) % 13)) 13 0 0 28) (τ := cpT (gs (gs τ 4172 0) 4189 (nI S)) 79 66 (28 * S) 28) g3 hS2
    refine ⟨nI S, σ', τ', P, Q, ?_, ?_, ?_, ?_⟩
    · unfold f_X10_undo
      rw [hb]
      simp only [Option.bind_some]
      rw [if_pos (by decide), a1]
      simp only [Option.bind_some]
      unfold f_X2_size
      rw [a5]; rfl
    · unfold f_X11_undo
      rw [if_pos (by rw [e2']; exact nI_ne0 (by omega) (by omega))]
      have e : τ.1 4189 - 1 = nI S := by rw [e2', nI_pred]
      rw [e, m_undo_loop _ (a := S) (by omega) rfl, a2]
      simp only [Option.bind_some]
      rw [a6]; rfl
    · rw [a6]; rfl
    · refine rBut_all ?_ a7
      refine rBut_core ?_ a3 a4
      have f : ∀ o, o ≠ 13 → (gC (gs (gs σ 898 (nI ((N + 12) % 13))) 899 (nI S)) (17 + 2 * ((N + 12) % 13)) 13 0 0 28).2 o = σ.2 o := fun o ho => if_neg ho
      obtain ⟨-, -, -, -, -, -, k7, -⟩ := rAll_step h0
      refine ⟨fun hn => g1 (by omega), g2, g3, g5, ⟨S, (N + 12) % 13, by omega, hM, rfl, rfl, rfl, fun i hi => ?_⟩, k7, g8, g9⟩
      have hs := e4 (i + 1) (by omega)
      show rS P Q (τ.2 70) (pastC σ (((N + 12) % 13 + 12 - i) % 13)) (fun k => τ.2 79 (28 * (S - 1 - i) + k))
      rw [show ((N + 12) % 13 + 12 - i) % 13 = (N + 12 - (i + 1)) % 13 by omega, show S - 1 - i = S + 1 - 1 - (i + 1) by omega]
      exact hs
theorem j_bit4 : ∀ b, b < 4 → ∀ i, i < 2 → (((nI b) >>> (nI i &&& 31)) &&& (1 : Int32)) = nI (b / 2 ^ i % 2) := by decide
theorem j_or4 : ∀ b, b < 4 → ∀ i, i < 2 → ∃ c, c < 4 ∧ ((nI b) ||| ((1 : Int32) <<< (nI i &&& 31))) = nI c ∧ c / 2 ^ i % 2 = 1 ∧ ∀ j, j < 2 → j ≠ i → c / 2 ^ j % 2 = b / 2 ^ j % 2 := by decide
theorem eq_again {n P Q : Nat} {σ τ : jT} (hn : n < 1000) (h : rAll n P Q σ τ) (x : Int32) : rEq n (f_X10_again x σ) (f_X11_again x τ) := by
  have h0 : rAll n P Q σ (gs τ 4172 0) := rAll_core h rfl rfl
  obtain ⟨g1, g2, g3, ⟨hSn, -⟩, g5, ⟨S, N, hS, hN, e1, e2, e3, e4⟩, ⟨c, b, hc, hb, c1, b1, hk⟩, g8, g9⟩ := id h0
  have hQ := g3.1
  rcases vd_cases x (n := 2) (by omega) with ⟨i, hi, rfl⟩ | hx
  · obtain ⟨⟨k, hkc, k1, k2⟩, k3, k4⟩ := hk i hi
    by_cases hbit : b / 2 ^ i % 2 = 1
    · obtain ⟨z1, z2⟩ := k2.mp hbit
      have hold := k4 hbit
      have hcc : f_X2_bringBack_12 (nI i) σ = some (1, gs (gC σ (44 + 2 * i) 13 0 0 28) 899 0) := by
        unfold f_X2_bringBack_12
        rw [if_neg (nI_pos (by omega)), if_neg (show ¬ (2 : Int32) ≤ nI i from nI_ge (b := 2) hi (by omega)), b1, j_bit4 b hb i hi, hbit, if_pos (by decide)]
        rcases (show i = 0 ∨ i = 1 by omega) with rfl | rfl <;> rfl
      have hS2 : rS P Q ((cpT (gs τ 4172 0) 92 66 (28 * i) 28).2 70) ((gs (gC σ (44 + 2 * i) 13 0 0 28) 899 0).2 13) ((cpT (gs τ 4172 0) 92 66 (28 * i) 28).2 66) := by
        rw [cpT_ne _ (by decide)]
        refine rS_congr hQ hold (fun k hk => ?_) (fun k hk => ?_)
        · show (gC σ (44 + 2 * i) 13 0 0 28).2 13 k = keptC σ i k
          rw [gC_now _ _ hk]
          rcases (show i = 0 ∨ i = 1 by omega) with rfl | rfl <;> rfl
        · rw [cpT_in _ hk]
      obtain ⟨σ', τ', a1, a2, a3, a4, a5, a6, a7⟩ := cap_both (σ := gs (gC σ (44 + 2 * i) 13 0 0 28) 899 0) (τ := cpT (gs τ 4172 0) 92 66 (28 * i) 28) g3 hS2
      refine ⟨1, σ', gs τ' 4189 0, P, Q, ?_, ?_, ?_, ?_⟩
      · unfold f_X10_again
        rw [hcc]
        simp only [Option.bind_some]
        rw [if_pos (by decide), a1]
        rfl
      · unfold f_X11_again
        have hin : f_X11_in (nI i) 0 1 (gs τ 4172 0) = some (1, gs τ 4172 0) := m_in_t (a := 0) (b := 1) (by omega) (by omega) (by omega)
        rw [hin]
        simp only [Option.bind_some]
        have y1 : (gs τ 4172 0).2 93 i = 1 := z1
        have y2 : (gs τ 4172 0).2 94 i = (gs τ 4172 0).1 4208 := by
          have u1 : (gs τ 4172 0).2 94 i = nI k := k1
          have u2 : (gs τ 4172 0).1 4208 = nI c := c1
          rw [u1, u2, z2]
        rw [if_neg (by decide), if_pos (ja_in (by omega) (by omega)), nI_clamp (by omega), if_neg (by rw [y1]; decide)]
        try rw [if_pos (ja_in (by omega) (by omega))]
        rw [if_pos y2]
        have y3 := m_again_loop (gs τ 4172 0) hi
        exact y3.trans (by rw [a2]; rfl)
      · show τ'.1 4172 = 0
        rw [a6]; rfl
      · refine rBut_all ?_ a7
        have k0 := rAll_step h0
        obtain ⟨-, -, -, -, -, -, k7, -⟩ := k0
        have hbt : rBut (n + 1) P Q (gs (gC σ (44 + 2 * i) 13 0 0 28) 899 0) (gs (cpT (gs τ 4172 0) 92 66 (28 * i) 28) 4189 0) :=
          ⟨fun hn => g1 (by omega), g2, g3, g5, ⟨0, N, by omega, hN, rfl, rfl, e3, fun i hi => by omega⟩, k7, g8, g9⟩
        have a4' : coreMn (gs τ' 4189 0) = coreMn (gs (cpT (gs τ 4172 0) 92 66 (28 * i) 28) 4189 0) := by
          simp only [coreMn, Prod.mk.injEq] at a4 ⊢
          obtain ⟨u1, u2, u3, u4, ⟨-, u5⟩, u6, u7, u8⟩ := a4
          exact ⟨u1, u2, u3, u4, ⟨rfl, u5⟩, u6, u7, u8⟩
        exact rBut_core hbt a3 a4'
    · refine rEq_same (r := 0) (σ' := σ) (τ' := gs τ 4172 0) h ?_ ?_ rfl rfl rfl
      · unfold f_X10_again f_X2_bringBack_12
        rw [if_neg (nI_pos (by omega)), if_neg (show ¬ (2 : Int32) ≤ nI i from nI_ge (b := 2) hi (by omega)), b1, j_bit4 b hb i hi, show b / 2 ^ i % 2 = 0 by omega]
        rfl
      · unfold f_X11_again
        have hin : f_X11_in (nI i) 0 1 (gs τ 4172 0) = some (1, gs τ 4172 0) := m_in_t (a := 0) (b := 1) (by omega) (by omega) (by omega)
        rw [hin]
        simp only [Option.bind_some]
        rw [if_neg (by decide), if_pos (ja_in (by omega) (by omega)), nI_clamp (by omega)]
        rcases k3 with k3 | k3
        · have y1 : (gs τ 4172 0).2 93 i = 0 := k3
          rw [if_pos y1]
        · have y1 : (gs τ 4172 0).2 93 i = 1 := k3
          have hne : k ≠ c := fun z => hbit (k2.mpr ⟨k3, z⟩)
          have u1 : (gs τ 4172 0).2 94 i = nI k := k1
          have u2 : (gs τ 4172 0).1 4208 = nI c := c1
          rw [if_neg (by rw [y1]; decide)]
          try rw [if_pos (ja_in (by omega) (by omega))]
          rw [if_neg (by rw [u1, u2]; exact fun z => hne ((ja_eq (by omega) (by omega)).mp z))]
  · refine rEq_same (r := 0) (σ' := σ) (τ' := gs τ 4172 0) h ?_ ?_ rfl rfl rfl
    · unfold f_X10_again f_X2_bringBack_12
      by_cases c0 : x < 0
      · rw [if_pos c0]; rfl
      · rw [if_neg c0, if_pos (show (2 : Int32) ≤ x from hx.resolve_left c0)]; rfl
    · unfold f_X11_again
      have := m_pred (τ := gs τ 4172 0) (n := 2) hx (by omega)
      rw [show nI 2 - 1 = (1 : Int32) from rfl] at this
      rw [this]; rfl
