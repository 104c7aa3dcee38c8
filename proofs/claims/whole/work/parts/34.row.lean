/-! ===== the ROW; end, count, agree ===== -/
def coreCr (σ : jT) := ((σ.1 65, σ.2 2), (σ.1 195, σ.1 196, σ.2 4, σ.2 5), (σ.1 197, σ.2 6), σ.2 13, (σ.2 8, σ.1 452), (σ.1 898, σ.1 899, pastC σ), (σ.1 900, keptC σ), (σ.1 12, σ.2 62))
def coreMr (τ : jT) := ((τ.1 4169, τ.2 71), (τ.1 4161, τ.1 4164, τ.2 67, τ.2 68), (τ.1 4165, τ.2 69, τ.2 70), τ.2 66, (τ.2 77, τ.1 4184), (τ.1 4189, τ.2 79), (τ.1 4208, τ.2 92, τ.2 93, τ.2 94), (τ.1 4203, τ.2 88))
theorem rAll_row {n P Q : Nat} {σ σ' τ τ' : jT} (h : rAll n P Q σ τ) (h1 : coreCr σ' = coreCr σ) (h2 : coreMr τ' = coreMr τ) (hw : rW σ' τ') : rAll n P Q σ' τ' := by
  simp only [coreCr, Prod.mk.injEq] at h1
  simp only [coreMr, Prod.mk.injEq] at h2
  obtain ⟨⟨a1, a2⟩, ⟨a3, a4, a5, a6⟩, ⟨a7, a8⟩, a9, ⟨a10, a11⟩, ⟨a12, a13, a14⟩, ⟨a15, a16⟩, ⟨a19, a20⟩⟩ := h1
  obtain ⟨⟨b1, b2⟩, ⟨b3, b4, b5, b6⟩, ⟨b7, b8, b9⟩, b10, ⟨b11, b12⟩, ⟨b13, b14⟩, ⟨b15, b16, b17, b18⟩, ⟨b21, b22⟩⟩ := h2
  obtain ⟨g1, g2, g3, g4, g5, g6, g7, -, g9⟩ := h
  refine ⟨?_, ?_, ?_, ?_, ?_, ?_, ?_, hw, ?_⟩
  all_goals simp only [rT, rL, rR, rN, rU, rH, rK, rP, a1, a2, a3, a4, a5, a6, a7, a8, a9, a10, a11, a12, a13, a14, a15, a16, a19, a20, b1, b2, b3, b4, b5, b6, b7, b8, b9, b10, b11, b12, b13, b14, b15, b16, b17, b18, b21, b22] at *
  all_goals assumption
theorem rEq_row {n P Q : Nat} {σ τ σ' τ' : jT} {fc fm : Option (Int32 × jT)} {r : Int32} (h : rAll n P Q σ τ) (hc : fc = some (r, σ')) (hm : fm = some (r, τ')) (e1 : coreCr σ' = coreCr σ) (e2 : coreMr τ' = coreMr τ) (hw : rW σ' τ') (ht : τ'.1 4172 = 0) : rEq n fc fm := ⟨r, σ', τ', P, Q, hc, hm, ht, rAll_row (rAll_step h) e1 e2 hw⟩
theorem c_put {σ : jT} {s : Nat} {x : Int32} (h : σ.1 3009 = nI s) (hs : s < 16) : f_X6_put x σ = some (0, gs (gA σ 48 s x) 3009 (nI (s + 1))) := by
  unfold f_X6_put
  rw [h, if_neg (show ¬ (16 : Int32) ≤ nI s from nI_ge (b := 16) hs (by omega)), if_pos (ja_in hs (by omega)), nI_clamp (by omega), nI_succ]
theorem m_tell {τ : jT} {s : Nat} {x : Int32} (h : τ.1 4171 = nI s) (hs : s < 40) : f_X11_tell x τ = some (0, gs (gA τ 72 s x) 4171 (nI (s + 1))) := by
  unfold f_X11_tell
  rw [h, if_pos (ja_in hs (by omega)), nI_clamp (by omega), nI_succ]
def cRow1 (σ : jT) (a : Int32) : jT := gs (gA (gs σ 3009 0) 48 0 a) 3009 1
def cRow2 (σ : jT) (a b : Int32) : jT := gs (gA (cRow1 σ a) 48 1 b) 3009 2
def cRow3 (σ : jT) (a b c : Int32) : jT := gs (gA (cRow2 σ a b) 48 2 c) 3009 3
def mRow0 (τ : jT) : jT := gs τ 4171 0
def mRow1 (τ : jT) (a : Int32) : jT := gs (gA (mRow0 τ) 72 0 a) 4171 1
def mRow2 (τ : jT) (a b : Int32) : jT := gs (gA (mRow1 τ a) 72 1 b) 4171 2
def mRow3 (τ : jT) (a b c : Int32) : jT := gs (gA (mRow2 τ a b) 72 2 c) 4171 3
theorem c_tell1 (σ : jT) (a : Int32) : f_X6_tell a σ = some (0, cRow1 σ a) := by
  unfold f_X6_tell f_X6_clear
  simp only [Option.bind_some]
  rw [c_put (s := 0) rfl (by omega)]; rfl
theorem c_tell2 (σ : jT) (a b : Int32) : f_X6_tell_ a b σ = some (0, cRow2 σ a b) := by
  unfold f_X6_tell_ f_X6_clear
  simp only [Option.bind_some]
  rw [c_put (s := 0) rfl (by omega)]
  simp only [Option.bind_some]
  rw [c_put (s := 1) rfl (by omega)]; rfl
theorem c_tell3 (σ : jT) (a b c : Int32) : f_X6_tell__ a b c σ = some (0, cRow3 σ a b c) := by
  unfold f_X6_tell__ f_X6_clear
  simp only [Option.bind_some]
  rw [c_put (s := 0) rfl (by omega)]
  simp only [Option.bind_some]
  rw [c_put (s := 1) rfl (by omega)]
  simp only [Option.bind_some]
  rw [c_put (s := 2) rfl (by omega)]; rfl
theorem m_tell1 (τ : jT) (a : Int32) : f_X11_tell a (mRow0 τ) = some (0, mRow1 τ a) := m_tell (s := 0) rfl (by omega)
theorem m_tell2 (τ : jT) (a b : Int32) : f_X11_tell b (mRow1 τ a) = some (0, mRow2 τ a b) := m_tell (s := 1) rfl (by omega)
theorem m_tell3 (τ : jT) (a b c : Int32) : f_X11_tell c (mRow2 τ a b) = some (0, mRow3 τ a b c) := m_tell (s := 2) rfl (by omega)
theorem rW0 {σ τ : jT} (h1 : σ.1 3009 = 0) (h2 : τ.1 4171 = 0) : rW σ τ := ⟨0, by omega, h1, h2, fun i hi => by omega⟩
theorem rW1 (σ τ : jT) (a : Int32) : rW (cRow1 σ a) (mRow1 τ a) := ⟨1, by omega, rfl, rfl, fun i hi => by
  have : i = 0 := by omega
  subst this; rfl⟩
theorem rW2 (σ τ : jT) (a b : Int32) : rW (cRow2 σ a b) (mRow2 τ a b) := ⟨2, by omega, rfl, rfl, fun i hi => by
  rcases (show i = 0 ∨ i = 1 by omega) with rfl | rfl <;> rfl⟩
theorem rW3 (σ τ : jT) (a b c : Int32) : rW (cRow3 σ a b c) (mRow3 τ a b c) := ⟨3, by omega, rfl, rfl, fun i hi => by
  rcases (show i = 0 ∨ i = 1 ∨ i = 2 by omega) with rfl | rfl | rfl <;> rfl⟩
theorem j_bc (x : Int32) : ∃ v : Int32, ∀ σ, f_J6_bitCount_0f7a4 x σ = some (v, σ) := ⟨_, fun _ => rfl⟩
theorem eq_end {n P Q : Nat} {σ τ : jT} (hn : n < 1000) (h : rAll n P Q σ τ) (x : Int32) : rEq n (f_X10_end x σ) (f_X11_end x τ) := by
  obtain ⟨hT, hr⟩ := id h
  obtain ⟨L, hL, t1, t2, t3⟩ := hT (by omega)
  rcases vd_cases x (n := L + 1) (by omega) with ⟨k, hk, rfl⟩ | hx
  · refine ⟨1, gs σ 65 (nI k), gs (gs τ 4172 0) 4169 (nI k), P, Q, ?_, ?_, rfl, ?_⟩
    · unfold f_X10_end f_X9_cut
      rw [if_neg (nI_pos (by omega)), t1, if_pos (nI_le (by omega) (by omega))]; rfl
    · unfold f_X11_end
      rw [t2, show (0 : Int32) = nI 0 from rfl, m_in_t (by omega) (by omega) (by omega)]; rfl
    · have hs := rAll_step h
      obtain ⟨-, hs⟩ := hs
      exact ⟨fun _ => ⟨k, by omega, rfl, rfl, fun j hj => t3 j (by omega)⟩, hs⟩
  · have hx2 : ¬ x < 0 → ¬ x ≤ nI L := by
      intro h0 h1
      have := hx.resolve_left h0
      rw [Int32.le_iff_toInt_le, nI_toInt (by omega)] at this h1
      omega
    refine rEq_same (r := 0) (σ' := σ) (τ' := gs τ 4172 0) h ?_ ?_ rfl rfl rfl
    · unfold f_X10_end f_X9_cut
      by_cases h0 : x < 0
      · rw [if_pos h0]; rfl
      · rw [if_neg h0, t1, if_neg (hx2 h0)]; rfl
    · unfold f_X11_end f_X11_in
      by_cases h0 : x < 0
      · rw [if_pos h0]; rfl
      · rw [if_neg h0, t2, if_pos (Int32.not_le.mp (hx2 h0))]; rfl
/-- who is convinced, as bits: both loops -/
theorem bits_conv {n P Q : Nat} {σ τ : jT} (h : rAll n P Q σ τ) : ∀ (m k : Nat) (f : Nat) (b : Int32), k + m = Q → m < f → ∃ v, f_X10_convincedOnes_b4 f b (nI k) σ = some (v, σ) ∧ f_X11_count_b112 f b (nI k) τ = some (v, τ) := by
  obtain ⟨-, -, ⟨hQ, q1, q2, -⟩, ⟨hS, -⟩, -⟩ := h
  intro m
  induction m with
  | zero =>
    intro k f b hk hf
    obtain ⟨f, rfl⟩ : ∃ g, f = g + 1 := ⟨f - 1, by omega⟩
    refine ⟨b, ?_, ?_⟩
    · rw [f_X10_convincedOnes_b4]
      unfold f_X3_riderCount
      simp only [Option.bind_some]
      rw [q1, if_pos (nI_le (by omega) (by omega))]
    · rw [f_X11_count_b112, q2, if_pos (nI_le (by omega) (by omega))]
  | succ m ih =>
    intro k f b hk hf
    obtain ⟨f, rfl⟩ : ∃ g, f = g + 1 := ⟨f - 1, by omega⟩
    obtain ⟨-, -, ⟨h1, -⟩, -⟩ := hS.2.2.2.2.2 k (by omega)
    have e1 : (16 : Int32) + nI k = nI (16 + k) := ja_add 16 k
    obtain ⟨v0, a0, b0⟩ := ih (k + 1) f b (by omega) (by omega)
    obtain ⟨v1, a1, b1⟩ := ih (k + 1) f (b ||| (1 <<< (nI k &&& 31))) (by omega) (by omega)
    by_cases hc : σ.2 13 (12 + k) = -1
    · refine ⟨v0, ?_, ?_⟩
      · rw [f_X10_convincedOnes_b4]
        unfold f_X3_riderCount
        simp only [Option.bind_some]
        rw [q1, if_neg (nI_ge (by omega) (by omega)), c_convOf (by omega)]
        simp only [Option.bind_some]
        rw [if_pos hc]
        unfold f_X10_convincedOnes_b33
        rw [← nI_succ]; exact a0
      · rw [f_X11_count_b112, q2, if_neg (nI_ge (by omega) (by omega)), e1, if_pos (ja_in (by omega) (by omega)), nI_clamp (by omega), ← h1, if_neg (by rw [hc]; decide)]
        unfold f_X11_count_b141
        rw [← nI_succ, show b ||| 0 = b by simp]; exact b0
    · refine ⟨v1, ?_, ?_⟩
      · rw [f_X10_convincedOnes_b4]
        unfold f_X3_riderCount
        simp only [Option.bind_some]
        rw [q1, if_neg (nI_ge (by omega) (by omega)), c_convOf (by omega)]
        simp only [Option.bind_some]
        rw [if_neg hc]
        unfold f_X10_convincedOnes_b33
        rw [← nI_succ]; exact a1
      · rw [f_X11_count_b112, q2, if_neg (nI_ge (by omega) (by omega)), e1, if_pos (ja_in (by omega) (by omega)), nI_clamp (by omega), ← h1, if_pos hc]
        unfold f_X11_count_b141
        rw [← nI_succ]; exact b1
theorem eq_count {n P Q : Nat} {σ τ : jT} (hn : n < 1000) (h : rAll n P Q σ τ) (x : Int32) : rEq n (f_X10_count x σ) (f_X11_count x τ) := by
  obtain ⟨hT, ⟨hP, p1, p2, ⟨b, hb, i1, i2⟩, -⟩, ⟨hQ, q1, q2, -⟩, ⟨⟨⟨hh, -, n1, n2⟩, n3, n4, n5, -⟩, -⟩, -, ⟨S, N, -, -, s1, s2, -⟩, -, ⟨s, -, w1, w2, -⟩, ⟨k, -, k1, k2, -⟩⟩ := id h
  obtain ⟨L, hL, t1, t2, -⟩ := hT (by omega)
  have h0 : rAll n P Q σ (gs τ 4172 0) := rAll_core h rfl rfl
  obtain ⟨v, hv1, hv2⟩ := bits_conv h0 Q 0 1000 0 (by omega) (by omega)
  have key : ∀ r, f_X10_count x σ = some (r, σ) → f_X11_count x τ = some (r, gs τ 4172 0) → rEq n (f_X10_count x σ) (f_X11_count x τ) := fun r a c => rEq_same h a c rfl rfl rfl
  unfold f_X10_count f_X11_count at key ⊢
  unfold f_X3_places f_X3_riderCount f_X8_horse f_X8_first f_X8_second f_X8_steps f_X3_inns f_X2_size f_X6_size f_X9_length f_X10_convincedOnes at key ⊢
  simp only [Option.bind_some] at key ⊢
  by_cases c0 : x = 0
  · simp only [if_pos c0] at key ⊢; exact key _ rfl (by rw [p1, p2])
  simp only [if_neg c0] at key ⊢
  by_cases c1 : x = 1
  · simp only [if_pos c1] at key ⊢; exact key _ rfl (by rw [q1, q2])
  simp only [if_neg c1] at key ⊢
  by_cases c2 : x = 2
  · simp only [if_pos c2] at key ⊢; exact key _ rfl (by rw [n1, n2])
  simp only [if_neg c2] at key ⊢
  by_cases c3 : x = 3
  · simp only [if_pos c3] at key ⊢; exact key _ rfl (by rw [n3])
  simp only [if_neg c3] at key ⊢
  by_cases c4 : x = 4
  · simp only [if_pos c4] at key ⊢; exact key _ rfl (by rw [n4])
  simp only [if_neg c4] at key ⊢
  by_cases c5 : x = 5
  · simp only [if_pos c5] at key ⊢; exact key _ rfl (by rw [n5])
  simp only [if_neg c5] at key ⊢
  by_cases c6 : x = 6
  · simp only [if_pos c6] at key ⊢
    have hv1' : f_X10_convincedOnes_b4 1000 0 0 σ = some (v, σ) := hv1
    rw [hv1'] at key ⊢
    exact key v rfl hv2
  simp only [if_neg c6] at key ⊢
  by_cases c7 : x = 7
  · simp only [if_pos c7] at key ⊢; exact key _ rfl (by rw [i1, i2])
  simp only [if_neg c7] at key ⊢
  by_cases c8 : x = 8
  · simp only [if_pos c8] at key ⊢; exact key _ rfl (by rw [k1, k2])
  simp only [if_neg c8] at key ⊢
  by_cases c9 : x = 9
  · simp only [if_pos c9] at key ⊢; exact key _ rfl (by rw [s1, s2])
  simp only [if_neg c9] at key ⊢
  by_cases c10 : x = 10
  · simp only [if_pos c10] at key ⊢; exact key _ rfl (by rw [w1, w2])
  simp only [if_neg c10] at key ⊢
  by_cases c11 : x = 11
  · simp only [if_pos c11] at key ⊢; exact key _ rfl (by rw [t1, t2])
  simp only [if_neg c11] at key ⊢
  exact key _ rfl rfl
