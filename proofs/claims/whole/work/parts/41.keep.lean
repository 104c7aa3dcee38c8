/-! ===== keep, sign ===== -/
theorem eq_keep {n P Q : Nat} {σ τ : jT} (hn : n < 1000) (h : rAll n P Q σ τ) (x : Int32) : rEq n (f_X10_keep x σ) (f_X11_keep x τ) := by
  have h0 : rAll n P Q σ (gs τ 4172 0) := rAll_core h rfl rfl
  obtain ⟨g1, g2, g3, g4, g5, g6, ⟨c, b, hc, hb, c1, b1, hk⟩, g8, g9⟩ := id h0
  have hQ := g3.1
  rcases vd_cases x (n := 2) (by omega) with ⟨i, hi, rfl⟩ | hx
  · have hin : f_X11_in (nI i) 0 1 (gs τ 4172 0) = some (1, gs τ 4172 0) := m_in_t (a := 0) (b := 1) (by omega) (by omega) (by omega)
    obtain ⟨b', hb', o1, o2, o3⟩ := j_or4 b hb i hi
    have hcc : f_X10_keep (nI i) σ = some (1, gs (gC σ 13 (44 + 2 * i) 0 0 28) 900 (nI b')) := by
      unfold f_X10_keep f_X2_keepUnder_12
      rw [if_neg (nI_pos (by omega)), if_pos (show nI i < (2 : Int32) from nI_lt (b := 2) hi (by omega))]
      rw [← o1, ← b1]
      rcases (show i = 0 ∨ i = 1 by omega) with rfl | rfl <;> rfl
    have hmm : f_X11_keep (nI i) τ = some (1, lyT (gA (gA (gs τ 4172 0) 93 i 1) 94 i (nI c)) 66 92 (28 * i) 28) := by
      unfold f_X11_keep
      rw [hin]
      simp only [Option.bind_some]
      have e : (28 : Int32) * nI i = nI (28 * i) := by
        rw [show (28 : Int32) = nI 28 from rfl, pk_mul]
      have ec : (gs τ 4172 0).1 4208 = nI c := c1
      rw [if_pos (by decide), if_pos (ja_in (by omega) (by omega))]
      try rw [if_pos (ja_in (by omega) (by omega))]
      rw [nI_clamp (by omega), e, ec, m_lay_66_92 _ (by omega)]
      rfl
    refine ⟨1, _, _, P, Q, hcc, hmm, rfl, ?_⟩
    have k0 := rAll_step h0
    have hkC : ∀ j, j < 2 → j ≠ i → keptC (gs (gC σ 13 (44 + 2 * i) 0 0 28) 900 (nI b')) j = keptC σ j := by
      intro j hj hji
      rcases (show (i = 0 ∧ j = 1) ∨ (i = 1 ∧ j = 0) by omega) with ⟨rfl, rfl⟩ | ⟨rfl, rfl⟩ <;> rfl
    have hkI : ∀ k, k < 28 → keptC (gs (gC σ 13 (44 + 2 * i) 0 0 28) 900 (nI b')) i k = σ.2 13 k := by
      intro k hk
      have : keptC (gs (gC σ 13 (44 + 2 * i) 0 0 28) 900 (nI b')) i = va_cpy (σ.2 13) (σ.2 (44 + 2 * i)) 0 0 28 := by
        rcases (show i = 0 ∨ i = 1 by omega) with rfl | rfl <;> rfl
      rw [this]
      unfold va_cpy
      rw [if_pos (by omega)]
      simp
    have fC : ∀ o, o ≠ 44 + 2 * i → (gs (gC σ 13 (44 + 2 * i) 0 0 28) 900 (nI b')).2 o = σ.2 o := fun o ho => if_neg ho
    have f66 : ∀ o, o ≠ 92 → o ≠ 93 → o ≠ 94 → (lyT (gA (gA (gs τ 4172 0) 93 i 1) 94 i (nI c)) 66 92 (28 * i) 28).2 o = τ.2 o := by
      intro o h1 h2 h3
      rw [lyT_ne _ h1]
      funext j
      show (if o = 94 ∧ j = i then _ else if o = 93 ∧ j = i then _ else τ.2 o j) = _
      rw [if_neg (fun q => h3 q.1), if_neg (fun q => h2 q.1)]
    have f93 : ∀ j, (lyT (gA (gA (gs τ 4172 0) 93 i 1) 94 i (nI c)) 66 92 (28 * i) 28).2 93 j = if j = i then 1 else τ.2 93 j := by
      intro j
      rw [lyT_ne _ (by decide)]
      show (if 93 = 94 ∧ j = i then nI c else if 93 = 93 ∧ j = i then (1 : Int32) else τ.2 93 j) = _
      rw [if_neg (by omega)]
      by_cases hj : j = i
      · rw [if_pos ⟨rfl, hj⟩, if_pos hj]
      · rw [if_neg (fun q => hj q.2), if_neg hj]
    have f94 : ∀ j, (lyT (gA (gA (gs τ 4172 0) 93 i 1) 94 i (nI c)) 66 92 (28 * i) 28).2 94 j = if j = i then nI c else τ.2 94 j := by
      intro j
      rw [lyT_ne _ (by decide)]
      show (if 94 = 94 ∧ j = i then nI c else _) = _
      by_cases hj : j = i
      · rw [if_pos ⟨rfl, hj⟩, if_pos hj]
      · rw [if_neg (fun q => hj q.2), if_neg hj]
        show (if 94 = 93 ∧ j = i then (1 : Int32) else τ.2 94 j) = _
        rw [if_neg (by omega)]
    refine ⟨?_, ?_, ?_, ?_, ?_, ?_, ?_, ?_, ?_⟩
    · obtain ⟨u, -⟩ := k0
      unfold rT at u ⊢
      rw [f66 71 (by decide) (by decide) (by decide), fC 2 (by omega)]
      exact u
    · obtain ⟨-, u, -⟩ := k0
      unfold rL at u ⊢
      rw [f66 67 (by decide) (by decide) (by decide), f66 68 (by decide) (by decide) (by decide), fC 4 (by omega), fC 5 (by omega)]
      exact u
    · obtain ⟨-, -, u, -⟩ := k0
      unfold rR at u ⊢
      rw [f66 69 (by decide) (by decide) (by decide), fC 6 (by omega)]
      exact u
    · obtain ⟨-, -, -, u, -⟩ := k0
      unfold rN at u ⊢
      rw [f66 66 (by decide) (by decide) (by decide), f66 70 (by decide) (by decide) (by decide)]
      have e13 : (gs (gC σ 13 (44 + 2 * i) 0 0 28) 900 (nI b')).2 13 = σ.2 13 := if_neg (by omega)
      have e6 : (gs (gC σ 13 (44 + 2 * i) 0 0 28) 900 (nI b')).2 6 = σ.2 6 := if_neg (by omega)
      rw [e13, e6]
      exact u
    · obtain ⟨-, -, -, -, u, -⟩ := k0
      unfold rU at u ⊢
      rw [f66 77 (by decide) (by decide) (by decide)]
      have e8 : (gs (gC σ 13 (44 + 2 * i) 0 0 28) 900 (nI b')).2 8 = σ.2 8 := if_neg (by omega)
      rw [e8]
      exact u
    · obtain ⟨-, -, -, -, -, u, -⟩ := k0
      unfold rH at u ⊢
      rw [f66 79 (by decide) (by decide) (by decide), f66 70 (by decide) (by decide) (by decide)]
      have ep : ∀ s, s < 13 → pastC (gs (gC σ 13 (44 + 2 * i) 0 0 28) 900 (nI b')) s = pastC σ s := by
        intro s hs
        rw [pastC_lt _ hs, pastC_lt _ hs]
        exact if_neg (by omega)
      obtain ⟨S, N, u1, u2, u3, u4, u5, u6⟩ := u
      refine ⟨S, N, u1, u2, u3, u4, u5, fun s hs => ?_⟩
      rw [ep _ (Nat.mod_lt _ (by decide))]
      exact u6 s hs
    · refine ⟨c, b', by omega, hb', c1, rfl, fun j hj => ?_⟩
      obtain ⟨⟨k, hkc, k1, k2⟩, k3, k4⟩ := hk j hj
      rw [f93, f94, f66 70 (by decide) (by decide) (by decide)]
      by_cases hji : j = i
      · subst hji
        rw [if_pos rfl, if_pos rfl]
        refine ⟨⟨c, Nat.le_refl _, rfl, ⟨fun _ => ⟨rfl, rfl⟩, fun _ => o2⟩⟩, Or.inr rfl, fun _ => ?_⟩
        refine rS_congr hQ g4.1 (fun k hk => hkI k hk) (fun k hk => ?_)
        show (lyT (gA (gA (gs τ 4172 0) 93 j 1) 94 j (nI c)) 66 92 (28 * j) 28).2 92 (28 * j + k) = τ.2 66 k
        rw [lyT_in _ (by omega) (by omega), Nat.add_sub_cancel_left]
        rfl
      · rw [if_neg hji, if_neg hji, o3 j hj hji, hkC j hj hji]
        refine ⟨⟨k, hkc, k1, k2⟩, k3, fun hbit => ?_⟩
        refine rS_congr hQ (k4 hbit) (fun k hk => rfl) (fun k hk => ?_)
        show (lyT (gA (gA (gs τ 4172 0) 93 i 1) 94 i (nI c)) 66 92 (28 * i) 28).2 92 (28 * j + k) = τ.2 92 (28 * j + k)
        rw [lyT_out _ (by omega)]
        rfl
    · obtain ⟨-, -, -, -, -, -, -, u, -⟩ := k0
      unfold rW at u ⊢
      rw [f66 72 (by decide) (by decide) (by decide)]
      have e8 : (gs (gC σ 13 (44 + 2 * i) 0 0 28) 900 (nI b')).2 48 = σ.2 48 := if_neg (by omega)
      rw [e8]
      exact u
    · obtain ⟨-, -, -, -, -, -, -, -, u⟩ := k0
      unfold rP at u ⊢
      rw [f66 88 (by decide) (by decide) (by decide)]
      have e8 : (gs (gC σ 13 (44 + 2 * i) 0 0 28) 900 (nI b')).2 62 = σ.2 62 := if_neg (by omega)
      rw [e8]
      exact u
  · refine rEq_same (r := 0) (σ' := σ) (τ' := gs τ 4172 0) h ?_ ?_ rfl rfl rfl
    · unfold f_X10_keep f_X2_keepUnder_12
      by_cases c0 : x < 0
      · rw [if_pos c0]; rfl
      · rw [if_neg c0, if_neg (Int32.not_lt.mpr (show (2 : Int32) ≤ x from hx.resolve_left c0))]; rfl
    · unfold f_X11_keep
      have := m_pred (τ := gs τ 4172 0) (n := 2) hx (by omega)
      rw [show nI 2 - 1 = (1 : Int32) from rfl] at this
      rw [this]; rfl
theorem sg_8 (x : Int32) : x.toInt8.toInt32 &&& 255 = x &&& 255 := by
  apply Int32.toBitVec_inj.mp
  simp only [Int32.toBitVec_and, Int8.toBitVec_toInt32, Int32.toBitVec_toInt8]
  apply BitVec.eq_of_getLsbD_eq
  intro i hi
  have h255 : (255 : Int32).toBitVec = BitVec.ofNat 32 255 := by decide
  rw [BitVec.getLsbD_and, BitVec.getLsbD_and, h255]
  by_cases h8 : i < 8
  · congr 1
    rw [BitVec.getLsbD_signExtend, BitVec.getLsbD_signExtend]
    simp [h8, hi]
  · have : ∀ i, i < 32 → ¬ i < 8 → (BitVec.ofNat 32 255).getLsbD i = false := by decide
    rw [this i hi h8]
    simp
theorem sg_88 (x : Int32) : x.toInt8.toInt32.toInt8.toInt32 = x.toInt8.toInt32 := by
  have : x.toInt8.toInt32.toInt8 = x.toInt8 := by
    apply Int8.toBitVec_inj.mp
    simp only [Int32.toBitVec_toInt8, Int8.toBitVec_toInt32]
    apply BitVec.eq_of_getLsbD_eq
    intro i hi
    rw [BitVec.getLsbD_signExtend, BitVec.getLsbD_signExtend]
    have h32 : i < 32 := by omega
    simp [hi, h32]
  rw [this]
theorem sg_rng (x : Int32) : -128 ≤ x.toInt8.toInt32 ∧ x.toInt8.toInt32 ≤ 127 := by
  rw [Int32.le_iff_toInt_le, Int32.le_iff_toInt_le, Int8.toInt_toInt32]
  have h1 := Int8.le_toInt x.toInt8
  have h2 := Int8.toInt_lt x.toInt8
  have e1 : (-128 : Int32).toInt = -128 := by decide
  have e2 : (127 : Int32).toInt = 127 := by decide
  omega
