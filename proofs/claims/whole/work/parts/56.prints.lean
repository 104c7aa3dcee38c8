/-! ===== prints ===== -/
def coreCt (σ : jT) := ((σ.1 195, σ.1 196, σ.2 4, σ.2 5), (σ.1 197, σ.2 6), σ.2 13, (σ.2 8, σ.1 452), (σ.1 898, σ.1 899, pastC σ), (σ.1 900, keptC σ), (σ.1 3009, σ.2 48))
def coreMt (τ : jT) := ((τ.1 4161, τ.1 4164, τ.2 67, τ.2 68), (τ.1 4165, τ.2 69, τ.2 70), τ.2 66, (τ.2 77, τ.1 4184), (τ.1 4189, τ.2 79), (τ.1 4208, τ.2 92, τ.2 93, τ.2 94), (τ.1 4171, τ.2 72))
theorem rAll_text {n P Q : Nat} {σ σ' τ τ' : jT} (h : rAll n P Q σ τ) (h1 : coreCt σ' = coreCt σ) (h2 : coreMt τ' = coreMt τ) (hT : rT σ' τ') (hP : rP P σ' τ') : rAll n P Q σ' τ' := by
  simp only [coreCt, Prod.mk.injEq] at h1
  simp only [coreMt, Prod.mk.injEq] at h2
  obtain ⟨⟨a3, a4, a5, a6⟩, ⟨a7, a8⟩, a9, ⟨a10, a11⟩, ⟨a12, a13, a14⟩, ⟨a15, a16⟩, ⟨a17, a18⟩⟩ := h1
  obtain ⟨⟨b3, b4, b5, b6⟩, ⟨b7, b8, b9⟩, b10, ⟨b11, b12⟩, ⟨b13, b14⟩, ⟨b15, b16, b17, b18⟩, ⟨b19, b20⟩⟩ := h2
  simp only [rAll, rL, rR, rN, rU, rH, rK, rW] at h ⊢
  simp only [a3, a4, a5, a6, a7, a8, a9, a10, a11, a12, a13, a14, a15, a16, a17, a18, b3, b4, b5, b6, b7, b8, b9, b10, b11, b12, b13, b14, b15, b16, b17, b18, b19, b20]
  exact ⟨fun _ => hT, h.2.1, h.2.2.1, h.2.2.2.1, h.2.2.2.2.1, h.2.2.2.2.2.1, h.2.2.2.2.2.2.1, h.2.2.2.2.2.2.2.1, hP⟩
theorem rT0 {σ τ : jT} (h1 : σ.1 65 = 0) (h2 : τ.1 4169 = 0) : rT σ τ := ⟨0, by omega, h1, h2, fun j hj => absurd hj (Nat.not_lt_zero _)⟩
theorem pri_loop {L P : Nat} {d : Nat → Nat} {τ : jT} (hP : P ≤ 10) (p2 : τ.1 4161 = nI P) (hd : ∀ j, j < L → d j < 256 ∧ ((d j < 128 ∧ τ.2 71 j = nI (d j)) ∨ (128 ≤ d j ∧ τ.2 71 j < 0))) : ∀ (m i fu fu' : Nat) (σ : jT), i + m = 20 → m < fu → m < fu' → i ≤ L → cX L 20 i d σ → (∀ j, j < i → 97 ≤ d j ∧ d j < 97 + P) →
    ∃ σ' v, f_X1_inPrints_1_b8 fu (nI P) (nI i) σ = some (v, σ') ∧ σ'.2 = σ.2 ∧ (∀ z, z ≠ 67 → σ'.1 z = σ.1 z) ∧ ((v = -1 ∧ 1 ≤ L ∧ L ≤ 20 ∧ (∀ j, j < L → 97 ≤ d j ∧ d j < 97 + P) ∧ f_X11_prints_b17 fu' (nI L) (nI i) τ = f_X11_prints_b69 1000 (nI L) 0 τ) ∨ ∃ e, e ≤ 80 ∧ v = nI e ∧ f_X11_prints_b17 fu' (nI L) (nI i) τ = some (-1 - nI e, τ)) := by
  have e97 : (97 : Int32) + nI P - 1 = nI (96 + P) := by
    rw [show (97 : Int32) + nI P = nI (96 + P + 1) from by rw [show 96 + P + 1 = 97 + P by omega]; exact ja_add 97 P]
    exact nI_pred _
  -- the class's end at i, and the model's, where the sign at i is none of them
  have fin : ∀ (i fu' : Nat) (σ : jT), i ≤ 20 → i ≤ L → cX L 20 i d σ → (∀ j, j < i → 97 ≤ d j ∧ d j < 97 + P) → (i < 20 → ¬ sIn L 20 d i 97 (96 + P)) → ∃ v, f_X1_inPrints_1_b35 σ = some (v, σ) ∧ ((v = -1 ∧ 1 ≤ L ∧ L ≤ 20 ∧ (∀ j, j < L → 97 ≤ d j ∧ d j < 97 + P) ∧ f_X11_prints_b17 (fu' + 1) (nI L) (nI i) τ = f_X11_prints_b69 1000 (nI L) 0 τ) ∨ ∃ e, e ≤ 80 ∧ v = nI e ∧ f_X11_prints_b17 (fu' + 1) (nI L) (nI i) τ = some (-1 - nI e, τ)) := by
    intro i fu' σ hi20 hiL hc ha hn
    have hL80 := hc.1
    unfold f_X1_inPrints_1_b35
    rw [c_pos hc]
    simp only [bnd]
    rw [f_X11_prints_b17]
    by_cases z : i = 0
    · subst z
      rw [if_neg (show ¬ ¬ nI 0 = 0 from fun q => q rfl)]
      refine ⟨0, rfl, Or.inr ⟨0, by omega, rfl, ?_⟩⟩
      by_cases zL : L = 0
      · subst zL
        rw [if_pos (by decide), if_neg (fun q => q rfl)]; rfl
      · rw [if_neg (fun c => by have := (ja_le (by omega) (by omega)).1 c; omega), if_neg (show ¬ nI 0 = 20 by decide), if_pos (show jx_in (nI 0) 80 by decide), p2, e97]
        have := hn (by omega)
        unfold sIn at this
        obtain ⟨h0, h1⟩ := hd 0 (by omega)
        have hz : f_X11_in (τ.2 71 (nI 0).toNatClampNeg) 97 (nI (96 + P)) τ = some (0, τ) := by
          rw [nI_clamp (by omega)]
          unfold f_X11_in
          rcases h1 with ⟨c1, c2⟩ | ⟨c1, c2⟩
          · rw [c2]
            by_cases c3 : nI (d 0) < 97
            · rw [if_pos c3]
            · have c4 : ¬ d 0 < 97 := fun q => c3 ((ja_lt (b := 97) (by omega) (by omega)).2 q)
              rw [if_neg c3, if_pos ((ja_lt (by omega) (by omega)).2 (by omega))]
          · rw [if_pos]
            rw [Int32.lt_iff_toInt_lt] at c2 ⊢
            have k1 : (97 : Int32).toInt = 97 := by decide
            have k0 : (0 : Int32).toInt = 0 := by decide
            omega
        rw [hz]
        simp only [bnd]
        rw [iNT]
    · rw [if_pos (nI_ne0 (by omega) (by omega)), c_rest hc hiL hi20]
      simp only [bnd]
      by_cases zL : i = L
      · subst zL
        rw [if_pos rfl]
        refine ⟨-1, rfl, Or.inl ⟨rfl, by omega, hi20, ha, ?_⟩⟩
        rw [if_pos ((ja_le (by omega) (by omega)).2 (Nat.le_refl _)), if_pos (nI_ne0 (by omega) (by omega))]
      · rw [if_neg zL]
        refine ⟨nI i, rfl, Or.inr ⟨i, by omega, rfl, ?_⟩⟩
        rw [if_neg (fun c => by have := (ja_le (by omega) (by omega)).1 c; omega)]
        by_cases c20 : i = 20
        · subst c20
          rw [if_pos (show nI 20 = 20 from rfl)]
        · rw [if_neg (show ¬ nI i = 20 from fun q => c20 ((ja_eq (b := 20) (by omega) (by omega)).1 q)), if_pos (ja_in (n := 80) (by omega) (by omega)), p2, e97]
          have := hn (by omega)
          unfold sIn at this
          obtain ⟨h0, h1⟩ := hd i (by omega)
          have hz : f_X11_in (τ.2 71 (nI i).toNatClampNeg) 97 (nI (96 + P)) τ = some (0, τ) := by
            rw [nI_clamp (by omega)]
            unfold f_X11_in
            rcases h1 with ⟨c1, c2⟩ | ⟨c1, c2⟩
            · rw [c2]
              by_cases c3 : nI (d i) < 97
              · rw [if_pos c3]
              · have c4 : ¬ d i < 97 := fun q => c3 ((ja_lt (b := 97) (by omega) (by omega)).2 q)
                rw [if_neg c3, if_pos ((ja_lt (by omega) (by omega)).2 (by omega))]
            · rw [if_pos]
              rw [Int32.lt_iff_toInt_lt] at c2 ⊢
              have k1 : (97 : Int32).toInt = 97 := by decide
              have k0 : (0 : Int32).toInt = 0 := by decide
              omega
          rw [hz]
          simp only [bnd]
          rw [iNT]
  intro m
  induction m with
  | zero =>
    intro i fu fu' σ hi hf hf' hiL hc ha
    obtain ⟨fu, rfl⟩ : ∃ f', fu = f' + 1 := ⟨fu - 1, by omega⟩
    obtain ⟨fu', rfl⟩ : ∃ f', fu' = f' + 1 := ⟨fu' - 1, by omega⟩
    obtain ⟨v, g1, g2⟩ := fin i fu' σ (by omega) hiL hc ha (fun q => by omega)
    rw [f_X1_inPrints_1_b8, if_pos (show (20 : Int32) ≤ nI i from by rw [show i = 20 by omega]; decide), g1]
    exact ⟨σ, v, rfl, rfl, fun _ _ => rfl, g2⟩
  | succ m ih =>
    intro i fu fu' σ hi hf hf' hiL hc ha
    obtain ⟨fu, rfl⟩ : ∃ f', fu = f' + 1 := ⟨fu - 1, by omega⟩
    obtain ⟨fu', rfl⟩ : ∃ f', fu' = f' + 1 := ⟨fu' - 1, by omega⟩
    have hL80 := hc.1
    have et := c_takeOf hc (a := 97) (b := 96 + P) (by omega) (by omega)
    have et' : f_X9_takeOf 97 (97 + nI P - 1) σ = if sIn L 20 d i 97 (96 + P) then some (1, gs σ 67 (nI (i + 1))) else some (0, σ) := by rw [e97]; exact et
    rw [f_X1_inPrints_1_b8, if_neg (show ¬ (20 : Int32) ≤ nI i from nI_ge (b := 20) (by omega) (by omega)), et']
    by_cases c : sIn L 20 d i 97 (96 + P)
    · rw [if_pos c]
      simp only [bnd]
      obtain ⟨c1, c2, c3, c4⟩ := c
      rw [if_neg (show ¬ (1 : Int32) = 0 by decide), nS]
      obtain ⟨σ', v, g1, g2, g3, g4⟩ := ih (i + 1) fu fu' (gs σ 67 (nI (i + 1))) (by omega) (by omega) (by omega) (by omega) (cX_1 hc (by omega)) (fun j hj => by
        by_cases z : j = i
        · subst z; omega
        · exact ha j (by omega))
      refine ⟨σ', v, g1, g2.trans rfl, fun z hz => (g3 z hz).trans (if_neg hz), ?_⟩
      rw [f_X11_prints_b17, if_neg (fun c => by have := (ja_le (by omega) (by omega)).1 c; omega), if_neg (fun q => by have := (ja_eq (b := 20) (by omega) (by omega)).1 q; omega), if_pos (ja_in (n := 80) (by omega) (by omega)), p2, e97, nI_clamp (by omega)]
      have hz : f_X11_in (τ.2 71 i) 97 (nI (96 + P)) τ = some (1, τ) := by
        obtain ⟨h0, h1⟩ := hd i (by omega)
        rcases h1 with ⟨b1, b2⟩ | ⟨b1, b2⟩
        · rw [b2]; exact m_in_t (a := 97) c3 c4 (by omega)
        · omega
      rw [hz]
      simp only [bnd]
      rw [if_pos (show ¬ (1 : Int32) = 0 by decide), nS]
      exact g4
    · rw [if_neg c]
      simp only [bnd]
      rw [if_pos trivial]
      obtain ⟨v, g1, g2⟩ := fin i fu' σ (by omega) hiL hc ha (fun _ => c)
      rw [g1]
      exact ⟨σ, v, rfl, rfl, fun _ _ => rfl, g2⟩
theorem prc_loop {L P : Nat} {d : Nat → Nat} (hL : L ≤ 20) (hd : ∀ j, j < L → 97 ≤ d j ∧ d j < 97 + P) (hP : P ≤ 10) : ∀ (m i fu : Nat) (σ : jT), i + m = L → m < fu → σ.1 12 = nI L → σ.1 65 = nI L → (∀ j, j < L → σ.2 2 j = nI (d j)) → (∀ j, j < i → σ.2 62 j = nI (d j - 97)) →
    ∃ σ', f_X10_prints_b38 fu (-1) (nI i) σ = some (nI L, gs σ' 65 0) ∧ σ'.1 = σ.1 ∧ (∀ o, o ≠ 62 → σ'.2 o = σ.2 o) ∧ ∀ j, j < L → σ'.2 62 j = nI (d j - 97) := by
  intro m
  induction m with
  | zero =>
    intro i fu σ hi hf e12 e65 e2 e62
    obtain ⟨fu, rfl⟩ : ∃ f', fu = f' + 1 := ⟨fu - 1, by omega⟩
    rw [f_X10_prints_b38, e12, if_pos ((ja_le (by omega) (by omega)).2 (by omega))]
    unfold f_X10_prints_b69 f_X9_clear
    simp only [bnd]
    rw [iNT]
    refine ⟨σ, ?_, rfl, fun _ _ => rfl, by rw [show L = i by omega]; exact e62⟩
    rw [show (gs σ 65 0).1 12 = nI L from e12]
  | succ m ih =>
    intro i fu σ hi hf e12 e65 e2 e62
    obtain ⟨fu, rfl⟩ : ∃ f', fu = f' + 1 := ⟨fu - 1, by omega⟩
    rw [f_X10_prints_b38, e12, if_neg (fun c => by have := (ja_le (by omega) (by omega)).1 c; omega)]
    unfold f_X9_at
    rw [if_neg (nI_pos (by omega)), e65, if_neg (fun c => by have := (ja_le (by omega) (by omega)).1 c; omega), if_pos (ja_in (n := 80) (by omega) (by omega))]
    simp only [bnd]
    obtain ⟨h1, h2⟩ := hd i (by omega)
    have e97 : nI (d i) - 97 = nI (d i - 97) := ja_sub (s := 97) h1
    rw [if_pos (ja_in (n := 20) (by omega) (by omega)), nI_clamp (by omega), e2 i (by omega), e97, nS]
    obtain ⟨σ', g1, g2, g3, g4⟩ := ih (i + 1) fu (gA σ 62 i (nI (d i - 97))) (by omega) (by omega) e12 e65 (fun j hj => by rw [ja_gA, if_neg (fun q => absurd q.1 (by decide))]; exact e2 j hj) (fun j hj => by
      rw [ja_gA]
      by_cases z : j = i
      · rw [if_pos ⟨rfl, z⟩, z]
      · rw [if_neg (fun q => z q.2)]; exact e62 j (by omega))
    refine ⟨σ', g1, g2, fun o ho => (g3 o ho).trans (funext fun j => ?_), g4⟩
    rw [ja_gA, if_neg (fun q => ho q.1)]
theorem prm_loop {L P : Nat} {d : Nat → Nat} (hL : L ≤ 20) (hd : ∀ j, j < L → 97 ≤ d j ∧ d j < 97 + P) (hP : P ≤ 10) : ∀ (m i fu : Nat) (τ : jT), i + m = L → m < fu → (∀ j, j < L → τ.2 71 j = nI (d j)) → (∀ j, j < i → τ.2 88 j = nI (d j - 97)) →
    ∃ τ', f_X11_prints_b69 fu (nI L) (nI i) τ = some (nI L, gs τ' 4203 (nI L)) ∧ τ'.1 = τ.1 ∧ (∀ o, o ≠ 88 → τ'.2 o = τ.2 o) ∧ ∀ j, j < L → τ'.2 88 j = nI (d j - 97) := by
  intro m
  induction m with
  | zero =>
    intro i fu τ hi hf e2 e62
    obtain ⟨fu, rfl⟩ : ∃ f', fu = f' + 1 := ⟨fu - 1, by omega⟩
    rw [f_X11_prints_b69, if_pos ((ja_le (by omega) (by omega)).2 (by omega))]
    exact ⟨τ, rfl, rfl, fun _ _ => rfl, by rw [show L = i by omega]; exact e62⟩
  | succ m ih =>
    intro i fu τ hi hf e2 e62
    obtain ⟨fu, rfl⟩ : ∃ f', fu = f' + 1 := ⟨fu - 1, by omega⟩
    obtain ⟨h1, h2⟩ := hd i (by omega)
    have e97 : nI (d i) - 97 = nI (d i - 97) := ja_sub (s := 97) h1
    rw [f_X11_prints_b69, if_neg (fun c => by have := (ja_le (by omega) (by omega)).1 c; omega), if_pos (ja_in (n := 80) (by omega) (by omega)), if_pos (ja_in (n := 20) (by omega) (by omega)), nI_clamp (by omega), e2 i (by omega), e97, nS]
    obtain ⟨τ', g1, g2, g3, g4⟩ := ih (i + 1) fu (gA τ 88 i (nI (d i - 97))) (by omega) (by omega) (fun j hj => by rw [ja_gA, if_neg (fun q => absurd q.1 (by decide))]; exact e2 j hj) (fun j hj => by
      rw [ja_gA]
      by_cases z : j = i
      · rw [if_pos ⟨rfl, z⟩, z]
      · rw [if_neg (fun q => z q.2)]; exact e62 j (by omega))
    refine ⟨τ', g1, g2, fun o ho => (g3 o ho).trans (funext fun j => ?_), g4⟩
    rw [ja_gA, if_neg (fun q => ho q.1)]
theorem coreCt_of {σ σ' : jT} (h1 : ∀ i, i ≠ 12 → i ≠ 65 → i ≠ 66 → i ≠ 67 → σ'.1 i = σ.1 i) (h2 : ∀ o, o ≠ 62 → σ'.2 o = σ.2 o) : coreCt σ' = coreCt σ := by
  have hp : pastC σ' = pastC σ := by
    funext i
    unfold pastC
    split <;> exact h2 _ (by decide)
  have hk : keptC σ' = keptC σ := by
    funext i
    unfold keptC
    split <;> exact h2 _ (by decide)
  unfold coreCt
  rw [hp, hk, h1 195 (by decide) (by decide) (by decide) (by decide), h1 196 (by decide) (by decide) (by decide) (by decide), h1 197 (by decide) (by decide) (by decide) (by decide), h1 452 (by decide) (by decide) (by decide) (by decide), h1 898 (by decide) (by decide) (by decide) (by decide), h1 899 (by decide) (by decide) (by decide) (by decide), h1 900 (by decide) (by decide) (by decide) (by decide), h1 3009 (by decide) (by decide) (by decide) (by decide),
    h2 4 (by decide), h2 5 (by decide), h2 6 (by decide), h2 13 (by decide), h2 8 (by decide), h2 48 (by decide)]
theorem coreMt_of {τ τ' : jT} (h1 : ∀ i, i ≠ 4203 → i ≠ 4169 → i ≠ 4172 → τ'.1 i = τ.1 i) (h2 : ∀ o, o ≠ 88 → τ'.2 o = τ.2 o) : coreMt τ' = coreMt τ := by
  unfold coreMt
  rw [h1 4161 (by decide) (by decide) (by decide), h1 4164 (by decide) (by decide) (by decide), h1 4165 (by decide) (by decide) (by decide), h1 4184 (by decide) (by decide) (by decide), h1 4189 (by decide) (by decide) (by decide), h1 4208 (by decide) (by decide) (by decide), h1 4171 (by decide) (by decide) (by decide),
    h2 67 (by decide), h2 68 (by decide), h2 69 (by decide), h2 70 (by decide), h2 66 (by decide), h2 77 (by decide), h2 79 (by decide), h2 92 (by decide), h2 93 (by decide), h2 94 (by decide), h2 72 (by decide)]
theorem rP_c {P : Nat} {σ σ' τ τ' : jT} (h : rP P σ τ) (h1 : σ'.1 12 = σ.1 12) (h2 : σ'.2 62 = σ.2 62) (h3 : τ'.1 4203 = τ.1 4203) (h4 : τ'.2 88 = τ.2 88) : rP P σ' τ' := by
  unfold rP
  rw [h1, h2, h3, h4]; exact h
theorem eq_prints {n P Q : Nat} {σ τ : jT} (hn : n < 1000) (h : rAll n P Q σ τ) : rEq n (f_X10_prints σ) (f_X11_prints τ) := by
  obtain ⟨hT, ⟨hP, p1, p2, -⟩, -, -, -, -, -, -, hPr⟩ := id h
  obtain ⟨L, d, hX, t2⟩ := rX_of (hT (by omega))
  obtain ⟨hL80, x1, x2⟩ := id hX
  unfold f_X10_prints f_X11_prints f_X3_places
  simp only [bnd]
  rw [p1, t2]
  unfold f_X1_inPrints_1
  obtain ⟨o1, o2⟩ := c_openX (M := 20) hX (by omega)
  have o1' : f_X9_open 20 σ = _ := o1
  rw [o1']
  simp only [bnd]
  obtain ⟨σ1, v, g1, g2, g3, g4⟩ := pri_loop (τ := gs (gs τ 4172 0) 4169 0) hP p2 (fun j hj => ⟨(x2 j hj).1, (x2 j hj).2.2.2⟩) 20 0 1000 1000 _ (by omega) (by omega) (by omega) (by omega) o2 (fun j hj => absurd hj (Nat.not_lt_zero _))
  have g1' : f_X1_inPrints_1_b8 1000 (nI P) 0 (gs (gs σ 66 (nI 20)) 67 0) = _ := g1
  rw [g1']
  simp only [bnd]
  have s1 : ∀ z, z ≠ 66 → z ≠ 67 → σ1.1 z = σ.1 z := fun z h1 h2 => (g3 z h2).trans ((if_neg h2).trans (if_neg h1))
  rcases g4 with ⟨rfl, hL1, hL20, hl, gm⟩ | ⟨e, he, rfl, gm⟩
  · rw [if_neg (fun q => q rfl)]
    unfold f_X9_length
    simp only [bnd]
    have gm' : f_X11_prints_b17 1000 (nI L) 0 (gs (gs τ 4172 0) 4169 0) = _ := gm
    rw [gm']
    have emin : jx_min (σ1.1 65) 20 = nI L := by
      rw [s1 65 (by decide) (by decide), x1]
      unfold jx_min
      rw [if_neg (show ¬ (20 : Int32) < nI L from fun q => by have := (ja_lt (a := 20) (by omega) (by omega)).1 q; omega)]
    rw [emin]
    obtain ⟨σ2, a1, a2, a3, a4⟩ := prc_loop (P := P) hL20 hl hP L 0 1000 (gs σ1 12 (nI L)) (by omega) (by omega) rfl ((s1 65 (by decide) (by decide)).trans x1) (fun j hj => by
      show σ1.2 2 j = _
      rw [g2]; exact (x2 j hj).2.1) (fun j hj => absurd hj (Nat.not_lt_zero _))
    have a1' : f_X10_prints_b38 1000 (-1) 0 (gs σ1 12 (nI L)) = _ := a1
    obtain ⟨τ2, b1, b2, b3, b4⟩ := prm_loop (P := P) hL20 hl hP L 0 1000 (gs (gs τ 4172 0) 4169 0) (by omega) (by omega) (fun j hj => by
      have := hl j hj
      rcases (x2 j hj).2.2.2 with z | z
      · exact z.2
      · omega) (fun j hj => absurd hj (Nat.not_lt_zero _))
    have b1' : f_X11_prints_b69 1000 (nI L) 0 (gs (gs τ 4172 0) 4169 0) = _ := b1
    rw [a1', b1']
    refine ⟨nI L, _, _, P, Q, rfl, rfl, ?_, ?_⟩
    · show τ2.1 4172 = 0
      rw [b2]; rfl
    · refine rAll_text (rAll_step h) (coreCt_of (fun i h1 h2 h3 h4 => ?_) (fun o ho => ?_)) (coreMt_of (fun i h1 h2 h3 => ?_) (fun o ho => ?_)) (rT0 rfl ?_) ?_
      · refine (if_neg h2).trans ?_
        rw [a2]
        exact (if_neg h1).trans (s1 i h3 h4)
      · exact (a3 o ho).trans (congrFun g2 o)
      · refine (if_neg h1).trans ?_
        rw [b2]
        exact (if_neg h2).trans (if_neg h3)
      · exact b3 o ho
      · show τ2.1 4169 = 0
        rw [b2]; rfl
      · refine ⟨L, hL20, ?_, rfl, fun j hj => ⟨d j - 97, by have := hl j hj; omega, a4 j hj, b4 j hj⟩⟩
        show σ2.1 12 = nI L
        rw [a2]; rfl
  · rw [if_pos (ja_neg1 (by omega))]
    unfold f_X10_prints_b69 f_X9_clear
    simp only [bnd]
    rw [if_pos (ja_neg1 (by omega))]
    have gm' : f_X11_prints_b17 1000 (nI L) 0 (gs (gs τ 4172 0) 4169 0) = _ := gm
    rw [gm']
    refine ⟨-1 - nI e, _, _, P, Q, rfl, rfl, rfl, ?_⟩
    refine rAll_text (rAll_step h) (coreCt_of (fun i h1 h2 h3 h4 => ?_) (fun o ho => ?_)) (coreMt_of (fun i h1 h2 h3 => ?_) (fun o ho => rfl)) (rT0 rfl rfl) (rP_c hPr ?_ ?_ rfl rfl)
    · exact (if_neg h2).trans (s1 i h3 h4)
    · exact congrFun g2 o
    · exact (if_neg h2).trans (if_neg h3)
    · exact s1 12 (by decide) (by decide)
    · exact congrFun g2 62
