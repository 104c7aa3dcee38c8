/-! ===== ride ===== -/
theorem c_settle {Q f g m m' : Nat} {σ : jT} (hQ : Q ≤ 6) (h : σ.1 197 = nI Q) (hf : f < Q) (hg : g < Q) (w0 : σ.2 50 0 = nI f) (w1 : σ.2 50 1 = nI g) (e0 : σ.2 6 f = nI m) (e1 : σ.2 6 g = nI m') :
    f_X5_settle σ = some (0, gA (gA (gA (gA (gA (gA (gA (gA σ 13 24 (σ.1 3144)) 13 27 (σ.1 3145 + σ.1 3146)) 13 (6 + f) (σ.1 3144)) 13 f (nI m - σ.2 51 0)) 13 (12 + f) (σ.2 52 0)) 13 (6 + g) (σ.1 3144)) 13 g (nI m' - σ.2 51 1)) 13 (12 + g) (σ.2 52 1)) := by
  unfold f_X5_settle f_X8_setHorse f_X8_setSteps
  simp only [bnd]
  rw [show (1000 : Nat) = 997 + 1 + 1 + 1 from rfl, f_X5_settle_b29, if_neg (by decide), if_pos (by decide), show (0 : Int32).toNatClampNeg = 0 from rfl]
  have r0 : ∀ x y : Int32, (gA (gA σ 13 24 x) 13 27 y).2 50 0 = nI f := fun _ _ => w0
  have r0' : ∀ x y z : Int32, (gA (gA (gA σ 13 24 x) 13 27 y) 13 (6 + f) z).2 50 0 = nI f := fun _ _ _ => w0
  have r0'' : ∀ x y z w : Int32, (gA (gA (gA (gA σ 13 24 x) 13 27 y) 13 (6 + f) z) 13 f w).2 50 0 = nI f := fun _ _ _ _ => w0
  rw [r0, c_setPlace (by omega)]
  simp only [bnd]
  rw [r0', c_mind_t (by exact h) hQ hf]
  simp only [bnd]
  rw [c_setSpent (by omega)]
  simp only [bnd]
  rw [r0'', c_setConv (by omega)]
  simp only [bnd]
  rw [f_X5_settle_b29, show (0 : Int32) + 1 = 1 from rfl, if_neg (by decide), if_pos (by decide), show (1 : Int32).toNatClampNeg = 1 from rfl]
  have r1 : ∀ x y z w v : Int32, (gA (gA (gA (gA (gA σ 13 24 x) 13 27 y) 13 (6 + f) z) 13 f w) 13 (12 + f) v).2 50 1 = nI g := fun _ _ _ _ _ => w1
  have r1' : ∀ x y z w v u : Int32, (gA (gA (gA (gA (gA (gA σ 13 24 x) 13 27 y) 13 (6 + f) z) 13 f w) 13 (12 + f) v) 13 (6 + g) u).2 50 1 = nI g := fun _ _ _ _ _ _ => w1
  have r1'' : ∀ x y z w v u t : Int32, (gA (gA (gA (gA (gA (gA (gA σ 13 24 x) 13 27 y) 13 (6 + f) z) 13 f w) 13 (12 + f) v) 13 (6 + g) u) 13 g t).2 50 1 = nI g := fun _ _ _ _ _ _ _ => w1
  rw [r1, c_setPlace (by omega)]
  simp only [bnd]
  rw [r1', c_mind_t (by exact h) hQ hg]
  simp only [bnd]
  rw [c_setSpent (by omega)]
  simp only [bnd]
  rw [r1'', c_setConv (by omega)]
  simp only [bnd]
  rw [f_X5_settle_b29, if_pos (by decide)]
  rw [← e0, ← e1]
  rfl
/-- the ride that was tried becomes the true one: both stand alike -/
theorem settle_66 {P Q f g : Nat} {σ τ : jT} {cn mn : Nat → Int32} (hQ : Q ≤ 6) (q1 : σ.1 197 = nI Q) (hS : rS P Q (τ.2 70) cn mn) (hcap : ∀ r, r < Q → cn r ≤ σ.2 6 r) (e13 : σ.2 13 = cn) (e25 : cn 25 = nI f) (e26 : cn 26 = nI g) (hD : rD P Q 66 f g σ τ) (hF : rowF f g mn (τ.2 66)) (pf : τ.2 66 (10 + f) = τ.2 66 0) (pg : τ.2 66 (10 + g) = τ.2 66 0) :
    ∃ σ', f_X5_settle σ = some (0, σ') ∧ rN P Q σ' τ ∧ σ'.1 = σ.1 ∧ ∀ o, o ≠ 13 → σ'.2 o = σ.2 o := by
  obtain ⟨hf, hg, hfg, w0, w1, r1, r2, ⟨p, hp, pc, pm⟩, st, d0, d1⟩ := hD
  obtain ⟨⟨m, s, hs, hm1, hm, m1, m2, s1, l1⟩, b1, -, ⟨g0, -, -, hg0, -, -, u4, -⟩⟩ := d0
  obtain ⟨⟨m', s', hs', hm1', hm', m1', m2', s1', l1'⟩, b1', -, ⟨g1, -, -, hg1, -, -, u4', -⟩⟩ := d1
  refine ⟨_, c_settle hQ q1 hf hg w0 w1 m1 m1', ?_, rfl, ?_⟩
  · have hsub : nI m - nI (m - s) = nI s := by rw [ja_sub (by omega)]; congr 1; omega
    have hsub' : nI m' - nI (m' - s') = nI s' := by rw [ja_sub (by omega)]; congr 1; omega
    rw [l1, l1', hsub, hsub', pc]
    unfold rN
    have hrow : (gA (gA (gA (gA (gA (gA (gA (gA σ 13 24 (nI p)) 13 27 (σ.1 3145 + σ.1 3146)) 13 (6 + f) (nI p)) 13 f (nI s)) 13 (12 + f) (σ.2 52 0)) 13 (6 + g) (nI p)) 13 g (nI s')) 13 (12 + g) (σ.2 52 1)).2 13 = jx_up (jx_up (jx_up (jx_up (jx_up (jx_up (jx_up (jx_up cn 24 (nI p)) 27 (σ.1 3145 + σ.1 3146)) (6 + f) (nI p)) f (nI s)) (12 + f) (σ.2 52 0)) (6 + g) (nI p)) g (nI s')) (12 + g) (σ.2 52 1) := by
      rw [ju_gA, ju_gA, ju_gA, ju_gA, ju_gA, ju_gA, ju_gA, ju_gA, e13]
    rw [hrow]
    generalize hc : jx_up (jx_up (jx_up (jx_up (jx_up (jx_up (jx_up (jx_up cn 24 (nI p)) 27 (σ.1 3145 + σ.1 3146)) (6 + f) (nI p)) f (nI s)) (12 + f) (σ.2 52 0)) (6 + g) (nI p)) g (nI s')) (12 + g) (σ.2 52 1) = c
    have c24 : c 24 = nI p := by
      rw [← hc, ju_ne _ _ (by omega), ju_ne _ _ (by omega), ju_ne _ _ (by omega), ju_ne _ _ (by omega), ju_ne _ _ (by omega), ju_ne _ _ (by omega), ju_ne _ _ (by omega), ju_eq]
    have c27 : c 27 = σ.1 3145 + σ.1 3146 := by
      rw [← hc, ju_ne _ _ (by omega), ju_ne _ _ (by omega), ju_ne _ _ (by omega), ju_ne _ _ (by omega), ju_ne _ _ (by omega), ju_ne _ _ (by omega), ju_eq]
    have cel : ∀ z, z ≠ 24 → z ≠ 27 → z ≠ f → z ≠ g → z ≠ 6 + f → z ≠ 6 + g → z ≠ 12 + f → z ≠ 12 + g → c z = cn z := by
      intro z h1 h2 h3 h4 h5 h6 h7 h8
      rw [← hc, ju_ne _ _ h8, ju_ne _ _ h4, ju_ne _ _ h6, ju_ne _ _ h7, ju_ne _ _ h3, ju_ne _ _ h5, ju_ne _ _ h2, ju_ne _ _ h1]
    have cf6 : c (6 + f) = nI p := by
      rw [← hc, ju_ne _ _ (by omega), ju_ne _ _ (by omega), ju_ne _ _ (by omega), ju_ne _ _ (by omega), ju_ne _ _ (by omega), ju_eq]
    have cf : c f = nI s := by
      rw [← hc, ju_ne _ _ (by omega), ju_ne _ _ (by omega), ju_ne _ _ (by omega), ju_ne _ _ (by omega), ju_eq]
    have cf12 : c (12 + f) = σ.2 52 0 := by
      rw [← hc, ju_ne _ _ (by omega), ju_ne _ _ (by omega), ju_ne _ _ (by omega), ju_eq]
    have cg6 : c (6 + g) = nI p := by
      rw [← hc, ju_ne _ _ (by omega), ju_ne _ _ (by omega), ju_eq]
    have cg : c g = nI s' := by
      rw [← hc, ju_ne _ _ (by omega), ju_eq]
    have cg12 : c (12 + g) = σ.2 52 1 := by
      rw [← hc, ju_eq]
    obtain ⟨h1, h2, h3, h4, h5, h6⟩ := hS
    refine ⟨⟨⟨p, hp, c24, pm⟩, ?_, ?_, ?_, Or.inr ⟨f, g, hf, hg, hfg, ?_, ?_, by rw [cf6, c24], by rw [cg6, c24]⟩, fun r hr => ?_⟩, fun r hr => ?_⟩
    · rw [cel 25 (by omega) (by omega) (by omega) (by omega) (by omega) (by omega) (by omega) (by omega), e25, r1]
    · rw [cel 26 (by omega) (by omega) (by omega) (by omega) (by omega) (by omega) (by omega) (by omega), e26, r2]
    · rw [c27, st]
    · rw [cel 25 (by omega) (by omega) (by omega) (by omega) (by omega) (by omega) (by omega) (by omega), e25]
    · rw [cel 26 (by omega) (by omega) (by omega) (by omega) (by omega) (by omega) (by omega) (by omega), e26]
    · obtain ⟨a1, a2, a3, a4⟩ := h6 r hr
      have a4' : ∃ j M, j < Q ∧ M < 4 ^ P ∧ τ.2 66 (22 + r) = nI j ∧ c (18 + r) = nI M ∧ ∀ p, p < P → τ.2 70 (10 * j + p) = nI (M / 4 ^ p % 4) ∧ M / 4 ^ p % 4 ≤ 2 := by
        rw [cel (18 + r) (by omega) (by omega) (by omega) (by omega) (by omega) (by omega) (by omega) (by omega), hF (22 + r) (by omega) (by omega) (by omega) (by omega) (by omega) (by omega) (by omega) (by omega)]
        exact a4
      by_cases hrf : r = f
      · subst hrf
        refine ⟨⟨s, by omega, cf, s1⟩, ⟨p, hp, cf6, by rw [pf, pm]⟩, ⟨by rw [cf12, b1], ?_⟩, a4'⟩
        rw [cf12, b1]
        rcases u4 with ⟨u, -⟩ | u
        · exact Or.inl u
        · exact Or.inr ⟨g0, hg0, u⟩
      · by_cases hrg : r = g
        · subst hrg
          refine ⟨⟨s', by omega, cg, s1'⟩, ⟨p, hp, cg6, by rw [pg, pm]⟩, ⟨by rw [cg12, b1'], ?_⟩, a4'⟩
          rw [cg12, b1']
          rcases u4' with ⟨u, -⟩ | u
          · exact Or.inl u
          · exact Or.inr ⟨g1, hg1, u⟩
        · rw [cel r (by omega) (by omega) (by omega) (by omega) (by omega) (by omega) (by omega) (by omega), cel (6 + r) (by omega) (by omega) (by omega) (by omega) (by omega) (by omega) (by omega) (by omega), cel (12 + r) (by omega) (by omega) (by omega) (by omega) (by omega) (by omega) (by omega) (by omega),
            hF (4 + r) (by omega) (by omega) (by omega) (by omega) (by omega) (by omega) (by omega) (by omega), hF (10 + r) (by omega) (by omega) (by omega) (by omega) (by omega) (by omega) (by omega) (by omega), hF (16 + r) (by omega) (by omega) (by omega) (by omega) (by omega) (by omega) (by omega) (by omega)]
          exact ⟨a1, a2, a3, a4'⟩
    · show c r ≤ σ.2 6 r
      by_cases hrf : r = f
      · subst hrf
        rw [cf, m1]
        exact (ja_le (by omega) (by omega)).mpr (by omega)
      · by_cases hrg : r = g
        · subst hrg
          rw [cg, m1']
          exact (ja_le (by omega) (by omega)).mpr (by omega)
        · rw [cel r (by omega) (by omega) (by omega) (by omega) (by omega) (by omega) (by omega) (by omega)]
          exact hcap r hr
  · intro o ho
    funext z
    show (if o = 13 ∧ _ then _ else if o = 13 ∧ _ then _ else if o = 13 ∧ _ then _ else if o = 13 ∧ _ then _ else if o = 13 ∧ _ then _ else if o = 13 ∧ _ then _ else if o = 13 ∧ _ then _ else if o = 13 ∧ _ then _ else σ.2 o z) = _
    rw [if_neg (fun q => ho q.1), if_neg (fun q => ho q.1), if_neg (fun q => ho q.1), if_neg (fun q => ho q.1), if_neg (fun q => ho q.1), if_neg (fun q => ho q.1), if_neg (fun q => ho q.1), if_neg (fun q => ho q.1)]
theorem coreCn_of {σ σ' : jT} (h1 : ∀ i, i < 3144 ∨ 3148 < i → σ'.1 i = σ.1 i) (h2 : ∀ o, o ≠ 10 → o ≠ 11 → o ≠ 13 → o < 50 ∨ 54 < o → σ'.2 o = σ.2 o) : coreCn σ' = coreCn σ := by
  have hp : pastC σ' = pastC σ := by
    funext i
    unfold pastC
    split <;> exact h2 _ (by decide) (by decide) (by decide) (by decide)
  have hk : keptC σ' = keptC σ := by
    funext i
    unfold keptC
    split <;> exact h2 _ (by decide) (by decide) (by decide) (by decide)
  unfold coreCn
  rw [hp, hk, h1 65 (by decide), h1 195 (by decide), h1 196 (by decide), h1 197 (by decide), h1 452 (by decide), h1 898 (by decide), h1 899 (by decide), h1 900 (by decide), h1 3009 (by decide), h1 12 (by decide),
    h2 2 (by decide) (by decide) (by decide) (by decide), h2 4 (by decide) (by decide) (by decide) (by decide), h2 5 (by decide) (by decide) (by decide) (by decide), h2 6 (by decide) (by decide) (by decide) (by decide), h2 8 (by decide) (by decide) (by decide) (by decide), h2 48 (by decide) (by decide) (by decide) (by decide), h2 62 (by decide) (by decide) (by decide) (by decide)]
theorem coreMn_of {τ τ' : jT} (h1 : ∀ i, i < 4174 ∨ 4177 < i → i ≠ 4185 → i ≠ 4187 → i ≠ 4191 → τ'.1 i = τ.1 i) (h2 : ∀ o, o ≠ 66 → o ≠ 78 → τ'.2 o = τ.2 o) : coreMn τ' = coreMn τ := by
  unfold coreMn
  rw [h1 4169 (by decide) (by decide) (by decide) (by decide), h1 4161 (by decide) (by decide) (by decide) (by decide), h1 4164 (by decide) (by decide) (by decide) (by decide), h1 4165 (by decide) (by decide) (by decide) (by decide), h1 4184 (by decide) (by decide) (by decide) (by decide), h1 4189 (by decide) (by decide) (by decide) (by decide), h1 4208 (by decide) (by decide) (by decide) (by decide), h1 4171 (by decide) (by decide) (by decide) (by decide), h1 4203 (by decide) (by decide) (by decide) (by decide),
    h2 71 (by decide) (by decide), h2 67 (by decide) (by decide), h2 68 (by decide) (by decide), h2 69 (by decide) (by decide), h2 70 (by decide) (by decide), h2 77 (by decide) (by decide), h2 79 (by decide) (by decide), h2 92 (by decide) (by decide), h2 93 (by decide) (by decide), h2 94 (by decide) (by decide), h2 72 (by decide) (by decide), h2 88 (by decide) (by decide)]
/-- a true ride, on both sides -/
theorem on_both {n P Q : Nat} {σ τ : jT} (h : rAll n P Q σ τ) (x : Int32) :
    (∃ N, N ≤ 99 ∧ x = nI N ∧ ((f_X11_isRidden τ = some (0, τ) ∧ f_X10_goOn x σ = some (-2, σ)) ∨ (f_X11_isRidden τ = some (1, τ) ∧ ∃ k σ' τ', k ≤ N ∧ f_X10_goOn x σ = some (nI k, σ') ∧ f_X11_goRide_66 x τ = some (nI k, τ') ∧ rN P Q σ' τ' ∧ (coreCn σ' = coreCn σ ∧ ∀ i, i < 3144 ∨ 3148 < i → σ'.1 i = σ.1 i) ∧ frN 66 τ τ' ∧ τ'.1 4191 = σ'.1 3147 ∧ (∃ p, σ'.1 3144 = nI p ∧ τ'.2 66 0 = nI p) ∧ ((σ'.1 3148 = 0 ∧ k = N) ∨ (σ'.1 3148 = 1 ∧ k < N))))) ∨
    ((x < 0 ∨ nI 100 ≤ x) ∧ f_X10_goOn x σ = some (-1, σ)) := by
  obtain ⟨-, hL, ⟨hQ, q1, q2, q3⟩, ⟨hS, hcap⟩, hU, -⟩ := id h
  unfold f_X10_goOn
  rcases vd_cases x (n := 100) (by omega) with ⟨N, hN, rfl⟩ | hx
  · left
    have hle : nI N ≤ 99 := (ja_le (a := N) (b := 99) (by omega) (by omega)).mpr (by omega)
    rw [if_neg (nI_pos (by omega)), if_pos hle]
    refine ⟨N, by omega, rfl, ?_⟩
    rcases rid_both h with ⟨hun, b1, b2⟩ | ⟨hm, b1, b2⟩
    · left
      rw [b1]
      exact ⟨b2, rfl⟩
    · right
      rw [b1]
      simp only [bnd]
      rw [if_pos (by decide)]
      obtain ⟨σ1, f, g, p, r1, r2, -, r3, r4, r5, hp, p1, p2, hf, hg, hfg, e25, e26, pf, pg⟩ := rs_D (rG_of h) hm
      have h1 : rAll n P Q σ1 τ := q_all h r2 (qM_refl _)
      obtain ⟨-, hL1, ⟨-, q1', -⟩, -, hU1, -⟩ := id h1
      obtain ⟨k, σ2, τ2, g1, g2, g3, g4, g5, g6, g7, g8, g9, g10, g11, g12, -⟩ := go_66 hQ (N := N) (by omega) N 0 1000 σ1 (gs τ 4191 (-1)) (by omega) (by omega) (rL_congr hL1 rfl rfl rfl rfl rfl rfl rfl rfl) (rU_congr hU1 rfl rfl rfl rfl) (rD_1 r3 rfl rfl rfl rfl rfl) r4.1 r4.2.2 r4.2.1.symm
      have hN2 : frN 66 τ τ2 := frN_trans (b := gs τ 4191 (-1)) ⟨fun i _ _ _ h4 => if_neg h4, fun _ _ _ => rfl⟩ g6
      have e13 : σ2.2 13 = σ.2 13 := (g5.2 13 (by decide) (by decide) (by decide) (by decide) (by decide)).trans (r2.2 13 (by decide) (by decide) (by decide))
      have e6 : σ2.2 6 = σ.2 6 := (g5.2 6 (by decide) (by decide) (by decide) (by decide) (by decide)).trans (r2.2 6 (by decide) (by decide) (by decide))
      have e70 : τ2.2 70 = τ.2 70 := hN2.2 70 (by decide) (by decide)
      obtain ⟨y1, y2⟩ := g11 (by show τ.2 66 _ = τ.2 66 0; rw [pf, p2]) (by show τ.2 66 _ = τ.2 66 0; rw [pg, p2])
      obtain ⟨σ3, t1, t2, t3, t4⟩ := settle_66 (f := f) (g := g) (σ := σ2) (τ := τ2) (cn := σ.2 13) (mn := τ.2 66) hQ (by rw [g5.1 197 (by decide) (by decide) (by decide) (by decide)]; exact q1') (by rw [e70]; exact hS) (by rw [e6]; exact hcap) e13 e25 e26 g7 g10 y1 y2
      obtain ⟨-, -, -, -, -, -, -, ⟨q, -, pc, pm⟩, -⟩ := id g7
      refine ⟨b2, k, σ3, τ2, g4, ?_, ?_, t2, ?_, hN2, ?_, ⟨q, by rw [t3]; exact pc, pm⟩, ?_⟩
      · rw [r1]
        simp only [bnd]
        have g1' : f_X5_go (nI N) σ1 = some (0, σ2) := g1
        rw [g1']
        simp only [bnd]
        rw [t1]
        simp only [bnd]
        unfold f_X5_taken
        simp only [bnd]
        rw [t3, g8]
      · exact g2
      · have hG : ∀ i, i < 3144 ∨ 3148 < i → σ3.1 i = σ.1 i := fun i hi => by rw [t3, g5.1 i (by omega) (by omega) (by omega) (by omega), r2.1 i hi]
        refine ⟨coreCn_of hG (fun o h1 h2 h3 h4 => ?_), hG⟩
        · rw [t4 o h3, g5.2 o (by omega) (by omega) (by omega) h1 h2, r2.2 o h1 h2 h4]
      · rw [t3]; exact g9
      · rw [t3]
        rcases g12 with g | ⟨a, b, -⟩
        · exact Or.inl g
        · exact Or.inr ⟨a, b⟩
  · right
    refine ⟨hx, ?_⟩
    rcases hx with hx | hx
    · rw [if_pos hx]
    · rw [Int32.le_iff_toInt_le, nI_toInt (by omega)] at hx
      have h1 : ¬ x < 0 := fun q => by
        rw [Int32.lt_iff_toInt_lt, Int32.toInt_zero] at q
        omega
      have h2 : ¬ x ≤ 99 := fun q => by
        rw [show (99 : Int32) = nI 99 from rfl, Int32.le_iff_toInt_le, nI_toInt (by omega)] at q
        omega
      rw [if_neg h1, if_neg h2]
theorem eq_ride {n P Q : Nat} {σ τ : jT} (h : rAll n P Q σ τ) (x : Int32) : rEq n (f_X10_ride x σ) (f_X11_ride x τ) := by
  have h0 : rAll n P Q σ (gs τ 4172 0) := rAll_core h rfl rfl
  obtain ⟨-, -, -, -, -, ⟨S, N0, hS12, hN13, s1, s2, s3, -⟩, -⟩ := id h0
  have hno := rAll_note h0 hN13 s3 s1 hS12
  have hl : rAll n P Q (cNote σ N0) (lyT (gs τ 4172 0) 66 80 0 28) := rAll_core hno rfl rfl
  have hly : f_X11_lay_66_80 0 (gs τ 4172 0) = some (0, lyT (gs τ 4172 0) 66 80 0 28) := m_lay_66_80 (a := 0) _ (by omega)
  unfold f_X10_ride f_X11_ride
  rw [c_note hN13 s3]
  simp only [bnd]
  rcases on_both hl x with ⟨N, hN, rfl, hc⟩ | ⟨hx, e⟩
  · have hin : f_X11_in (nI N) 0 99 (gs τ 4172 0) = some (1, gs τ 4172 0) := m_in_t (a := 0) (b := 99) (by omega) (by omega) (by omega)
    rw [hin]
    simp only [bnd]
    rw [if_pos (by decide)]
    have hri : ∀ b : Int32, f_X11_isRidden (lyT (gs τ 4172 0) 66 80 0 28) = some (b, lyT (gs τ 4172 0) 66 80 0 28) → f_X11_isRidden (gs τ 4172 0) = some (b, gs τ 4172 0) := by
      intro b hb
      unfold f_X11_isRidden at hb ⊢
      have e66 : (lyT (gs τ 4172 0) 66 80 0 28).2 66 1 = (gs τ 4172 0).2 66 1 := rfl
      rw [e66] at hb
      by_cases hz : (gs τ 4172 0).2 66 1 = -1
      · rw [if_pos hz] at hb ⊢
        obtain ⟨rfl, -⟩ := Prod.mk.inj (Option.some.inj hb)
        rfl
      · rw [if_neg hz] at hb ⊢
        obtain ⟨rfl, -⟩ := Prod.mk.inj (Option.some.inj hb)
        rfl
    rcases hc with ⟨c1, c2⟩ | ⟨c1, k, σ2, τ2, hk, c2, c3, c4, ⟨c5, -⟩, c6, c7, ⟨p, c8, c9⟩, c10⟩
    · rw [c2, hri _ c1]
      simp only [bnd]
      rw [if_pos (by decide), if_neg (by simp)]
      unfold f_X10_ride_b28
      rw [if_pos (by decide)]
      exact rEq_same hno rfl rfl rfl rfl rfl
    · rw [c2, hri _ c1]
      simp only [bnd]
      rw [if_pos (show ¬ (1 : Int32) = 0 by decide), hly]
      simp only [bnd]
      rw [c3]
      simp only [bnd]
      have ht : τ2.1 4172 = 0 := c6.1 4172 (by decide) (by decide) (by decide) (by decide)
      have tl : ∀ σ3 τ3 : jT, rAll n P Q σ3 τ3 → (∀ i, 3000 < i → σ3.1 i = σ2.1 i) → (∀ i, i ≠ 4189 → τ3.1 i = τ2.1 i) → τ3.2 66 = τ2.2 66 → rEq n (f_X10_ride_b28 (nI k) σ3) (f_X11_ride_b61 (nI N) (nI k) τ3) := by
        intro σ3 τ3 h3 d1 d2 d3
        unfold f_X10_ride_b28 f_X11_ride_b61 f_X5_spot f_X5_hasStopped
        rw [if_neg (nI_pos (by omega)), d1 3144 (by decide), d3, c8, c9]
        have et := m_tell1 τ3 (nI p)
        unfold mRow0 at et
        rw [et]
        simp only [bnd]
        rw [d1 3148 (by decide)]
        have te : ∀ s : Int32, rEq n (f_X10_ride_b58 (nI k) s (nI p) σ3) (f_X11_ride_b87 (nI k) s (mRow1 τ3 (nI p))) := by
          intro s
          unfold f_X10_ride_b58 f_X11_ride_b87 f_X5_latest
          simp only [bnd]
          rw [c_tell3, m_tell2]
          simp only [bnd]
          have e4 : (mRow2 τ3 (nI p) s).1 4191 = σ3.1 3147 := by
            show τ3.1 4191 = _
            rw [d2 4191 (by decide), d1 3147 (by decide), c7]
          rw [e4, m_tell3]
          simp only [bnd]
          exact rEq_row h3 rfl rfl rfl rfl (rW3 _ _ _ _ _) ((d2 4172 (by decide)).trans ht)
        rcases c10 with ⟨d4, d5⟩ | ⟨d4, d5⟩
        · rw [d4, if_pos (by decide), if_pos ((ja_le (by omega) (by omega)).mpr (by omega))]
          simp only [bnd]
          rw [if_pos (by simp)]
          exact te 0
        · rw [d4, if_pos (by decide), if_neg (fun q => by rw [ja_le (by omega) (by omega)] at q; omega)]
          simp only [bnd]
          rw [if_neg (by decide)]
          exact te 1
      have cM : coreMn τ2 = coreMn (lyT (gs τ 4172 0) 66 80 0 28) := coreMn_of c6.1 c6.2
      by_cases hk0 : k = 0
      · subst hk0
        rw [if_pos (by decide), if_pos (by decide)]
        exact tl σ2 τ2 (rBut_all (rBut_core (rBut_of hl) c5 cM) c4) (fun _ _ => rfl) (fun _ _ => rfl) rfl
      · rw [if_neg (nI_nle (by omega) (by omega)), if_neg (nI_nle (by omega) (by omega))]
        have a1 : σ2.1 898 = nI N0 := by
          have := congrArg (fun q => q.2.2.2.2.1.1) c5
          exact this.trans s3
        have a2 : σ2.1 899 = nI S := by
          have := congrArg (fun q => q.2.2.2.2.1.2.1) c5
          exact this.trans s1
        have a3 : τ2.1 4189 = nI S := (c6.1 4189 (by decide) (by decide) (by decide) (by decide)).trans s2
        obtain ⟨τ3, t1, t2, t3, t4, t5, t6⟩ := m_rem_80 hS12 a3
        rw [c_push hN13 hS12 a1 a2, t1]
        simp only [bnd]
        let τl := lyT (gs τ 4172 0) 66 80 0 28
        have h79 : τ2.2 79 = τl.2 79 := c6.2 79 (by decide) (by decide)
        have h80 : τ2.2 80 = τl.2 80 := c6.2 80 (by decide) (by decide)
        let τ1 : jT := (fun i => if i = 4189 then τ3.1 4189 else τl.1 i, fun o => if o = 79 then τ3.2 79 else τl.2 o)
        have hmr : mRemd 80 S τl τ1 := by
          refine ⟨t2, fun i hi => if_neg hi, fun o ho => if_neg ho, fun k hk => ?_, fun i hi k hk => ?_⟩
          · show τ3.2 79 _ = _
            rw [t5 k hk, h80]
          · show τ3.2 79 _ = _
            rw [t6 i hi k hk, h79]
        have cM2 : coreMn τ3 = coreMn τ1 := by
          have e1 : ∀ i, i ≠ 4189 → i < 4174 ∨ 4177 < i → i ≠ 4185 → i ≠ 4187 → i ≠ 4191 → τ3.1 i = τ1.1 i := fun i h1 h2 h3 h4 h5 => by
            rw [t3 i h1, c6.1 i h2 h3 h4 h5]
            exact (if_neg h1).symm
          have e2 : ∀ o, o ≠ 79 → o ≠ 66 → o ≠ 78 → τ3.2 o = τ1.2 o := fun o h1 h2 h3 => by
            rw [t4 o h1, c6.2 o h2 h3]
            exact (if_neg h1).symm
          unfold coreMn
          rw [e1 4169 (by decide) (by decide) (by decide) (by decide) (by decide), e1 4161 (by decide) (by decide) (by decide) (by decide) (by decide), e1 4164 (by decide) (by decide) (by decide) (by decide) (by decide), e1 4165 (by decide) (by decide) (by decide) (by decide) (by decide), e1 4184 (by decide) (by decide) (by decide) (by decide) (by decide), e1 4208 (by decide) (by decide) (by decide) (by decide) (by decide), e1 4171 (by decide) (by decide) (by decide) (by decide) (by decide), e1 4203 (by decide) (by decide) (by decide) (by decide) (by decide),
            e2 71 (by decide) (by decide) (by decide), e2 67 (by decide) (by decide) (by decide), e2 68 (by decide) (by decide) (by decide), e2 69 (by decide) (by decide) (by decide), e2 70 (by decide) (by decide) (by decide), e2 77 (by decide) (by decide) (by decide), e2 92 (by decide) (by decide) (by decide), e2 93 (by decide) (by decide) (by decide), e2 94 (by decide) (by decide) (by decide), e2 72 (by decide) (by decide) (by decide), e2 88 (by decide) (by decide) (by decide)]
          rfl
        have h0l : rAll n P Q σ τl := rAll_core h0 rfl rfl
        have c4' : rN P Q σ2 τ3 := by
          unfold rN at c4 ⊢
          rw [t4 70 (by decide), t4 66 (by decide)]
          exact c4
        have hfin := act_push (src := 80) h0l hN13 hS12 s3 s1 (fun k hk => by
          show (if 80 = 80 ∧ 0 ≤ k ∧ k < 0 + 28 then (gs τ 4172 0).2 66 (k - 0) else _) = _
          rw [if_pos (by omega)]; rfl) hmr c5 cM2 c4'
        refine tl _ τ3 hfin (fun i hi => ?_) t3 (t4 66 (by decide))
        unfold cPush
        show (if i = 899 then _ else if i = 898 then _ else σ2.1 i) = _
        rw [if_neg (by omega), if_neg (by omega)]
  · have hin : f_X11_in x 0 99 (gs τ 4172 0) = some (0, gs τ 4172 0) := by
      have e : (99 : Int32) = nI 100 - 1 := by decide
      rw [e]
      exact m_pred hx (by omega)
    rw [hin, e]
    simp only [bnd]
    rw [if_pos (by decide), if_neg (by simp)]
    unfold f_X10_ride_b28
    rw [if_pos (by decide)]
    exact rEq_same hno rfl rfl rfl rfl rfl
