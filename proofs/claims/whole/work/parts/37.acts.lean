/-! ===== acts: mount, walk, lead, rest ===== -/
theorem ju_eq (f : Nat → Int32) (k : Nat) (v : Int32) : jx_up f k v k = v := if_pos rfl
theorem ju_ne (f : Nat → Int32) {k j : Nat} (v : Int32) (h : j ≠ k) : jx_up f k v j = f j := if_neg h
theorem ju_gA (σ : jT) (o k : Nat) (v : Int32) : (gA σ o k v).2 o = jx_up (σ.2 o) k v := by
  funext j
  show (if o = o ∧ j = k then v else σ.2 o j) = if j = k then v else σ.2 o j
  by_cases h : j = k
  · rw [if_pos ⟨rfl, h⟩, if_pos h]
  · rw [if_neg (fun q => h q.2), if_neg h]
section RSU
variable {P Q : Nat} {dg cn mn : Nat → Int32}
theorem rS_seat0 (hQ : Q ≤ 6) (h : rS P Q dg cn mn) : rS P Q dg (jx_up (jx_up (jx_up cn 25 (-1)) 26 (-1)) 27 0) (jx_up (jx_up (jx_up mn 1 (-1)) 2 (-1)) 3 0) := by
  obtain ⟨h1, h2, h3, h4, h5, h6⟩ := h
  refine ⟨h1, rfl, rfl, rfl, Or.inl ⟨rfl, rfl, rfl⟩, fun r hr => ?_⟩
  obtain ⟨a1, a2, a3, a4⟩ := h6 r hr
  have e1 : ∀ k, k < 24 → jx_up (jx_up (jx_up cn 25 (-1)) 26 (-1)) 27 0 k = cn k := fun k hk => by rw [ju_ne _ _ (by omega), ju_ne _ _ (by omega), ju_ne _ _ (by omega)]
  have e2 : ∀ k, 3 < k → jx_up (jx_up (jx_up mn 1 (-1)) 2 (-1)) 3 0 k = mn k := fun k hk => by rw [ju_ne _ _ (by omega), ju_ne _ _ (by omega), ju_ne _ _ (by omega)]
  rw [e1 r (by omega), e1 (6 + r) (by omega), e1 (12 + r) (by omega), e1 (18 + r) (by omega), e2 (4 + r) (by omega), e2 (10 + r) (by omega), e2 (16 + r) (by omega), e2 (22 + r) (by omega)]
  exact ⟨a1, a2, a3, a4⟩
theorem rS_seat (hQ : Q ≤ 6) (h : rS P Q dg cn mn) {f g : Nat} (hf : f < Q) (hg : g < Q) (hne : f ≠ g) (hpf : cn (6 + f) = cn 24) (hpg : cn (6 + g) = cn 24) : rS P Q dg (jx_up (jx_up (jx_up cn 25 (nI f)) 26 (nI g)) 27 0) (jx_up (jx_up (jx_up mn 1 (nI f)) 2 (nI g)) 3 0) := by
  obtain ⟨h1, h2, h3, h4, h5, h6⟩ := h
  refine ⟨h1, rfl, rfl, rfl, Or.inr ⟨f, g, hf, hg, hne, rfl, rfl, ?_, ?_⟩, fun r hr => ?_⟩
  · rw [ju_ne _ _ (by omega), ju_ne _ _ (by omega), ju_ne _ _ (by omega), ju_ne _ _ (by omega), ju_ne _ _ (by omega), ju_ne _ _ (by omega)]; exact hpf
  · rw [ju_ne _ _ (by omega), ju_ne _ _ (by omega), ju_ne _ _ (by omega), ju_ne _ _ (by omega), ju_ne _ _ (by omega), ju_ne _ _ (by omega)]; exact hpg
  obtain ⟨a1, a2, a3, a4⟩ := h6 r hr
  have e1 : ∀ k, k < 24 → jx_up (jx_up (jx_up cn 25 (nI f)) 26 (nI g)) 27 0 k = cn k := fun k hk => by rw [ju_ne _ _ (by omega), ju_ne _ _ (by omega), ju_ne _ _ (by omega)]
  have e2 : ∀ k, 3 < k → jx_up (jx_up (jx_up mn 1 (nI f)) 2 (nI g)) 3 0 k = mn k := fun k hk => by rw [ju_ne _ _ (by omega), ju_ne _ _ (by omega), ju_ne _ _ (by omega)]
  rw [e1 r (by omega), e1 (6 + r) (by omega), e1 (12 + r) (by omega), e1 (18 + r) (by omega), e2 (4 + r) (by omega), e2 (10 + r) (by omega), e2 (16 + r) (by omega), e2 (22 + r) (by omega)]
  exact ⟨a1, a2, a3, a4⟩
/-- one number of a rider: spent (0), place (1), by whom (2) -/
theorem rS_rider (hQ : Q ≤ 6) (h : rS P Q dg cn mn) {r c : Nat} (hr : r < Q) (hc : c < 3) {v : Int32} (hv : (c = 0 ∧ ∃ a, a ≤ 99 ∧ v = nI a) ∨ (c = 1 ∧ ∃ q, (¬ cn 25 = nI r ∧ ¬ cn 26 = nI r) ∧ rPl P q ∧ v = nI q) ∨ (c = 2 ∧ (v = -1 ∨ ∃ b, b < Q ∧ v = nI b))) : rS P Q dg (jx_up cn (6 * c + r) v) (jx_up mn (4 + 6 * c + r) v) := by
  obtain ⟨h1, h2, h3, h4, h5, h6⟩ := h
  have e1 : ∀ k, k ≠ 6 * c + r → jx_up cn (6 * c + r) v k = cn k := fun k hk => ju_ne _ _ hk
  have e2 : ∀ k, k ≠ 4 + 6 * c + r → jx_up mn (4 + 6 * c + r) v k = mn k := fun k hk => ju_ne _ _ hk
  unfold rS
  rw [e1 24 (by omega), e1 25 (by omega), e1 26 (by omega), e1 27 (by omega), e2 0 (by omega), e2 1 (by omega), e2 2 (by omega), e2 3 (by omega)]
  have h5' : (cn 25 = -1 ∧ cn 26 = -1 ∧ cn 27 = 0) ∨ ∃ f g, f < Q ∧ g < Q ∧ f ≠ g ∧ cn 25 = nI f ∧ cn 26 = nI g ∧ jx_up cn (6 * c + r) v (6 + f) = cn 24 ∧ jx_up cn (6 * c + r) v (6 + g) = cn 24 := by
    rcases h5 with h5 | ⟨f, g, k1, k2, k3, k4, k5, k6, k7⟩
    · exact Or.inl h5
    · refine Or.inr ⟨f, g, k1, k2, k3, k4, k5, ?_, ?_⟩
      · rw [e1 _ ?_]; · exact k6
        rcases hv with ⟨rfl, _⟩ | ⟨rfl, q, ⟨n1, n2⟩, _⟩ | ⟨rfl, _⟩
        · omega
        · intro e; rw [show f = r by omega] at k4; exact n1 k4
        · omega
      · rw [e1 _ ?_]; · exact k7
        rcases hv with ⟨rfl, _⟩ | ⟨rfl, q, ⟨n1, n2⟩, _⟩ | ⟨rfl, _⟩
        · omega
        · intro e; rw [show g = r by omega] at k5; exact n2 k5
        · omega
  refine ⟨h1, h2, h3, h4, h5', fun s hs => ?_⟩
  obtain ⟨a1, a2, a3, a4⟩ := h6 s hs
  rw [e1 (18 + s) (by omega), e2 (22 + s) (by omega)]
  by_cases hsr : s = r
  · subst hsr
    rcases hv with ⟨rfl, a, ha, rfl⟩ | ⟨rfl, q, _, hq, rfl⟩ | ⟨rfl, hb⟩
    · rw [e1 (6 + s) (by omega), e1 (12 + s) (by omega), e2 (10 + s) (by omega), e2 (16 + s) (by omega)]
      refine ⟨⟨a, ha, ?_, ?_⟩, a2, a3, a4⟩
      · rw [show 6 * 0 + s = s by omega, ju_eq]
      · rw [show 4 + 6 * 0 + s = 4 + s by omega, ju_eq]
    · rw [e1 s (by omega), e1 (12 + s) (by omega), e2 (4 + s) (by omega), e2 (16 + s) (by omega)]
      refine ⟨a1, ⟨q, hq, ?_, ?_⟩, a3, a4⟩
      · rw [show 6 * 1 + s = 6 + s by omega, ju_eq]
      · rw [show 4 + 6 * 1 + s = 10 + s by omega, ju_eq]
    · rw [e1 s (by omega), e1 (6 + s) (by omega), e2 (4 + s) (by omega), e2 (10 + s) (by omega)]
      rw [show 6 * 2 + s = 12 + s by omega, ju_eq, show 4 + 6 * 2 + s = 16 + s by omega, ju_eq]
      exact ⟨a1, a2, ⟨rfl, hb⟩, a4⟩
  · rw [e1 s (by omega), e1 (6 + s) (by omega), e1 (12 + s) (by omega), e2 (4 + s) (by omega), e2 (10 + s) (by omega), e2 (16 + s) (by omega)]
    exact ⟨a1, a2, a3, a4⟩
theorem rS_horse (hQ : Q ≤ 6) (h : rS P Q dg cn mn) {q : Nat} (hq : rPl P q) (hun : cn 25 = -1) : rS P Q dg (jx_up cn 24 (nI q)) (jx_up mn 0 (nI q)) := by
  obtain ⟨h1, h2, h3, h4, h5, h6⟩ := h
  have e1 : ∀ k, k ≠ 24 → jx_up cn 24 (nI q) k = cn k := fun k hk => ju_ne _ _ hk
  have e2 : ∀ k, k ≠ 0 → jx_up mn 0 (nI q) k = mn k := fun k hk => ju_ne _ _ hk
  unfold rS
  rw [e1 25 (by omega), e1 26 (by omega), e1 27 (by omega), e2 1 (by omega), e2 2 (by omega), e2 3 (by omega), ju_eq, ju_eq]
  refine ⟨⟨q, hq, rfl, rfl⟩, h2, h3, h4, Or.inl (by rcases h5 with h5 | ⟨f, g, k1, k2, k3, k4, _⟩; exact h5; exact absurd (k4.symm.trans hun) (ja_neg1 (by omega))), fun s hs => ?_⟩
  rw [e1 s (by omega), e1 (6 + s) (by omega), e1 (12 + s) (by omega), e1 (18 + s) (by omega), e2 (4 + s) (by omega), e2 (10 + s) (by omega), e2 (16 + s) (by omega), e2 (22 + s) (by omega)]
  exact h6 s hs
end RSU
/-- an act: refused alike, or done alike -/
def rAct (P Q : Nat) (fc fr fg : jT → Option (Int32 × jT)) (σ τ : jT) : Prop :=
  (∃ c, c < 0 ∧ fc σ = some (c, σ) ∧ fr τ = some (c, τ)) ∨
  ∃ a σ', ¬ a < 0 ∧ fc σ = some (a, σ') ∧ fr τ = some (0, τ) ∧ (coreCn σ', σ'.1) = (coreCn σ, σ.1) ∧ ∀ τ', (∀ o, o ≠ 79 → τ'.2 o = τ.2 o) → (∀ i, i ≠ 4189 → τ'.1 i = τ.1 i) → ∃ τ2, fg τ' = some (a, τ2) ∧ coreMn τ2 = coreMn τ' ∧ (τ2.1, τ2.2 80, τ2.2 81) = (τ'.1, τ'.2 80, τ'.2 81) ∧ rN P Q σ' τ2
theorem eq_act {n P Q : Nat} {σ τ : jT} {fc fr fg : jT → Option (Int32 × jT)} (h : rAll n P Q σ τ) (ha : ∀ σ1 τ1, rAll n P Q σ1 τ1 → rAct P Q fc fr fg σ1 τ1) :
    rEq n ((f_X2_note_12 σ).bind fun q1 => (fc q1.2).bind fun q2 => (f_X10_noted q2.1 q2.2).bind fun q3 => some (q3.1, q3.2)) ((fr (gs τ 4172 0)).bind fun q1 => if 0 ≤ q1.1 then (f_X11_remember_66 q1.2).bind fun q3 => (fg q3.2).bind fun q4 => some (q4.1, q4.2) else some (q1.1, q1.2)) := by
  have h0 : rAll n P Q σ (gs τ 4172 0) := rAll_core h rfl rfl
  obtain ⟨-, -, -, -, -, ⟨S, N, hS, hN, e1, e2, e3, -⟩, -⟩ := id h0
  have hno := rAll_note h0 hN e3 e1 hS
  rw [c_note hN e3]
  simp only [Option.bind_some]
  rcases ha _ _ hno with ⟨c, hc, a1, a2⟩ | ⟨a, σ', ha0, a1, a2, a3, a4⟩
  · rw [a1, a2]
    simp only [Option.bind_some]
    have hn : f_X10_noted c (cNote σ N) = some (c, cNote σ N) := by
      unfold f_X10_noted
      rw [if_pos hc]
    rw [hn, if_neg (Int32.not_le.mpr hc)]
    exact ⟨c, _, _, P, Q, rfl, rfl, rfl, rAll_step hno⟩
  · rw [a1, a2]
    simp only [Option.bind_some]
    replace a3 := (Prod.mk.inj a3).1
    have hcn := a3
    simp only [coreCn, Prod.mk.injEq] at hcn
    obtain ⟨-, -, -, -, ⟨c1, c2, -⟩, -⟩ := hcn
    have hn : f_X10_noted a σ' = some (a, cPush σ' N S) := by
      unfold f_X10_noted
      rw [if_neg ha0, c_push hN hS (c1.trans e3) (c2.trans e1)]
      rfl
    rw [hn, if_pos (by decide)]
    obtain ⟨τ1, r1, r2⟩ := m_rem_66 hS e2
    rw [r1]
    simp only [Option.bind_some]
    obtain ⟨τ2, g1, g2, g3, g4⟩ := a4 τ1 r2.2.2.1 r2.2.1
    replace g3 : τ2.1 4172 = τ1.1 4172 := congrFun (Prod.mk.inj g3).1 4172
    rw [g1]
    refine ⟨a, _, τ2, P, Q, rfl, rfl, ?_, ?_⟩
    · rw [g3, r2.2.1 _ (by decide)]; rfl
    · exact rAll_step (act_push h0 hN hS e3 e1 (fun k _ => rfl) r2 a3 g2 g4)
theorem up_both {n P Q : Nat} {σ τ : jT} (h : rAll n P Q σ τ) {r : Nat} (hr : r < Q) : ∃ b : Int32, ((b = 0 ∧ ¬ σ.2 13 25 = nI r ∧ ¬ σ.2 13 26 = nI r) ∨ b = 1) ∧ f_X8_isUp (nI r) σ = some (b, σ) ∧ f_X11_isOn_66 (nI r) τ = some (b, τ) := by
  obtain ⟨-, -, ⟨hQ, -⟩, ⟨⟨-, n3, n4, -⟩, -⟩, -⟩ := h
  unfold f_X8_isUp f_X11_isOn_66 f_X8_isUp_b27 f_X11_isOn_66_b14
  rw [if_neg (ja_neg1 (by omega)), ← n3, ← n4]
  by_cases c1 : σ.2 13 25 = nI r
  · rw [if_pos c1, if_pos c1]; exact ⟨1, Or.inr rfl, rfl, rfl⟩
  · rw [if_neg c1, if_neg c1]
    by_cases c2 : σ.2 13 26 = nI r
    · rw [if_neg (fun q => q c2), if_neg (fun q => q c2)]; exact ⟨1, Or.inr rfl, rfl, rfl⟩
    · rw [if_pos c2, if_pos c2]; exact ⟨0, Or.inl ⟨rfl, c1, c2⟩, rfl, rfl⟩
theorem j_bit {b q : Nat} (hb : b < 2 ^ 31) (hq : q < 31) : ((nI b) >>> (nI q &&& 31)) &&& 1 = nI (b / 2 ^ q % 2) := by
  have h1 : ∀ q, q < 31 → ((nI q &&& (31 : Int32)).toBitVec.smod 32).toNat = q := by decide
  rw [pk_shrN hb _ _ (h1 q hq)]
  have h2 : b / 2 ^ q ≤ b := Nat.div_le_self _ _
  rw [pk_andN (by omega) 1 (by decide)]
theorem inn_both {n P Q : Nat} {σ τ : jT} (h : rAll n P Q σ τ) {q : Nat} (hq : rPl P q) : ∃ b : Int32, (b = 0 ∨ b = 1) ∧ f_X3_isInn (nI q) σ = some (b, σ) ∧ f_X11_has (τ.1 4164) (nI q) τ = some (b, τ) := by
  obtain ⟨-, ⟨hP, p1, p2, ⟨b, hb, i1, i2⟩, -⟩, -⟩ := h
  have hb31 : b < 2 ^ 31 := Nat.lt_of_lt_of_le hb (Nat.pow_le_pow_right (by omega) (by omega))
  unfold f_X11_has
  rcases hq with hq | ⟨rfl, rfl⟩
  · have e := j_bit (q := q) hb31 (by omega)
    rw [i2, e]
    unfold f_X3_isInn
    rw [c_hp_t p1 hP hq]
    simp only [Option.bind_some]
    rw [if_neg (by decide), i1, e]
    rcases Nat.mod_two_eq_zero_or_one (b / 2 ^ q) with z | z
    · rw [z]; exact ⟨0, Or.inl rfl, rfl, rfl⟩
    · rw [z]; exact ⟨1, Or.inr rfl, rfl, rfl⟩
  · have : b = 0 := by omega
    subst this
    unfold f_X3_isInn
    rw [c_hp_f p1 (Or.inr (nI_le (by omega) (by omega))), i2]
    exact ⟨0, Or.inl rfl, rfl, rfl⟩
theorem way_both {n P Q : Nat} {σ τ : jT} (h : rAll n P Q σ τ) {q : Nat} (hq : rPl P q) (x : Int32) : (∃ k t, k < 3 ∧ q < P ∧ t < P ∧ x = nI k ∧ f_X3_leadsTo (nI q) x σ = some (nI t, σ) ∧ f_X11_isWay (nI q) x τ = some (1, τ) ∧ τ.2 68 (3 * q + k) = nI t) ∨ (f_X3_leadsTo (nI q) x σ = some (-1, σ) ∧ f_X11_isWay (nI q) x τ = some (0, τ)) := by
  obtain ⟨-, ⟨hP, p1, p2, -, hw, h00⟩, -⟩ := h
  unfold f_X11_isWay
  rcases hq with hq | ⟨rfl, rfl⟩
  · obtain ⟨w, hw3, w1, w2, w4, -⟩ := hw q hq
    rw [if_pos (ja_in (by omega) (by omega)), nI_clamp (by omega), w2]
    rcases vd_cases x (n := w) (by omega) with ⟨k, hk, rfl⟩ | hx
    · obtain ⟨t, ht, t1, t2⟩ := w4 k hk
      refine Or.inl ⟨k, t, by omega, hq, ht, rfl, ?_, ?_, t2⟩
      · rw [c_leads_t p1 hP hq w1 hw3 hk, t1]
      · rw [m_inp hk (by omega)]; rfl
    · refine Or.inr ⟨c_leads_f p1 hP hq w1 hx, ?_⟩
      rw [m_pred hx (by omega)]; rfl
  · refine Or.inr ⟨c_leads_n p1 (Or.inr (nI_le (by omega) (by omega))), ?_⟩
    rw [if_pos (ja_in (by omega) (by omega)), nI_clamp (by omega), h00 rfl]
    have := m_pred (τ := τ) (x := x) (n := 0) (by
      by_cases h0 : x < 0
      · exact Or.inl h0
      · exact Or.inr (Int32.not_lt.mp h0)) (by omega)
    rw [show (0 : Int32) - 1 = nI 0 - 1 from rfl, this]; rfl
