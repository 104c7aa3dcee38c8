/-! ===== stations ===== -/
theorem st_b {P Q p a : Nat} {σ0 τ0 τ : jT} {T : Nat → Nat → Nat} {x2 x5 : Int32} {A : Nat → Prop} (hP : P ≤ 10) (hQ : Q ≤ 6) (q2 : τ.1 4165 = nI Q) (hT : tOk P Q σ0 τ0 T) (hr : lRow T P 0 (τ.2 84)) (hp : p < P) (ha : a < Q) (k63 : Int32 → Int32 → Int32 → Int32 → Int32 → jT → Option (Int32 × jT)) : ∀ (m b fu : Nat) (x : Int32), b + m = Q → m < fu → rep x (fun q => A q ∨ sUp T p (6 * a + b) q) →
    ∃ x', f_X11_stations_b75 k63 fu x2 x x5 (nI p) (nI a) (nI b) τ = k63 x2 x' x5 (nI p) (nI (a + 1)) τ ∧ rep x' (fun q => A q ∨ sUp T p (6 * (a + 1)) q) := by
  intro m
  induction m with
  | zero =>
    intro b fu x hb hf hx
    obtain ⟨fu, rfl⟩ : ∃ f', fu = f' + 1 := ⟨fu - 1, by omega⟩
    rw [f_X11_stations_b75, q2, if_pos ((ja_le (by omega) (by omega)).2 (by omega)), nS]
    have h99 : ∀ z', 6 * a + b ≤ z' → z' < 6 * (a + 1) → T p z' = 99 := fun z' h1 h2 => by
      have := tOk_Q (a := a) (b := z' - 6 * a) hT hp (by omega) (by omega) (by omega)
      rw [show 6 * a + (z' - 6 * a) = z' by omega] at this
      exact this
    have hk := s_skip (T := T) (p := p) (show 6 * a + b ≤ 6 * (a + 1) by omega) h99
    exact ⟨x, rfl, rep_iff hx (fun q => ⟨fun w => w.elim Or.inl (fun w => Or.inr ((hk q).1 w)), fun w => w.elim Or.inl (fun w => Or.inr ((hk q).2 w))⟩)⟩
  | succ m ih =>
    intro b fu x hb hf hx
    obtain ⟨fu, rfl⟩ : ∃ f', fu = f' + 1 := ⟨fu - 1, by omega⟩
    rw [f_X11_stations_b75, q2, if_neg (fun c => by have := (ja_le (by omega) (by omega)).1 c; omega), m_stopAt hP hr hp (by omega) (by omega)]
    simp only [bnd]
    unfold f_X11_stations_b115
    rw [nS]
    by_cases c : T p (6 * a + b) < 10
    · rw [tI_t c, if_pos (ja_neg1 (by omega)), m_stopAt hP hr hp (by omega) (by omega), tI_t c]
      simp only [bnd]
      refine ih (b + 1) fu _ (by omega) (by omega) (rep_iff (rep_or hx (rep_bit c)) (fun q => ⟨?_, ?_⟩))
      · rintro ((h | ⟨h1, z', h2, h3⟩) | rfl)
        · exact Or.inl h
        · exact Or.inr ⟨h1, z', by omega, h3⟩
        · exact Or.inr ⟨c, 6 * a + b, by omega, rfl⟩
      · rintro (h | ⟨h1, z', h2, h3⟩)
        · exact Or.inl (Or.inl h)
        · by_cases cz : z' = 6 * a + b
          · right; rw [← h3, cz]
          · exact Or.inl (Or.inr ⟨h1, z', by omega, h3⟩)
    · rw [tI_f c, if_neg (fun q => q rfl), Int32.or_zero]
      refine ih (b + 1) fu _ (by omega) (by omega) (rep_iff hx (fun q => ⟨?_, ?_⟩))
      · rintro (h | ⟨h1, z', h2, h3⟩)
        · exact Or.inl h
        · exact Or.inr ⟨h1, z', by omega, h3⟩
      · rintro (h | ⟨h1, z', h2, h3⟩)
        · exact Or.inl h
        · by_cases cz : z' = 6 * a + b
          · rw [cz] at h3; omega
          · exact Or.inr ⟨h1, z', by omega, h3⟩
theorem st_a {P Q p : Nat} {σ0 τ0 τ : jT} {T : Nat → Nat → Nat} {x2 x5 : Int32} {A : Nat → Prop} (hP : P ≤ 10) (hQ : Q ≤ 6) (q2 : τ.1 4165 = nI Q) (hT : tOk P Q σ0 τ0 T) (hr : lRow T P 0 (τ.2 84)) (hp : p < P) (k39 : Int32 → Int32 → Int32 → Int32 → jT → Option (Int32 × jT)) : ∀ (m a fu : Nat) (x : Int32), a + m = Q → m < fu → rep x (fun q => A q ∨ sUp T p (6 * a) q) →
    ∃ x', f_X11_stations_b63 k39 fu x2 x x5 (nI p) (nI a) τ = k39 x2 x' x5 (nI (p + 1)) τ ∧ rep x' (fun q => A q ∨ sUp T p 36 q) := by
  intro m
  induction m with
  | zero =>
    intro a fu x ha hf hx
    obtain ⟨fu, rfl⟩ : ∃ f', fu = f' + 1 := ⟨fu - 1, by omega⟩
    rw [f_X11_stations_b63, q2, if_pos ((ja_le (by omega) (by omega)).2 (by omega))]
    unfold f_X11_stations_b129
    rw [nS]
    have h99 : ∀ z', 6 * a ≤ z' → z' < 36 → T p z' = 99 := fun z' h1 h2 => by
      have := tOk_Q (a := z' / 6) (b := z' % 6) hT hp (by omega) (by omega) (by omega)
      rw [show 6 * (z' / 6) + z' % 6 = z' by omega] at this
      exact this
    have hk := s_skip (T := T) (p := p) (show 6 * a ≤ 36 by omega) h99
    exact ⟨x, rfl, rep_iff hx (fun q => ⟨fun w => w.elim Or.inl (fun w => Or.inr ((hk q).1 w)), fun w => w.elim Or.inl (fun w => Or.inr ((hk q).2 w))⟩)⟩
  | succ m ih =>
    intro a fu x ha hf hx
    obtain ⟨fu, rfl⟩ : ∃ f', fu = f' + 1 := ⟨fu - 1, by omega⟩
    rw [f_X11_stations_b63, q2, if_neg (fun c => by have := (ja_le (by omega) (by omega)).1 c; omega)]
    obtain ⟨x1, e1, e2⟩ := st_b (x2 := x2) (x5 := x5) hP hQ q2 hT hr hp (show a < Q by omega) (f_X11_stations_b63 k39 fu) Q 0 1000 x (by omega) (by omega) hx
    have e1' : f_X11_stations_b75 (f_X11_stations_b63 k39 fu) 1000 x2 x x5 (nI p) (nI a) 0 τ = _ := e1
    rw [e1']
    exact ih (a + 1) fu x1 (by omega) (by omega) e2
theorem st_p {P Q : Nat} {σ0 τ0 τ : jT} {T : Nat → Nat → Nat} {x2 x5 : Int32} {A B : Nat → Prop} (hP : P ≤ 10) (hQ : Q ≤ 6) (p2 : τ.1 4161 = nI P) (q2 : τ.1 4165 = nI Q) (hT : tOk P Q σ0 τ0 T) (hr : lRow T P 0 (τ.2 84)) (hB : rep x2 B) (k28 : Int32 → Int32 → Int32 → jT → Option (Int32 × jT)) : ∀ (m p fu : Nat) (x : Int32), p + m = P → m < fu → rep x (fun q => A q ∨ ∃ p', p' < p ∧ B p' ∧ sUp T p' 36 q) →
    ∃ x', f_X11_stations_b39 k28 fu x2 x x5 (nI p) τ = k28 (x2 ||| (x' &&& τ.1 4164)) x' (if x' = x5 then 0 else 1) τ ∧ rep x' (fun q => A q ∨ ∃ p', p' < P ∧ B p' ∧ sUp T p' 36 q) := by
  intro m
  induction m with
  | zero =>
    intro p fu x hp hf hx
    obtain ⟨fu, rfl⟩ : ∃ f', fu = f' + 1 := ⟨fu - 1, by omega⟩
    obtain rfl : p = P := by omega
    refine ⟨x, ?_, hx⟩
    rw [f_X11_stations_b39, p2, if_pos ((ja_le (by omega) (by omega)).2 (by omega))]
    unfold f_X11_stations_b155
    by_cases c : x = x5
    · rw [if_pos c, if_pos c]
    · rw [if_neg c, if_neg c]
  | succ m ih =>
    intro p fu x hp hf hx
    obtain ⟨fu, rfl⟩ : ∃ f', fu = f' + 1 := ⟨fu - 1, by omega⟩
    rw [f_X11_stations_b39, p2, if_neg (fun c => by have := (ja_le (by omega) (by omega)).1 c; omega)]
    obtain ⟨t1, t2⟩ := rep_has (τ := τ) hB (q := p) (by omega)
    by_cases c : B p
    · rw [t1 c]
      simp only [bnd]
      rw [if_pos (show ¬ (1 : Int32) = 0 by decide)]
      obtain ⟨x1, e1, e2⟩ := st_a (x2 := x2) (x5 := x5) (A := fun q => A q ∨ ∃ p', p' < p ∧ B p' ∧ sUp T p' 36 q) hP hQ q2 hT hr (show p < P by omega) (f_X11_stations_b39 k28 fu) Q 0 1000 x (by omega) (by omega) (rep_iff hx (fun q => ⟨Or.inl, fun w => w.elim id (fun ⟨_, z, h, _⟩ => by omega)⟩))
      have e1' : f_X11_stations_b63 (f_X11_stations_b39 k28 fu) 1000 x2 x x5 (nI p) 0 τ = _ := e1
      rw [e1']
      refine ih (p + 1) fu x1 (by omega) (by omega) (rep_iff e2 (fun q => ⟨?_, ?_⟩))
      · rintro ((h | ⟨p', h1, h2, h3⟩) | h)
        · exact Or.inl h
        · exact Or.inr ⟨p', by omega, h2, h3⟩
        · exact Or.inr ⟨p, by omega, c, h⟩
      · rintro (h | ⟨p', h1, h2, h3⟩)
        · exact Or.inl (Or.inl h)
        · by_cases z : p' = p
          · subst z; exact Or.inr h3
          · exact Or.inl (Or.inr ⟨p', by omega, h2, h3⟩)
    · rw [t2 c]
      simp only [bnd]
      rw [iNT]
      unfold f_X11_stations_b129
      rw [nS]
      refine ih (p + 1) fu x (by omega) (by omega) (rep_iff hx (fun q => ⟨?_, ?_⟩))
      · rintro (h | ⟨p', h1, h2, h3⟩)
        · exact Or.inl h
        · exact Or.inr ⟨p', by omega, h2, h3⟩
      · rintro (h | ⟨p', h1, h2, h3⟩)
        · exact Or.inl h
        · by_cases z : p' = p
          · subst z; exact absurd h2 c
          · exact Or.inr ⟨p', by omega, h2, h3⟩
/-- where nothing new is seen, all is seen -/
theorem sv_stable {P Q f r : Nat} {σ0 τ0 : jT} {T : Nat → Nat → Nat} {In : Nat → Prop} (hT : tOk P Q σ0 τ0 T) (hf : f < P) (hr : r ≤ 20) (h : ∀ q, (∃ p, svd P T In f (r + 1) p ∧ sUp T p 36 q) → ∃ p, svd P T In f r p ∧ sUp T p 36 q) : ∀ p, gd (sE P T In) f p < gF → svd P T In f (r + 1) p := by
  have key : ∀ v p, gd (sE P T In) f p = v → v < gF → gV (sE P T In) f r p < gF := by
    intro v
    induction v with
    | zero => intro p h0 _; rw [gd_0 h0]; exact gV_t
    | succ v ih =>
      intro p h1 hv
      obtain ⟨q, e1, e2⟩ := gd_pred h1 hv
      have e3 := ih q e2 (by omega)
      rw [← sv_next hT hf hr p]
      right
      exact ⟨h p ⟨q, ⟨by omega, e3⟩, e1.2.2.1⟩, e1.2.2.2⟩
  exact fun p hp => ⟨by omega, key _ p rfl hp⟩
theorem st_loop {n P Q f : Nat} {σ0 τ0 τ : jT} {T : Nat → Nat → Nat} {In : Nat → Prop} (hP : P ≤ 10) (hQ : Q ≤ 6) (p2 : τ.1 4161 = nI P) (q2 : τ.1 4165 = nI Q) (hI : rep (τ.1 4164) In) (hT : tOk P Q σ0 τ0 T) (hf : f < P) (hr : lRow T P 0 (τ.2 84)) : ∀ (m r fu : Nat) (x2 x3 : Int32), r + m = 10 → m + 1 < fu → rep x2 (fun p => gV (sE P T In) f r p < gF) → rep x3 (fun q => ∃ p, svd P T In f r p ∧ sUp T p 36 q) →
    ∃ x, f_X11_stations_b28 fu x2 x3 1 τ = some (x, mRow1 τ (x &&& (τ.1 4164 ^^^ (-1)))) ∧ rep x (fun q => ∃ p, gd (sE P T In) f p < gF ∧ sUp T p 36 q) := by
  intro m
  induction m with
  | zero =>
    intro r fu x2 x3 hm hfu h2 h3
    obtain ⟨fu, rfl⟩ : ∃ f', fu = f' + 1 := ⟨fu - 1, by omega⟩
    obtain ⟨fu, rfl⟩ : ∃ f', fu = f' + 1 := ⟨fu - 1, by omega⟩
    obtain rfl : r = 10 := by omega
    rw [f_X11_stations_b28, if_neg (show ¬ (1 : Int32) = 0 by decide)]
    obtain ⟨x', e1, e2⟩ := st_p (x5 := x3) hP hQ p2 q2 hT hr h2 (f_X11_stations_b28 (fu + 1)) P 0 1000 x3 (by omega) (by omega) (rep_iff h3 (fun q => ⟨Or.inl, fun w => w.elim id (fun ⟨_, h, _⟩ => absurd h (Nat.not_lt_zero _))⟩))
    have e1' : f_X11_stations_b39 (f_X11_stations_b28 (fu + 1)) 1000 x2 x3 x3 0 τ = _ := e1
    have h9 : ∀ p, gV (sE P T In) f 10 p < gF → gV (sE P T In) f 9 p < gF := fun p h => by
      have h4 := gV_lt (k := 10) (by omega) hf sE_lt (gV_P hf sE_lt 10 p h) h
      have h5 := gV_at' (k := 10) (p := p) (by omega) h
      exact gV_mono (k := gV (sE P T In) f 10 p) (by omega) (by rw [h5]; exact h)
    have ex : x' = x3 := rep_uniq e2 h3 (fun q => ⟨fun w => w.elim id (fun ⟨p, _, h4, h5⟩ => ⟨p, ⟨by omega, h9 p h4⟩, h5⟩), Or.inl⟩)
    rw [e1', if_pos ex, f_X11_stations_b28, if_pos rfl]
    have em := m_tell1 τ (x' &&& (τ.1 4164 ^^^ (-1)))
    unfold mRow0 at em
    rw [em]
    simp only [bnd]
    exact ⟨x', rfl, rep_iff (ex ▸ h3) (fun q => ⟨fun ⟨p, h, w⟩ => ⟨p, h.2, w⟩, fun ⟨p, h, w⟩ => ⟨p, ⟨by omega, h⟩, w⟩⟩)⟩
  | succ m ih =>
    intro r fu x2 x3 hm hfu h2 h3
    obtain ⟨fu, rfl⟩ : ∃ f', fu = f' + 1 := ⟨fu - 1, by omega⟩
    obtain ⟨fu, rfl⟩ : ∃ f', fu = f' + 1 := ⟨fu - 1, by omega⟩
    rw [f_X11_stations_b28, if_neg (show ¬ (1 : Int32) = 0 by decide)]
    obtain ⟨x', e1, e2⟩ := st_p (x5 := x3) hP hQ p2 q2 hT hr h2 (f_X11_stations_b28 (fu + 1)) P 0 1000 x3 (by omega) (by omega) (rep_iff h3 (fun q => ⟨Or.inl, fun w => w.elim id (fun ⟨_, h, _⟩ => absurd h (Nat.not_lt_zero _))⟩))
    have e1' : f_X11_stations_b39 (f_X11_stations_b28 (fu + 1)) 1000 x2 x3 x3 0 τ = _ := e1
    have e3 : rep x' (fun q => ∃ p, svd P T In f (r + 1) p ∧ sUp T p 36 q) := rep_iff e2 (fun q => ⟨?_, ?_⟩)
    rotate_left
    · rintro (⟨p, h4, h5⟩ | ⟨p, _, h4, h5⟩)
      · exact ⟨p, ⟨by omega, gV_mono (by omega) h4.2⟩, h5⟩
      · exact ⟨p, ⟨by omega, h4⟩, h5⟩
    · rintro ⟨p, h4, h5⟩
      have h4' : gV (sE P T In) f r p < gF := h4.2
      exact Or.inr ⟨p, gV_P hf sE_lt r p h4', h4', h5⟩
    rw [e1']
    by_cases ex : x' = x3
    · rw [if_pos ex, f_X11_stations_b28, if_pos rfl]
      have em := m_tell1 τ (x' &&& (τ.1 4164 ^^^ (-1)))
      unfold mRow0 at em
      rw [em]
      simp only [bnd]
      have hinj := rep_inj e3 h3 ex
      have hst := sv_stable hT hf (show r ≤ 20 by omega) (fun q w => (hinj q).1 w)
      refine ⟨x', rfl, rep_iff e3 (fun q => ⟨fun ⟨p, h, w⟩ => ⟨p, ?_, w⟩, fun ⟨p, h, w⟩ => ⟨p, hst p h, w⟩⟩)⟩
      have h' : gV (sE P T In) f r p < gF := h.2
      by_cases c9 : r ≤ 9
      · exact gV_mono c9 h'
      · omega
    · rw [if_neg ex]
      refine ih (r + 1) (fu + 1) _ x' (by omega) (by omega) (rep_iff (rep_or h2 (rep_and e3 hI)) (fun p => ?_)) e3
      rw [← sv_next hT hf (show r + 1 ≤ 20 by omega) p]
      constructor
      · rintro (h | h)
        · rw [← sv_next hT hf (show r ≤ 20 by omega) p] at h
          rcases h with h | ⟨⟨p', h4, h5⟩, h6⟩
          · exact Or.inl h
          · exact Or.inr ⟨⟨p', ⟨by omega, gV_mono (by omega) h4.2⟩, h5⟩, h6⟩
        · exact Or.inr h
      · rintro (h | h)
        · left; rw [h]; exact gV_t
        · exact Or.inr h
theorem inn_rep {P : Nat} {σ τ : jT} (h : rL P σ τ) : ∃ In, rep (σ.1 196) In ∧ rep (τ.1 4164) In := by
  obtain ⟨hP, -, -, ⟨b, hb, i1, i2⟩, -⟩ := h
  have h2 : (2:Nat) ^ P ≤ 2 ^ 10 := Nat.pow_le_pow_right (by omega) hP
  exact ⟨fun i => b.testBit i = true, ⟨b, by omega, i1, fun _ => Iff.rfl⟩, ⟨b, by omega, i2, fun _ => Iff.rfl⟩⟩
theorem eq_stations {n P Q : Nat} {σ τ : jT} (h : rAll n P Q σ τ) (x : Int32) : rEq n (f_X10_stations x σ) (f_X11_stations x τ) := by
  have h0 : rAll n P Q σ (gs τ 4172 0) := rAll_core h rfl rfl
  have hth : (gs τ 4172 0).1 4172 = 0 := rfl
  obtain ⟨-, hL, ⟨hQ, q1, q2, -⟩, -⟩ := id h0
  obtain ⟨hP, p1, p2, -⟩ := id hL
  obtain ⟨In, hI1, hI2⟩ := inn_rep hL
  unfold f_X10_stations f_X11_stations
  rcases vd_cases x (n := P) (by omega) with ⟨f, hf, rfl⟩ | hx
  rotate_left
  · rw [c_hp_f p1 hx, m_isPlace_f p2 hP hx]
    simp only [bnd]
    exact rEq_same h rfl rfl rfl rfl rfl
  rw [c_hp_t p1 hP hf, m_isPlace_t p2 hP hf]
  simp only [bnd]
  rw [if_pos (show ¬ (1 : Int32) = 0 by decide), if_pos (show ¬ (1 : Int32) = 0 by decide)]
  generalize gs τ 4172 0 = τ at h0 hth p2 q2 hL hI2
  obtain ⟨T, hT⟩ := fs_table (rG_of h0)
  obtain ⟨y, σ1, c1, c2, c3⟩ := c_survey hP hQ p1 q1 hI1 hT hf
  obtain ⟨τ1, m1, m2, m3⟩ := m_layStops hP hQ p2 q2 hT
  rw [c1, m1]
  simp only [bnd]
  have hI2' : rep (τ1.1 4164) In := by rw [m2.1 4164 (by decide) (by decide) (by decide) (by decide) (by decide)]; exact hI2
  obtain ⟨y', e1, e2⟩ := st_loop (n := n) hP hQ (by rw [m2.1 4161 (by decide) (by decide) (by decide) (by decide) (by decide)]; exact p2) (by rw [m2.1 4165 (by decide) (by decide) (by decide) (by decide) (by decide)]; exact q2) hI2' hT hf m3 10 0 1000 (1 <<< (nI f &&& 31)) 0 (by omega) (by omega) (rep_iff (rep_bit (show f < 10 by omega)) (fun p => gV_0.symm)) (rep_iff rep_0 (fun q => ⟨False.elim, fun ⟨p, h, _⟩ => absurd h.1 (by omega)⟩))
  have ey : y' = y := rep_uniq e2 c3.1 (fun _ => Iff.rfl)
  subst ey
  rw [e1]
  unfold f_X3_inns
  simp only [bnd]
  rw [c_tell1]
  simp only [bnd]
  have ei : σ1.1 196 = τ1.1 4164 := by
    rw [c2.1 196 (by decide)]; exact rep_uniq hI1 hI2' (fun _ => Iff.rfl)
  rw [ei]
  refine rEq_row (h := (rAll_core h0 (sC_core c2) (qL_core m2) : rAll n P Q σ1 τ1)) rfl rfl rfl rfl (rW1 _ _ _) ?_
  show τ1.1 4172 = 0
  rw [m2.1 4172 (by decide) (by decide) (by decide) (by decide) (by decide)]; exact hth
