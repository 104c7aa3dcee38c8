/-! ===== roads ===== -/
theorem la_w {p : Nat} {x1 : Int32} (hp : p < 10) (k189 : Int32 → Int32 → jT → Option (Int32 × jT)) : ∀ (m w fu : Nat) (τ : jT), w + m = 3 → m < fu → ∃ τ', f_X11_roads_b209 k189 fu x1 (nI p) (nI w) τ = k189 x1 (nI (p + 1)) τ' ∧ τ'.1 = τ.1 ∧ (∀ o, o ≠ 68 → τ'.2 o = τ.2 o) ∧ (∀ j, j < 3 * p + w ∨ 3 * p + 3 ≤ j → τ'.2 68 j = τ.2 68 j) ∧ ∀ k, w ≤ k → k < 3 → τ'.2 68 (3 * p + k) = if τ.2 73 p ≤ nI k then -1 else τ.2 74 (3 * p + k) := by
  intro m
  induction m with
  | zero =>
    intro w fu τ hw hf
    obtain ⟨fu, rfl⟩ : ∃ f', fu = f' + 1 := ⟨fu - 1, by omega⟩
    rw [f_X11_roads_b209, if_pos (show (3 : Int32) ≤ nI w from by rw [show w = 3 by omega]; decide), nS]
    exact ⟨τ, rfl, rfl, fun _ _ => rfl, fun _ _ => rfl, fun k h1 h2 => by omega⟩
  | succ m ih =>
    intro w fu τ hw hf
    obtain ⟨fu, rfl⟩ : ∃ f', fu = f' + 1 := ⟨fu - 1, by omega⟩
    have key : ∀ v : Int32, v = (if τ.2 73 p ≤ nI w then -1 else τ.2 74 (3 * p + w)) → ∃ τ', f_X11_roads_b251 (f_X11_roads_b209 k189 fu) x1 (nI p) (nI w) v (nI (3 * p + w)) τ = k189 x1 (nI (p + 1)) τ' ∧ τ'.1 = τ.1 ∧ (∀ o, o ≠ 68 → τ'.2 o = τ.2 o) ∧ (∀ j, j < 3 * p + w ∨ 3 * p + 3 ≤ j → τ'.2 68 j = τ.2 68 j) ∧ ∀ k, w ≤ k → k < 3 → τ'.2 68 (3 * p + k) = if τ.2 73 p ≤ nI k then -1 else τ.2 74 (3 * p + k) := by
      intro v hv
      unfold f_X11_roads_b251
      rw [if_pos (ja_in (n := 30) (by omega) (by omega)), nI_clamp (by omega), nS]
      obtain ⟨τ', e1, e2, e3, e4, e5⟩ := ih (w + 1) fu (gA τ 68 (3 * p + w) v) (by omega) (by omega)
      refine ⟨τ', e1, e2, fun o ho => (e3 o ho).trans (funext fun j => by rw [ja_gA, if_neg (fun q => ho q.1)]), fun j hj => ?_, fun k h1 h2 => ?_⟩
      · rw [e4 j (by omega), ja_gA, if_neg (fun q => by omega)]
      · by_cases z : k = w
        · rw [e4 _ (by omega), ja_gA, if_pos ⟨rfl, by omega⟩, hv, z]
        · rw [e5 k (by omega) h2, show (gA τ 68 (3 * p + w) v).2 73 p = τ.2 73 p from by rw [ja_gA, if_neg (fun q => absurd q.1 (by decide))], show (gA τ 68 (3 * p + w) v).2 74 (3 * p + k) = τ.2 74 (3 * p + k) from by rw [ja_gA, if_neg (fun q => absurd q.1 (by decide))]]
    rw [f_X11_roads_b209, if_neg (show ¬ (3 : Int32) ≤ nI w from nI_ge (b := 3) (by omega) (by omega)), if_pos (ja_in (n := 10) (by omega) (by omega)), nI_clamp (by omega), ix3 hp (by omega), if_pos (ja_in (n := 30) (by omega) (by omega)), nI_clamp (by omega)]
    by_cases c : τ.2 73 p ≤ nI w
    · rw [if_pos c]
      exact key (-1) (by rw [if_pos c])
    · rw [if_neg c]
      exact key _ (by rw [if_neg c])
def laI (L : Nat) (d : Nat → Nat) (q : Nat) (τ : jT) : Prop := ∀ p, p < q → τ.2 67 p = nI (lA L 76 d (lS L 76 d p)) ∧ (∀ k, k < lA L 76 d (lS L 76 d p) → τ.2 68 (3 * p + k) = nI (d (lS L 76 d p + k) - 97)) ∧ ∀ k, lA L 76 d (lS L 76 d p) ≤ k → k < 3 → τ.2 68 (3 * p + k) = -1
theorem la_p {L K : Nat} {d : Nat → Nat} {τ0 : jT} (hK : K ≤ 10) (hok : rdOk L d K τ0) : ∀ (m p fu : Nat) (τ : jT), p + m = K → m < fu → τ.1 = τ0.1 → (∀ o, o ≠ 67 → o ≠ 68 → τ.2 o = τ0.2 o) → laI L d p τ → ∃ τ', f_X11_roads_b189 fu (nI K) (nI p) τ = ((f_X11_empty (gs (gs τ' 4164 (τ'.1 4181)) 4165 0)).bind fun q2 => f_X11_roads_b293 1000 (nI K) 0 (gs (gs q2.2 4203 0) 4189 0)) ∧ τ'.1 = τ0.1 ∧ (∀ o, o ≠ 67 → o ≠ 68 → τ'.2 o = τ0.2 o) ∧ laI L d K τ' := by
  intro m
  induction m with
  | zero =>
    intro p fu τ hp hf h1 h2 h3
    obtain ⟨fu, rfl⟩ : ∃ f', fu = f' + 1 := ⟨fu - 1, by omega⟩
    rw [f_X11_roads_b189, if_pos ((ja_le (by omega) (by omega)).2 (by omega))]
    exact ⟨τ, rfl, h1, h2, by rw [show K = p by omega]; exact h3⟩
  | succ m ih =>
    intro p fu τ hp hf h1 h2 h3
    obtain ⟨fu, rfl⟩ : ∃ f', fu = f' + 1 := ⟨fu - 1, by omega⟩
    obtain ⟨a1, a2⟩ := hok.2.1 p (by omega)
    have h3w := (lA_le L 76 d (lS L 76 d p)).1
    rw [f_X11_roads_b189, if_neg (fun c => by have := (ja_le (by omega) (by omega)).1 c; omega), if_pos (ja_in (n := 10) (by omega) (by omega)), nI_clamp (by omega), h2 73 (by decide) (by decide), a1]
    obtain ⟨τ1, e1, e2, e3, e4, e5⟩ := la_w (p := p) (x1 := nI K) (by omega) (f_X11_roads_b189 fu) 3 0 1000 (gA τ 67 p (nI (lA L 76 d (lS L 76 d p)))) (by omega) (by omega)
    have e1' : f_X11_roads_b209 (f_X11_roads_b189 fu) 1000 (nI K) (nI p) 0 (gA τ 67 p (nI (lA L 76 d (lS L 76 d p)))) = _ := e1
    rw [e1']
    have r67 : ∀ j, τ1.2 67 j = if j = p then nI (lA L 76 d (lS L 76 d p)) else τ.2 67 j := fun j => by
      rw [e3 67 (by decide), ja_gA]
      by_cases z : j = p
      · rw [if_pos ⟨rfl, z⟩, if_pos z]
      · rw [if_neg (fun q => z q.2), if_neg z]
    have r68 : ∀ k, k < 3 → τ1.2 68 (3 * p + k) = if lA L 76 d (lS L 76 d p) ≤ k then -1 else τ0.2 74 (3 * p + k) := fun k hk => by
      rw [e5 k (by omega) hk, show (gA τ 67 p (nI (lA L 76 d (lS L 76 d p)))).2 73 p = nI (lA L 76 d (lS L 76 d p)) from by rw [ja_gA, if_neg (fun q => absurd q.1 (by decide)), h2 73 (by decide) (by decide)]; exact a1, show (gA τ 67 p (nI (lA L 76 d (lS L 76 d p)))).2 74 (3 * p + k) = τ0.2 74 (3 * p + k) from by rw [ja_gA, if_neg (fun q => absurd q.1 (by decide)), h2 74 (by decide) (by decide)]]
      by_cases z : lA L 76 d (lS L 76 d p) ≤ k
      · rw [if_pos ((ja_le (by omega) (by omega)).2 z), if_pos z]
      · rw [if_neg (fun q => z ((ja_le (by omega) (by omega)).1 q)), if_neg z]
    refine ih (p + 1) fu τ1 (by omega) (by omega) (e2.trans h1) (fun o o1 o2 => ?_) (fun q hq => ?_)
    · rw [e3 o o2, ← h2 o o1 o2]
      exact funext fun j => by rw [ja_gA, if_neg (fun w => o1 w.1)]
    · by_cases z : q = p
      · subst z
        refine ⟨by rw [r67, if_pos rfl], fun k hk => ?_, fun k h4 h5 => by rw [r68 k h5, if_pos h4]⟩
        rw [r68 k (by omega), if_neg (by omega)]
        exact (a2 k hk).1
      · obtain ⟨b1, b2, b3⟩ := h3 q (by omega)
        have hq3 := (lA_le L 76 d (lS L 76 d q)).1
        have r : ∀ k, k < 3 → τ1.2 68 (3 * q + k) = τ.2 68 (3 * q + k) := fun k hk => by
          rw [e4 _ (by omega), ja_gA, if_neg (fun w => absurd w.1 (by decide))]
        exact ⟨by rw [r67, if_neg z]; exact b1, fun k hk => by rw [r k (by omega)]; exact b2 k hk, fun k h4 h5 => by rw [r k h5]; exact b3 k h4 h5⟩
theorem coreMt_of2 {τ τ' : jT} (h1 : ∀ i, i ≠ 4169 → i ≠ 4172 → i < 4174 ∨ 4177 < i → i ≠ 4181 → i ≠ 4203 → τ'.1 i = τ.1 i) (h2 : ∀ o, o ≠ 73 → o ≠ 74 → o ≠ 75 → o ≠ 88 → τ'.2 o = τ.2 o) : coreMt τ' = coreMt τ := by
  unfold coreMt
  rw [h1 4161 (by decide) (by decide) (by decide) (by decide) (by decide), h1 4164 (by decide) (by decide) (by decide) (by decide) (by decide), h1 4165 (by decide) (by decide) (by decide) (by decide) (by decide), h1 4184 (by decide) (by decide) (by decide) (by decide) (by decide), h1 4189 (by decide) (by decide) (by decide) (by decide) (by decide), h1 4208 (by decide) (by decide) (by decide) (by decide) (by decide), h1 4171 (by decide) (by decide) (by decide) (by decide) (by decide),
    h2 67 (by decide) (by decide) (by decide) (by decide), h2 68 (by decide) (by decide) (by decide) (by decide), h2 69 (by decide) (by decide) (by decide) (by decide), h2 70 (by decide) (by decide) (by decide) (by decide), h2 66 (by decide) (by decide) (by decide) (by decide), h2 77 (by decide) (by decide) (by decide) (by decide), h2 79 (by decide) (by decide) (by decide) (by decide), h2 92 (by decide) (by decide) (by decide) (by decide), h2 93 (by decide) (by decide) (by decide) (by decide), h2 94 (by decide) (by decide) (by decide) (by decide), h2 72 (by decide) (by decide) (by decide) (by decide)]
theorem eq_roads {n P Q : Nat} {σ τ : jT} (hn : n < 1000) (h : rAll n P Q σ τ) : rEq n (f_X10_roads σ) (f_X11_roads τ) := by
  obtain ⟨hT, ⟨hP, p1, p2, -⟩, -, -, hU, ⟨Sz, Nx, -, hNx, -, -, h898, -⟩, ⟨c0, b0, hc0, -, hcm, -, hk0⟩, ⟨s0, hs0, w1, w2, w3⟩, hPr⟩ := id h
  obtain ⟨L, d, hX, t2⟩ := rX_of (hT (by omega))
  obtain ⟨hL80, x1, x2⟩ := id hX
  unfold f_X10_roads f_X11_roads f_X1_inRoads_1 f_X1_inRoadLines_1 f_X11_begin_71
  simp only [bnd]
  have o1 : f_X9_open 76 σ = some (0, gs (gs σ 66 (nI 76)) 67 (nI 0)) := rfl
  rw [o1]
  simp only [bnd]
  rw [t2]
  have hb : bX L 76 d (gs σ 66 (nI 76)) := ⟨hL80, by omega, x1, rfl, fun j hj => ⟨(x2 j hj).1, (x2 j hj).2.1⟩⟩
  have hm0 : mX L 76 0 d (gs (gs (gs (gs (gs (gs (gs τ 4172 0) 4174 (nI L)) 4175 76) 4176 0) 4177 (-1)) 4169 0) 4181 0) := ⟨hL80, by omega, by omega, rfl, rfl, rfl, rfl, fun j hj => ⟨(x2 j hj).1, (x2 j hj).2.2⟩⟩
  obtain ⟨v, j, e1, e2⟩ := rd_parse hb 10 0 1000 1000 _ (by omega) (by omega) (by omega) (Nat.zero_le _) (Nat.zero_le _) hm0 ⟨fun p hp => absurd hp (Nat.not_lt_zero _), fun p hp => absurd hp (Nat.not_lt_zero _), rep_iff rep_0 (fun q => ⟨False.elim, fun w => absurd w.1 (Nat.not_lt_zero _)⟩)⟩ (fun p hp => absurd hp (Nat.not_lt_zero _))
  have e1' : f_X1_inRoadLines_1_b8 1000 0 (gs (gs σ 66 (nI 76)) 67 (nI 0)) = _ := e1
  rw [e1']
  simp only [bnd]
  -- a fault: nothing is laid
  have bad : ∀ (e : Nat) (τ' : jT), e ≤ 80 → mF (gs (gs (gs (gs (gs (gs (gs τ 4172 0) 4174 (nI L)) 4175 76) 4176 0) 4177 (-1)) 4169 0) 4181 0) τ' → rEq n (f_X10_roads_b43 (nI e) (gs (gs σ 66 (nI 76)) 67 j)) (some (-1 - nI e, τ')) := by
    intro e τ' he hf
    have g : ∀ z, z ≠ 4172 → z < 4174 ∨ 4177 < z → z ≠ 4169 → z ≠ 4181 → τ'.1 z = τ.1 z := fun z a1 a2 a3 a4 => (hf.1 z (by omega) (by omega) a4).trans ((if_neg a4).trans ((if_neg a3).trans ((if_neg (by omega)).trans ((if_neg (by omega)).trans ((if_neg (by omega)).trans ((if_neg (by omega)).trans (if_neg a1)))))))
    unfold f_X10_roads_b43 f_X9_clear
    simp only [bnd]
    rw [if_pos (ja_neg1 (by omega))]
    refine ⟨_, _, _, P, Q, rfl, rfl, ?_, rAll_text (rAll_step h) (coreCt_of (fun i a1 a2 a3 a4 => (if_neg a2).trans ((if_neg a4).trans (if_neg a3))) (fun o ho => rfl)) (coreMt_of2 (fun i a1 a2 a3 a4 a5 => g i a2 a3 a1 a4) (fun o o1 o2 o3 o4 => hf.2 o o1 o2 o3)) (rT0 rfl ?_) (rP_c hPr rfl rfl ?_ ?_)⟩
    · exact hf.1 4172 (by decide) (by decide) (by decide)
    · exact hf.1 4169 (by decide) (by decide) (by decide)
    · exact g 4203 (by decide) (by decide) (by decide) (by decide)
    · exact hf.2 88 (by decide) (by decide) (by decide)
  rcases e2 with ⟨e, τ1, he, rfl, em, hf⟩ | ⟨rfl, N, τ1, hN10, hE, h59, hok, hw, em, hf⟩
  · have em' : f_X11_roads_b33 1000 0 1 (gs (gs (gs (gs (gs (gs (gs τ 4172 0) 4174 (nI L)) 4175 76) 4176 0) 4177 (-1)) 4169 0) 4181 0) = _ := em
    rw [if_neg (ja_neg1 (by omega)), em']
    simp only [bnd]
    rw [if_pos (ja_neg1 (by omega))]
    exact bad e τ1 he hf
  · have em' : f_X11_roads_b33 1000 0 1 (gs (gs (gs (gs (gs (gs (gs τ 4172 0) 4174 (nI L)) 4175 76) 4176 0) 4177 (-1)) 4169 0) 4181 0) = _ := em
    have hN : rdN L d N := ⟨hN10, hE, h59⟩
    have ht : tX L d (gs (gs σ 66 (nI 76)) 67 j) := ⟨hL80, x1, fun j hj => ⟨(x2 j hj).1, (x2 j hj).2.1⟩⟩
    rw [if_pos rfl, em', cn_all ht hN]
    obtain ⟨o, ho, hg, hbd⟩ := fb_ex L (N + 1) d
    have ec := cl_find ht (show N + 1 ≤ 10 by omega) ho hg hbd o 0 1000 (by omega) (by omega)
    have ec' : f_X1_inRoads_1_b50 1000 (nI (N + 1)) 0 (gs (gs σ 66 (nI 76)) 67 j) = _ := ec
    have ek := ck_all hL80 hN hok hw ho hg hbd (N + 1) 0 1000 (by omega) (by omega) (fun _ => Nat.zero_le _) (fun q => by omega)
    have ek' : f_X11_roads_b98 (nI (N + 1)) τ1 = _ := ek
    rw [ec', ek']
    simp only [bnd]
    by_cases c : o = L
    · rw [if_pos c, if_pos c, if_neg (fun q => q rfl)]
      subst c
      -- both lay THE ROADS
      obtain ⟨σ2, l1, l2, l3⟩ := c_lay ht hN
      rw [l1]
      simp only [bnd]
      unfold f_X11_roads_b168
      rw [m_fine hw]
      simp only [bnd]
      rw [if_pos (show ¬ (1 : Int32) = 0 by decide)]
      obtain ⟨τ2, m1, m2, m3, m4⟩ := la_p (τ0 := gs τ1 4161 (nI (N + 1))) (show N + 1 ≤ 10 by omega) (show rdOk o d (N + 1) (gs τ1 4161 (nI (N + 1))) from hok) (N + 1) 0 1000 (gs τ1 4161 (nI (N + 1))) (by omega) (by omega) rfl (fun _ _ _ => rfl) (fun p hp => absurd hp (Nat.not_lt_zero _))
      have m1' : f_X11_roads_b189 1000 (nI (N + 1)) 0 (gs τ1 4161 (nI (N + 1))) = _ := m1
      rw [m1']
      unfold f_X8_clear f_X8_seat f_X2_forgetAll f_X11_empty
      simp only [bnd]
      rw [show (1000 : Nat) = 997 + 1 + 1 + 1 from rfl, f_X11_roads_b293, if_neg (by decide), if_pos (by decide), f_X11_roads_b293, if_neg (by decide), if_pos (by decide), f_X11_roads_b293, if_pos (by decide)]
      unfold f_X10_roads_b43 f_X9_clear f_X3_places
      simp only [bnd]
      rw [iNT]
      -- what both hold now
      have gm : ∀ z, z ≠ 4172 → z < 4174 ∨ 4177 < z → z ≠ 4169 → z ≠ 4181 → z ≠ 4161 → τ2.1 z = τ.1 z := fun z a1 a2 a3 a4 a5 => by
        rw [m2]
        refine (if_neg a5).trans ?_
        exact (hf.1 z (by omega) (by omega) a4).trans ((if_neg a4).trans ((if_neg a3).trans ((if_neg (by omega)).trans ((if_neg (by omega)).trans ((if_neg (by omega)).trans ((if_neg (by omega)).trans (if_neg a1)))))))
      have rm : ∀ q, q ≠ 67 → q ≠ 68 → q ≠ 73 → q ≠ 74 → q ≠ 75 → τ2.2 q = τ.2 q := fun q a1 a2 a3 a4 a5 => (m3 q a1 a2).trans (hf.2 q a3 a4 a5)
      have gc : ∀ z, z ≠ 195 → z ≠ 196 → z ≠ 197 → z ≠ 66 → z ≠ 67 → σ2.1 z = σ.1 z := fun z a1 a2 a3 a4 a5 => (l2.1 z a1 a2 a3).trans ((if_neg a5).trans (if_neg a4))
      have rc : ∀ q, q ≠ 4 → q ≠ 5 → σ2.2 q = σ.2 q := fun q a1 a2 => l2.2 q a1 a2
      obtain ⟨y1, y2, y3, y4⟩ := l3
      have y1' : (gs (gs (gs (gs (gA (gA (gA (gA σ2 13 24 0) 13 25 (-1)) 13 26 (-1)) 13 27 0) 899 0) 900 0) 12 0) 65 0).1 195 = nI (N + 1) := y1
      rw [y1']
      refine ⟨nI (N + 1), _, _, N + 1, 0, rfl, rfl, ?_, fun _ => rT0 rfl ?_, ⟨by omega, y1, ?_, ?_, fun p hp => ?_, fun q => by omega⟩, ⟨by omega, y2, rfl, fun r hr => absurd hr (Nat.not_lt_zero _)⟩, ⟨⟨⟨0, Or.inl (by omega), rfl, rfl⟩, rfl, rfl, rfl, Or.inl ⟨rfl, rfl, rfl⟩, fun r hr => absurd hr (Nat.not_lt_zero _)⟩, fun r hr => absurd hr (Nat.not_lt_zero _)⟩, ?_, ⟨0, Nx, by omega, hNx, rfl, rfl, ?_, fun i hi => absurd hi (Nat.not_lt_zero _)⟩, ⟨c0, 0, by omega, by omega, ?_, rfl, fun i hi => ?_⟩, ⟨s0, hs0, ?_, ?_, ?_⟩, ⟨0, by omega, rfl, rfl, fun i hi => absurd hi (Nat.not_lt_zero _)⟩⟩
      · show τ2.1 4172 = 0
        rw [m2]
        show τ1.1 4172 = 0
        exact hf.1 4172 (by decide) (by decide) (by decide)
      · show τ2.1 4169 = 0
        rw [m2]
        show τ1.1 4169 = 0
        exact hf.1 4169 (by decide) (by decide) (by decide)
      · show τ2.1 4161 = nI (N + 1)
        rw [m2]; rfl
      · obtain ⟨b, b1, b2, b3⟩ := y3
        refine ⟨b, Nat.lt_pow_two_of_testBit b (fun i hi => ?_), b2, ?_⟩
        · cases hc : b.testBit i with
          | false => rfl
          | true => have := ((b3 i).1 hc).1; omega
        · show τ2.1 4181 = nI b
          rw [m2]
          show τ1.1 4181 = nI b
          exact (rep_uniq hok.2.2 ⟨b, b1, b2, b3⟩ (fun _ => Iff.rfl)).trans b2
      · obtain ⟨a1, a2⟩ := y4 p hp
        obtain ⟨b1, b2, b3⟩ := m4 p hp
        have h3 := (lA_le o 76 d (lS o 76 d p)).1
        refine ⟨lA o 76 d (lS o 76 d p), h3, a1, ?_, fun k hk => ⟨d (lS o 76 d p + k) - 97, ?_, a2 k hk, ?_⟩, fun k h4 h5 => ?_⟩
        · exact b1
        · obtain ⟨q1, q2, q3⟩ := ln_let hk
          have := hg _ q3
          omega
        · exact b2 k hk
        · exact b3 k h4 h5
      · refine rU_congr hU ?_ ?_ ?_ ?_
        · exact rc 8 (by decide) (by decide)
        · exact gc 452 (by decide) (by decide) (by decide) (by decide) (by decide)
        · exact rm 77 (by decide) (by decide) (by decide) (by decide) (by decide)
        · exact gm 4184 (by decide) (by decide) (by decide) (by decide) (by decide)
      · exact (gc 898 (by decide) (by decide) (by decide) (by decide) (by decide)).trans h898
      · exact (gm 4208 (by decide) (by decide) (by decide) (by decide) (by decide)).trans hcm
      · obtain ⟨⟨k, k1, k2, _⟩, _⟩ := hk0 i hi
        rcases (show i = 0 ∨ i = 1 by omega) with rfl | rfl
        · refine ⟨⟨k, k1, ?_, ?_⟩, Or.inl (by show (0 &&& 1 : Int32) = 0; decide), fun q => absurd q (by decide)⟩
          · have : τ2.2 94 0 = τ.2 94 0 := congrFun (rm 94 (by decide) (by decide) (by decide) (by decide) (by decide)) 0
            exact this.trans k2
          · exact ⟨fun q => absurd q (by decide), fun q => absurd (show (0 &&& 1 : Int32) = 1 from q.1) (by decide)⟩
        · refine ⟨⟨k, k1, ?_, ?_⟩, Or.inl (by show (0 &&& 1 : Int32) = 0; decide), fun q => absurd q (by decide)⟩
          · have : τ2.2 94 1 = τ.2 94 1 := congrFun (rm 94 (by decide) (by decide) (by decide) (by decide) (by decide)) 1
            exact this.trans k2
          · exact ⟨fun q => absurd q (by decide), fun q => absurd (show (0 &&& 1 : Int32) = 1 from q.1) (by decide)⟩
      · exact (gc 3009 (by decide) (by decide) (by decide) (by decide) (by decide)).trans w1
      · exact (gm 4171 (by decide) (by decide) (by decide) (by decide) (by decide)).trans w2
      · intro i hi
        have r1 : σ2.2 48 i = σ.2 48 i := congrFun (rc 48 (by decide) (by decide)) i
        have r2 : τ2.2 72 i = τ.2 72 i := congrFun (rm 72 (by decide) (by decide) (by decide) (by decide) (by decide)) i
        exact r1.trans ((w3 i hi).trans r2.symm)
    · rw [if_neg c, if_neg c, if_pos (ja_neg1 (by omega))]
      exact bad o (gs τ1 4177 (nI o)) (by omega) (mF_trans hf (mF_g (Or.inr (Or.inl rfl))))
