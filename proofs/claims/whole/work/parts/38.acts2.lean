/-! ===== mount, dismount, walk, lead, rest ===== -/
theorem jb_id (o : Option (Int32 × jT)) : (o.bind fun q => some (q.1, q.2)) = o := by cases o <;> rfl
theorem v_gen {P Q : Nat} {σ τ : jT} (hL : rL P σ τ) (hQ : Q ≤ 6) (hS : rS P Q (τ.2 70) (σ.2 13) (τ.2 66)) {r p : Nat} (hr : r < Q) (hp : p < P) : ∃ w v, w ≤ 3 ∧ σ.2 4 p = nI w ∧ τ.2 67 p = nI w ∧ v < 4 ∧ f_X10_viewAt (nI r) (nI p) σ = some (if w = 0 then -1 else nI v, σ) ∧ (1 ≤ w → v < w ∧ f_X11_viewOf_66 (nI r) (nI p) τ = some (nI v, τ)) := by
  obtain ⟨hP, p1, p2, -, hw, -⟩ := hL
  obtain ⟨w, hw3, w1, w2, -⟩ := hw p hp
  obtain ⟨g, M, j, hg, hj, hM, hb, e1, e2, e3⟩ := rS_guide hS hr
  have hM2 := j_pow4 hP hM
  refine ⟨w, M / 4 ^ p % 4 % w, hw3, w1, w2, Nat.lt_of_le_of_lt (Nat.mod_le _ _) (Nat.mod_lt _ (by decide)), ?_, fun hw1 => ⟨Nat.mod_lt _ hw1, ?_⟩⟩
  · unfold f_X10_viewAt
    rw [c_guide (by omega) (by omega) (hb.imp (fun z => ⟨z.1, z.2.2⟩) (fun z => z.1)), e1]
    simp only [Option.bind_some]
    rw [c_viewOf p1 hP hp w1 hw3 hM2]
    rfl
  · exact m_view66 (by omega) (by omega) (by omega) (by omega) (hb.imp (fun z => ⟨z.2.1, z.2.2⟩) (fun z => z.2)) e2 w2 hw1 hw3 (e3 p hp) (Nat.mod_lt _ (by decide))
theorem act_walk {n P Q : Nat} {σ τ : jT} (h : rAll n P Q σ τ) (x y : Int32) : rAct P Q (f_X10_goAfoot x y) (f_X11_refusesWalk x y) (f_X11_goWalk x y) σ τ := by
  obtain ⟨-, -, ⟨hQ, q1, q2, q3⟩, ⟨hS, hcap⟩, -⟩ := id h
  rcases vd_cases x (n := Q) (by omega) with ⟨r, hr, rfl⟩ | hx
  · obtain ⟨b, hb, b1, b2⟩ := up_both h hr
    obtain ⟨-, ⟨q, hq, l1, l2⟩, -⟩ := hS.2.2.2.2.2 r hr
    have e10 : (10 : Int32) + nI r = nI (10 + r) := ja_add 10 r
    rcases hb with ⟨rfl, hup1, hup2⟩ | rfl
    · rcases way_both h hq y with ⟨k, t, hk, hqP, ht, rfl, w1, w2, w3⟩ | ⟨w1, w2⟩
      · refine Or.inr ⟨nI t, gA σ 13 (6 + r) (nI t), nI_pos (by obtain ⟨-, ⟨hP, -⟩, -⟩ := h; omega), ?_, ?_, rfl, fun τ' g1 g2 => ?_⟩
        · unfold f_X10_goAfoot
          rw [c_hr_t q1 hQ hr]
          simp only [Option.bind_some]
          rw [if_pos (by decide), b1]
          simp only [Option.bind_some]
          rw [if_pos trivial, c_placeOf (by omega), l1]
          simp only [Option.bind_some]
          rw [w1]
          simp only [Option.bind_some]
          rw [if_pos (ja_neg1 (by obtain ⟨-, ⟨hP, -⟩, -⟩ := h; omega)), c_setPlace (by omega)]
          rfl
        · unfold f_X11_refusesWalk
          rw [m_isRider_t q2 hQ hr]
          simp only [Option.bind_some]
          rw [if_pos (by decide), b2]
          simp only [Option.bind_some]
          rw [if_pos trivial, e10, if_pos (ja_in (by omega) (by omega)), nI_clamp (by omega), l2, w2]
          rfl
        · obtain ⟨-, ⟨hP, -⟩, -⟩ := id h
          have e3 : (3 : Int32) * nI q + nI k = nI (3 * q + k) := by
            rw [show (3 : Int32) = nI 3 from rfl, pk_mul, ja_add]
          refine ⟨gA τ' 66 (10 + r) (nI t), ?_, rfl, rfl, ?_⟩
          · unfold f_X11_goWalk
            rw [e10, if_pos (ja_in (by omega) (by omega)), nI_clamp (by omega), g1 66 (by decide), l2, e3, if_pos (ja_in (by omega) (by omega)), nI_clamp (by omega), g1 68 (by decide), w3]
          · refine ⟨?_, fun s hs => ?_⟩
            · show rS P Q (τ'.2 70) _ _
              rw [ju_gA, ju_gA, g1 66 (by decide), g1 70 (by decide)]
              exact rS_rider hQ hS (c := 1) hr (by omega) (Or.inr (Or.inl ⟨rfl, t, ⟨hup1, hup2⟩, Or.inl ht, rfl⟩))
            · show (gA σ 13 (6 + r) (nI t)).2 13 s ≤ σ.2 6 s
              rw [ju_gA, ju_ne _ _ (by omega)]
              exact hcap s hs
      · refine Or.inl ⟨-3, by decide, ?_, ?_⟩
        · unfold f_X10_goAfoot
          rw [c_hr_t q1 hQ hr]
          simp only [Option.bind_some]
          rw [if_pos (by decide), b1]
          simp only [Option.bind_some]
          rw [if_pos trivial, c_placeOf (by omega), l1]
          simp only [Option.bind_some]
          rw [w1]
          rfl
        · unfold f_X11_refusesWalk
          rw [m_isRider_t q2 hQ hr]
          simp only [Option.bind_some]
          rw [if_pos (by decide), b2]
          simp only [Option.bind_some]
          rw [if_pos trivial, e10, if_pos (ja_in (by omega) (by omega)), nI_clamp (by omega), l2, w2]
          rfl
    · refine Or.inl ⟨-2, by decide, ?_, ?_⟩
      · unfold f_X10_goAfoot
        rw [c_hr_t q1 hQ hr]
        simp only [Option.bind_some]
        rw [if_pos (by decide), b1]
        rfl
      · unfold f_X11_refusesWalk
        rw [m_isRider_t q2 hQ hr]
        simp only [Option.bind_some]
        rw [if_pos (by decide), b2]
        rfl
  · refine Or.inl ⟨-1, by decide, ?_, ?_⟩
    · unfold f_X10_goAfoot
      rw [c_hr_f q1 hx]; rfl
    · unfold f_X11_refusesWalk
      rw [m_isRider_f q2 hQ hx]; rfl
theorem eq_walk {n P Q : Nat} {σ τ : jT} (h : rAll n P Q σ τ) (x y : Int32) : rEq n (f_X10_walk x y σ) (f_X11_walk x y τ) := eq_act h (fun σ1 τ1 h1 => act_walk h1 x y)
theorem act_rest {n P Q : Nat} {σ τ : jT} (h : rAll n P Q σ τ) (x : Int32) : rAct P Q (f_X10_sleep x) (f_X11_refusesRest x) (f_X11_goRest x) σ τ := by
  obtain ⟨-, -, ⟨hQ, q1, q2, q3⟩, ⟨hS, hcap⟩, -⟩ := id h
  rcases vd_cases x (n := Q) (by omega) with ⟨r, hr, rfl⟩ | hx
  · obtain ⟨b, hb, b1, b2⟩ := up_both h hr
    obtain ⟨⟨v, hv, v1, v2⟩, ⟨q, hq, l1, l2⟩, -⟩ := hS.2.2.2.2.2 r hr
    have e10 : (10 : Int32) + nI r = nI (10 + r) := ja_add 10 r
    have e4 : (4 : Int32) + nI r = nI (4 + r) := ja_add 4 r
    have e16 : (16 : Int32) + nI r = nI (16 + r) := ja_add 16 r
    rcases hb with ⟨rfl, hup1, hup2⟩ | rfl
    · obtain ⟨c, hc, c1, c2⟩ := inn_both h hq
      rcases hc with rfl | rfl
      · refine Or.inl ⟨-2, by decide, ?_, ?_⟩
        · unfold f_X10_sleep
          rw [c_hr_t q1 hQ hr]
          simp only [Option.bind_some]
          rw [if_pos (by decide), b1]
          simp only [Option.bind_some]
          rw [if_neg (by decide), c_placeOf (by omega), l1]
          simp only [Option.bind_some]
          rw [c1]; rfl
        · unfold f_X11_refusesRest
          rw [m_isRider_t q2 hQ hr]
          simp only [Option.bind_some]
          rw [if_pos (by decide)]
          unfold f_X11_isAtInn
          rw [b2]
          simp only [Option.bind_some]
          rw [if_neg (by decide), e10, if_pos (ja_in (by omega) (by omega)), nI_clamp (by omega), l2, c2]
          rfl
      · refine Or.inr ⟨nI v, gA (gA σ 13 r 0) 13 (12 + r) (-1), nI_pos (by omega), ?_, ?_, rfl, fun τ' g1 g2 => ?_⟩
        · unfold f_X10_sleep
          rw [c_hr_t q1 hQ hr]
          simp only [Option.bind_some]
          rw [if_pos (by decide), b1]
          simp only [Option.bind_some]
          rw [if_neg (by decide), c_placeOf (by omega), l1]
          simp only [Option.bind_some]
          rw [c1]
          simp only [Option.bind_some]
          rw [if_pos (by decide), c_spentOf (by omega), v1]
          simp only [Option.bind_some]
          rw [c_setSpent (by omega)]
          simp only [Option.bind_some]
          rw [c_setConv (by omega)]
          rfl
        · unfold f_X11_refusesRest
          rw [m_isRider_t q2 hQ hr]
          simp only [Option.bind_some]
          rw [if_pos (by decide)]
          unfold f_X11_isAtInn
          rw [b2]
          simp only [Option.bind_some]
          rw [if_neg (by decide), e10, if_pos (ja_in (by omega) (by omega)), nI_clamp (by omega), l2, c2]
          rfl
        · refine ⟨gA (gA τ' 66 (4 + r) 0) 66 (16 + r) (-1), ?_, rfl, rfl, ?_⟩
          · unfold f_X11_goRest
            rw [e4, e16, if_pos (ja_in (by omega) (by omega)), if_pos (ja_in (by omega) (by omega)), nI_clamp (by omega), nI_clamp (by omega), g1 66 (by decide), v2]
          · refine ⟨?_, fun s hs => ?_⟩
            · show rS P Q (τ'.2 70) _ _
              rw [ju_gA, ju_gA, ju_gA, ju_gA, g1 66 (by decide), g1 70 (by decide)]
              have s1 := rS_rider hQ hS (c := 0) (v := 0) hr (by omega) (Or.inl ⟨rfl, 0, by omega, rfl⟩)
              have s2 := rS_rider hQ s1 (c := 2) (v := -1) hr (by omega) (Or.inr (Or.inr ⟨rfl, Or.inl rfl⟩))
              rw [show 6 * 0 + r = r by omega] at s2
              exact s2
            · show (gA (gA σ 13 r 0) 13 (12 + r) (-1)).2 13 s ≤ σ.2 6 s
              rw [ju_gA, ju_ne _ _ (by omega), ju_gA]
              by_cases hsr : s = r
              · subst hsr
                rw [ju_eq]
                obtain ⟨mm, hm1, hm2, hm3, -⟩ := q3 s hs
                rw [hm3]; exact nI_pos' (by omega)
              · rw [ju_ne _ _ hsr]; exact hcap s hs
    · refine Or.inl ⟨-2, by decide, ?_, ?_⟩
      · unfold f_X10_sleep
        rw [c_hr_t q1 hQ hr]
        simp only [Option.bind_some]
        rw [if_pos (by decide), b1]
        rfl
      · unfold f_X11_refusesRest
        rw [m_isRider_t q2 hQ hr]
        simp only [Option.bind_some]
        rw [if_pos (by decide)]
        unfold f_X11_isAtInn
        rw [b2]
        rfl
  · refine Or.inl ⟨-1, by decide, ?_, ?_⟩
    · unfold f_X10_sleep
      rw [c_hr_f q1 hx]; rfl
    · unfold f_X11_refusesRest
      rw [m_isRider_f q2 hQ hx]; rfl
theorem eq_rest {n P Q : Nat} {σ τ : jT} (h : rAll n P Q σ τ) (x : Int32) : rEq n (f_X10_rest x σ) (f_X11_rest x τ) := eq_act h (fun σ1 τ1 h1 => act_rest h1 x)
theorem rid_both {n P Q : Nat} {σ τ : jT} (h : rAll n P Q σ τ) : (σ.2 13 25 = -1 ∧ f_X8_isMounted σ = some (0, σ) ∧ f_X11_isRidden τ = some (0, τ)) ∨ ((∃ f g, f < Q ∧ g < Q ∧ f ≠ g ∧ σ.2 13 25 = nI f ∧ σ.2 13 26 = nI g ∧ σ.2 13 (6 + f) = σ.2 13 24 ∧ σ.2 13 (6 + g) = σ.2 13 24) ∧ f_X8_isMounted σ = some (1, σ) ∧ f_X11_isRidden τ = some (1, τ)) := by
  obtain ⟨-, -, ⟨hQ, -⟩, ⟨⟨-, n3, n4, n5, n6, -⟩, -⟩, -⟩ := h
  unfold f_X8_isMounted f_X11_isRidden
  rw [← n3]
  rcases n6 with ⟨c1, -⟩ | ⟨f, g, hf, hg, hne, c1, c2⟩
  · rw [if_pos c1, if_pos c1]; exact Or.inl ⟨c1, rfl, rfl⟩
  · have : ¬ σ.2 13 25 = -1 := by rw [c1]; exact ja_neg1 (by omega)
    rw [if_neg this, if_neg this]; exact Or.inr ⟨⟨f, g, hf, hg, hne, c1, c2⟩, rfl, rfl⟩
theorem act_lead {n P Q : Nat} {σ τ : jT} (h : rAll n P Q σ τ) (x y : Int32) : rAct P Q (f_X10_goLeading x y) (f_X11_refusesLead x y) (f_X11_goLead x y) σ τ := by
  obtain ⟨-, ⟨hP, -⟩, ⟨hQ, q1, q2, q3⟩, ⟨hS, hcap⟩, -⟩ := id h
  rcases vd_cases x (n := Q) (by omega) with ⟨r, hr, rfl⟩ | hx
  · obtain ⟨-, ⟨q, hq, l1, l2⟩, -⟩ := hS.2.2.2.2.2 r hr
    obtain ⟨⟨hh, hhp, n1, n2⟩, -⟩ := id hS
    have e10 : (10 : Int32) + nI r = nI (10 + r) := ja_add 10 r
    rcases rid_both h with ⟨hun, b1, b2⟩ | ⟨-, b1, b2⟩
    · rcases way_both h hhp y with ⟨k, t, hk, hqP, ht, rfl, w1, w2, w3⟩ | ⟨w1, w2⟩
      · have hc0 : f_X10_goLeading (nI r) (nI k) σ = if nI q = nI hh then some (nI t, gA (gA σ 13 (6 + r) (nI t)) 13 24 (nI t)) else some (-4, σ) := by
          unfold f_X10_goLeading
          rw [c_hr_t q1 hQ hr]
          simp only [Option.bind_some]
          rw [if_pos (by decide), b1]
          simp only [Option.bind_some]
          rw [if_pos trivial]
          unfold f_X8_horse
          simp only [Option.bind_some]
          rw [n1, w1]
          simp only [Option.bind_some]
          rw [if_pos (ja_neg1 (by omega)), c_placeOf (by omega), l1]
          simp only [Option.bind_some]
          rw [n1]
          by_cases hqh : nI q = nI hh
          · rw [if_pos hqh, if_pos hqh, c_setPlace (by omega)]; rfl
          · rw [if_neg hqh, if_neg hqh]
        have hm0 : f_X11_refusesLead (nI r) (nI k) τ = if nI q = nI hh then some (0, τ) else some (-4, τ) := by
          unfold f_X11_refusesLead
          rw [m_isRider_t q2 hQ hr]
          simp only [Option.bind_some]
          rw [if_pos (by decide), b2]
          simp only [Option.bind_some]
          rw [if_pos trivial, n2, w2]
          simp only [Option.bind_some]
          rw [if_pos (by decide), e10, if_pos (ja_in (by omega) (by omega)), nI_clamp (by omega), l2, n2]
          by_cases hqh : nI q = nI hh
          · rw [if_neg (fun z => z hqh), if_pos hqh]
          · rw [if_pos hqh, if_neg hqh]
        by_cases hqh : nI q = nI hh
        · rw [if_pos hqh] at hc0 hm0
          have hqe : q = hh := by
            have a1 : q < 2 ^ 31 := by rcases hq with z | z <;> omega
            have a2 : hh < 2 ^ 31 := by rcases hhp with z | z <;> omega
            exact (ja_eq a1 a2).mp hqh
          subst hqe
          refine Or.inr ⟨nI t, _, nI_pos (by omega), hc0, hm0, rfl, fun τ' g1 g2 => ?_⟩
          have e3 : (3 : Int32) * nI q + nI k = nI (3 * q + k) := by
            rw [show (3 : Int32) = nI 3 from rfl, pk_mul, ja_add]
          refine ⟨gA (gA τ' 66 (10 + r) (nI t)) 66 0 (nI t), ?_, rfl, rfl, ?_⟩
          · unfold f_X11_goLead f_X11_goWalk
            rw [e10, if_pos (ja_in (by omega) (by omega)), nI_clamp (by omega), g1 66 (by decide), l2, e3, if_pos (ja_in (by omega) (by omega)), nI_clamp (by omega), g1 68 (by decide), w3]
            rfl
          · refine ⟨?_, fun s hs => ?_⟩
            · show rS P Q (τ'.2 70) _ _
              rw [ju_gA, ju_gA, ju_gA, ju_gA, g1 66 (by decide), g1 70 (by decide)]
              have hun2 : σ.2 13 26 = -1 := by
                rcases hS.2.2.2.2.1 with z | ⟨f, g, k1, k2, k3, k4, _⟩
                · exact z.2.1
                · exact absurd (k4.symm.trans hun) (ja_neg1 (by omega))
              exact rS_horse hQ (rS_rider hQ hS (c := 1) hr (by omega) (Or.inr (Or.inl ⟨rfl, t, ⟨by rw [hun]; exact fun z => ja_neg1 (by omega) z.symm, by rw [hun2]; exact fun z => ja_neg1 (by omega) z.symm⟩, Or.inl ht, rfl⟩))) (Or.inl ht) (by rw [ju_ne _ _ (by omega)]; exact hun)
            · show (gA (gA σ 13 (6 + r) (nI t)) 13 24 (nI t)).2 13 s ≤ σ.2 6 s
              rw [ju_gA, ju_ne _ _ (by omega), ju_gA, ju_ne _ _ (by omega)]
              exact hcap s hs
        · rw [if_neg hqh] at hc0 hm0
          exact Or.inl ⟨-4, by decide, hc0, hm0⟩
      · refine Or.inl ⟨-3, by decide, ?_, ?_⟩
        · unfold f_X10_goLeading
          rw [c_hr_t q1 hQ hr]
          simp only [Option.bind_some]
          rw [if_pos (by decide), b1]
          simp only [Option.bind_some]
          rw [if_pos trivial]
          unfold f_X8_horse
          simp only [Option.bind_some]
          rw [n1, w1]
          rfl
        · unfold f_X11_refusesLead
          rw [m_isRider_t q2 hQ hr]
          simp only [Option.bind_some]
          rw [if_pos (by decide), b2]
          simp only [Option.bind_some]
          rw [if_pos trivial, n2, w2]
          rfl
    · refine Or.inl ⟨-2, by decide, ?_, ?_⟩
      · unfold f_X10_goLeading
        rw [c_hr_t q1 hQ hr]
        simp only [Option.bind_some]
        rw [if_pos (by decide), b1]
        rfl
      · unfold f_X11_refusesLead
        rw [m_isRider_t q2 hQ hr]
        simp only [Option.bind_some]
        rw [if_pos (by decide), b2]
        rfl
  · refine Or.inl ⟨-1, by decide, ?_, ?_⟩
    · unfold f_X10_goLeading
      rw [c_hr_f q1 hx]; rfl
    · unfold f_X11_refusesLead
      rw [m_isRider_f q2 hQ hx]; rfl
theorem eq_lead {n P Q : Nat} {σ τ : jT} (h : rAll n P Q σ τ) (x y : Int32) : rEq n (f_X10_lead x y σ) (f_X11_lead x y τ) := eq_act h (fun σ1 τ1 h1 => act_lead h1 x y)
