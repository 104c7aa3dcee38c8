/-! ===== riders: the call ===== -/
theorem rS_admit {P Q K : Nat} {dg dg' cn cn' mn mn' : Nat → Int32} {fv : Nat → Nat → Nat} (hP : P ≤ 10) (hK : Q + K ≤ 6) (hS : rS P Q dg cn mn)
    (hc : ∀ z, (∀ q, q < K → z ≠ Q + q ∧ z ≠ 6 + (Q + q) ∧ z ≠ 12 + (Q + q) ∧ z ≠ 18 + (Q + q)) → cn' z = cn z) (hm : ∀ z, (∀ q, q < K → z ≠ 4 + (Q + q) ∧ z ≠ 10 + (Q + q) ∧ z ≠ 16 + (Q + q) ∧ z ≠ 22 + (Q + q)) → mn' z = mn z) (hd : ∀ z, z < 10 * Q → dg' z = dg z)
    (hc2 : ∀ q, q < K → cn' (Q + q) = 0 ∧ cn' (6 + (Q + q)) = 0 ∧ cn' (12 + (Q + q)) = -1 ∧ cn' (18 + (Q + q)) = nI (sMap (fv q) P)) (hm2 : ∀ q, q < K → (∀ k, k < P → dg' (10 * (Q + q) + k) = nI (fv q k)) ∧ mn' (4 + (Q + q)) = 0 ∧ mn' (10 + (Q + q)) = 0 ∧ mn' (16 + (Q + q)) = -1 ∧ mn' (22 + (Q + q)) = nI (Q + q)) (hf : ∀ q k, q < K → k < P → fv q k ≤ 2) : rS P (Q + K) dg' cn' mn' := by
  obtain ⟨s1, s2, s3, s4, s5, s6⟩ := hS
  have c24 : ∀ z, 24 ≤ z → cn' z = cn z := fun z hz => hc z (fun q hq => by omega)
  have m03 : ∀ z, z < 4 → mn' z = mn z := fun z hz => hm z (fun q hq => by omega)
  have cO : ∀ a r, (a = 0 ∨ a = 6 ∨ a = 12 ∨ a = 18) → r < Q → cn' (a + r) = cn (a + r) := fun a r ha hr => hc _ (fun q hq => by omega)
  have mO : ∀ a r, (a = 4 ∨ a = 10 ∨ a = 16 ∨ a = 22) → r < Q → mn' (a + r) = mn (a + r) := fun a r ha hr => hm _ (fun q hq => by omega)
  refine ⟨?_, ?_, ?_, ?_, ?_, fun r hr => ?_⟩
  · rw [c24 24 (by omega), m03 0 (by omega)]; exact s1
  · rw [c24 25 (by omega), m03 1 (by omega)]; exact s2
  · rw [c24 26 (by omega), m03 2 (by omega)]; exact s3
  · rw [c24 27 (by omega), m03 3 (by omega)]; exact s4
  · rw [c24 24 (by omega), c24 25 (by omega), c24 26 (by omega), c24 27 (by omega)]
    rcases s5 with s5 | ⟨f, g, h1, h2, h3, h4, h5, h6, h7⟩
    · exact Or.inl s5
    · exact Or.inr ⟨f, g, by omega, by omega, h3, h4, h5, by rw [cO 6 f (by omega) h1]; exact h6, by rw [cO 6 g (by omega) h2]; exact h7⟩
  · by_cases c : r < Q
    · obtain ⟨⟨v, v1, v2, v3⟩, ⟨q, q1, q2, q3⟩, ⟨b1, b2⟩, j, M, j1, j2, j3, j4, j5⟩ := s6 r c
      have c0 := cO 0 r (by omega) c
      rw [Nat.zero_add] at c0
      refine ⟨⟨v, v1, by rw [c0]; exact v2, by rw [mO 4 r (by omega) c]; exact v3⟩, ⟨q, q1, by rw [cO 6 r (by omega) c]; exact q2, by rw [mO 10 r (by omega) c]; exact q3⟩, ⟨by rw [cO 12 r (by omega) c, mO 16 r (by omega) c]; exact b1, ?_⟩, j, M, by omega, j2, by rw [mO 22 r (by omega) c]; exact j3, by rw [cO 18 r (by omega) c]; exact j4, fun p hp => ?_⟩
      · rw [cO 12 r (by omega) c]
        rcases b2 with b2 | ⟨b, b3, b4⟩
        · exact Or.inl b2
        · exact Or.inr ⟨b, by omega, b4⟩
      · rw [hd _ (by omega)]; exact j5 p hp
    · obtain ⟨q, rfl⟩ : ∃ q, r = Q + q := ⟨r - Q, by omega⟩
      obtain ⟨a1, a2, a3, a4⟩ := hc2 q (by omega)
      obtain ⟨b0, b1, b2, b3, b4⟩ := hm2 q (by omega)
      have hlt : ∀ j, j < P → fv q j < 4 := fun j hj => by have := hf q j (by omega) hj; omega
      refine ⟨⟨0, by omega, a1, b1⟩, ⟨0, ?_, a2, b2⟩, ⟨by rw [a3, b3], Or.inl a3⟩, Q + q, sMap (fv q) P, by omega, sMap_lt P hlt, b4, a4, fun p hp => ?_⟩
      · unfold rPl; omega
      · rw [b0 p hp, sMap_dig P hlt p hp]
        exact ⟨rfl, hf q p (by omega) hp⟩
theorem eq_riders {n P Q : Nat} {σ τ : jT} (hn : n < 1000) (h : rAll n P Q σ τ) : rEq n (f_X10_riders σ) (f_X11_riders τ) := by
  obtain ⟨hT, hL, ⟨hQ, q1, q2, hmd⟩, ⟨hS, hcap⟩, hU, ⟨Sz, Nx, -, hNx, -, -, h898, -⟩, ⟨c0, b0, hc0, -, hcm, -, hk0⟩, ⟨s0, hs0, w1, w2, w3⟩, hPr⟩ := id h
  obtain ⟨hP, p1, p2, -⟩ := id hL
  obtain ⟨L, d, hX, t2⟩ := rX_of (hT (by omega))
  obtain ⟨hL80, x1, x2⟩ := id hX
  unfold f_X10_riders f_X11_riders f_X9_length f_X11_begin_71
  simp only [bnd]
  rw [x1, t2]
  have e74 : (gs (gs (gs (gs (gs τ 4172 0) 4174 (nI L)) 4175 76) 4176 0) 4177 (-1)).1 4174 = nI L := rfl
  rw [e74]
  by_cases cL : L = 0
  · subst cL
    rw [if_neg (show ¬ ¬ nI 0 = 0 from fun q => q rfl), if_neg (show ¬ ¬ nI 0 = 0 from fun q => q rfl)]
    refine ⟨0, _, _, P, Q, rfl, rfl, rfl, rAll_text (rAll_step h) rfl (coreMt_of3 (fun i a1 a2 a3 => ?_) (fun o ho => rfl)) (rT0 x1 rfl) (rP_c hPr rfl rfl rfl rfl)⟩
    exact (if_neg a1).trans ((if_neg (by omega)).trans ((if_neg (by omega)).trans ((if_neg (by omega)).trans ((if_neg (by omega)).trans (if_neg a2)))))
  · rw [if_pos (nI_ne0 (by omega) (by omega)), if_pos (nI_ne0 (by omega) (by omega))]
    unfold f_X3_places f_X3_riderCount f_X1_inRiders_1
    simp only [bnd]
    have o1 : f_X9_open 76 σ = some (0, gs (gs σ 66 (nI 76)) 67 (nI 0)) := rfl
    rw [o1]
    simp only [bnd]
    rw [p1, q1, show (6 : Int32) - nI Q = nI (6 - Q) from ja_sub (m := 6) hQ]
    have hb : bX L 76 d (gs σ 66 (nI 76)) := ⟨hL80, by omega, x1, rfl, fun j hj => ⟨(x2 j hj).1, (x2 j hj).2.1⟩⟩
    have hm0 : mX L 76 0 d (gs (gs (gs (gs (gs (gs τ 4172 0) 4174 (nI L)) 4175 76) 4176 0) 4177 (-1)) 4169 0) := ⟨hL80, by omega, by omega, rfl, rfl, rfl, rfl, fun j hj => ⟨(x2 j hj).1, (x2 j hj).2.2⟩⟩
    obtain ⟨v, j, e1, e2⟩ := rp_parse (P := P) (Q := Q) hb hP hQ (6 - Q) 0 1000 1000 (gs (gs (gs (gs (gs (gs τ 4172 0) 4174 (nI L)) 4175 76) 4176 0) 4177 (-1)) 4169 0) (by omega) (by omega) (by omega) (Nat.zero_le _) (Nat.zero_le _) p2 q2 hm0 (fun p hp => absurd hp (Nat.not_lt_zero _)) (fun p hp => absurd hp (Nat.not_lt_zero _))
    have e1' : f_X1_inRiders_1_b8 1000 (nI P) (nI (6 - Q)) 0 (gs (gs σ 66 (nI 76)) 67 (nI 0)) = _ := e1
    rw [e1']
    simp only [bnd]
    have g0 : ∀ τ1 : jT, kG (gs (gs (gs (gs (gs (gs τ 4172 0) 4174 (nI L)) 4175 76) 4176 0) 4177 (-1)) 4169 0) τ1 → ∀ z, z ≠ 4169 → z ≠ 4172 → z < 4174 ∨ 4177 < z → τ1.1 z = τ.1 z := fun τ1 hf z a1 a2 a3 => (hf.1 z (by omega) (by omega)).trans ((if_neg a1).trans ((if_neg (by omega)).trans ((if_neg (by omega)).trans ((if_neg (by omega)).trans ((if_neg (by omega)).trans (if_neg a2))))))
    rcases e2 with ⟨e, τ1, he, rfl, em, hf⟩ | ⟨rfl, N, τ1, hQN, hE, h59, hok, hw, em, hf⟩
    · have em' : f_X11_riders_b37 1000 0 1 (gs (gs (gs (gs (gs (gs τ 4172 0) 4174 (nI L)) 4175 76) 4176 0) 4177 (-1)) 4169 0) = _ := em
      rw [if_pos (ja_neg1 (by omega)), em']
      unfold f_X10_riders_b50 f_X9_clear
      simp only [bnd]
      rw [if_pos (ja_neg1 (by omega))]
      refine ⟨_, _, _, P, Q, rfl, rfl, ?_, rAll_text (rAll_step h) (coreCt_of (fun i a1 a2 a3 a4 => (if_neg a2).trans ((if_neg a4).trans (if_neg a3))) (fun o ho => rfl)) (coreMt_of3 (g0 τ1 hf) (fun o ho => hf.2 o ho)) (rT0 rfl ?_) (rP_c hPr rfl rfl ?_ ?_)⟩
      · exact hf.1 4172 (by decide) (by decide)
      · exact hf.1 4169 (by decide) (by decide)
      · exact g0 τ1 hf 4203 (by decide) (by decide) (by decide)
      · exact hf.2 88 (by decide)
    · have em' : f_X11_riders_b37 1000 0 1 (gs (gs (gs (gs (gs (gs τ 4172 0) 4174 (nI L)) 4175 76) 4176 0) 4177 (-1)) 4169 0) = _ := em
      rw [if_neg (fun q => q rfl), em']
      unfold f_X10_admitAll
      have o2 : f_X9_open 76 (gs (gs σ 66 (nI 76)) 67 j) = some (0, gs (gs (gs (gs σ 66 (nI 76)) 67 j) 66 (nI 76)) 67 (nI 0)) := rfl
      rw [o2]
      simp only [bnd]
      have hb2 : bX L 76 d (gs (gs (gs σ 66 (nI 76)) 67 j) 66 (nI 76)) := ⟨hL80, by omega, x1, rfl, fun j hj => ⟨(x2 j hj).1, (x2 j hj).2.1⟩⟩
      obtain ⟨s', a1, a2⟩ := ad_all (Q := Q) hb2 hP hQN p1 hE h59 (fun p hp => (hok p hp).1) (N + 1) 0 1000 (gs (gs (gs (gs σ 66 (nI 76)) 67 j) 66 (nI 76)) 67 (nI 0)) (by omega) (by omega) ⟨q1, fun i b1 b2 => if_neg b2, fun _ _ _ => rfl, fun _ _ => rfl, fun _ _ => rfl, fun q hq => absurd hq (Nat.not_lt_zero _)⟩ (by rw [if_neg (by omega)]; rfl)
      have a1' : f_X10_admitAll_b13 1000 0 0 (gs (gs (gs (gs σ 66 (nI 76)) 67 j) 66 (nI 76)) 67 (nI 0)) = _ := a1
      rw [a1']
      simp only [bnd]
      unfold f_X11_riders_b110
      rw [m_fine hw]
      simp only [bnd]
      rw [if_pos (show ¬ (1 : Int32) = 0 by decide)]
      obtain ⟨τ', m1, m2⟩ := am_all (Q := Q) (τ0 := τ1) hP hQN ((g0 τ1 hf 4161 (by decide) (by decide) (by decide)).trans p2) hok (N + 1) 0 1000 τ1 (by omega) (by omega) ⟨(g0 τ1 hf 4165 (by decide) (by decide) (by decide)).trans q2, fun _ _ => rfl, fun _ _ _ _ => rfl, fun _ _ => rfl, fun _ _ => rfl, fun _ _ => rfl, fun q hq => absurd hq (Nat.not_lt_zero _)⟩
      have m1' : f_X11_riders_b126 1000 (nI (N + 1)) 0 τ1 = _ := m1
      rw [m1']
      unfold f_X10_riders_b50 f_X9_clear
      simp only [bnd]
      rw [iNT]
      obtain ⟨u1, u2, u3, u4, u5, u6⟩ := a2
      obtain ⟨v1, v2, v3, v4, v5, v6, v7⟩ := m2
      have gc : ∀ z, z ≠ 197 → z ≠ 66 → z ≠ 67 → s'.1 z = σ.1 z := fun z b1 b2 b3 => (u2 z b1 b3).trans ((if_neg b2).trans ((if_neg b3).trans (if_neg b2)))
      have rc : ∀ o, o ≠ 6 → o ≠ 13 → s'.2 o = σ.2 o := fun o b1 b2 => u3 o b1 b2
      have gm : ∀ z, z ≠ 4165 → z ≠ 4169 → z ≠ 4172 → z < 4174 ∨ 4177 < z → τ'.1 z = τ.1 z := fun z b1 b2 b3 b4 => (v2 z b1).trans (g0 τ1 hf z b2 b3 b4)
      have rm : ∀ o, o ≠ 66 → o ≠ 69 → o ≠ 70 → o ≠ 76 → τ'.2 o = τ.2 o := fun o b1 b2 b3 b4 => (v3 o b1 b2 b3).trans (hf.2 o b4)
      have hnv : ∀ q, q < N + 1 → 1 ≤ nV L 76 d (rSt L d P q) ∧ nV L 76 d (rSt L d P q) ≤ 99 := fun q hq => by
        have ho := (hok q hq).1
        have := nV_le ho.1
        have := ho.2.1
        omega
      refine ⟨nI (N + 1), _, _, P, Q + (N + 1), rfl, rfl, ?_, fun _ => rT0 rfl ?_, rL_congr hL ?_ ?_ ?_ ?_ ?_ ?_ ?_ ?_, ⟨by omega, u1, v1, fun r hr => ?_⟩, ⟨?_, fun r hr => ?_⟩, rU_congr hU ?_ ?_ ?_ ?_, ⟨0, Nx, by omega, hNx, rfl, rfl, ?_, fun i hi => absurd hi (Nat.not_lt_zero _)⟩, ⟨c0 + 1, 0, by omega, by omega, ?_, rfl, fun i hi => ?_⟩, ⟨s0, hs0, ?_, ?_, ?_⟩, rP_c hPr ?_ ?_ ?_ ?_⟩
      · exact (v2 4172 (by decide)).trans (hf.1 4172 (by decide) (by decide))
      · exact (v2 4169 (by decide)).trans (hf.1 4169 (by decide) (by decide))
      · exact gc 195 (by decide) (by decide) (by decide)
      · exact gc 196 (by decide) (by decide) (by decide)
      · exact rc 4 (by decide) (by decide)
      · exact rc 5 (by decide) (by decide)
      · exact gm 4161 (by decide) (by decide) (by decide) (by decide)
      · exact gm 4164 (by decide) (by decide) (by decide) (by decide)
      · exact rm 67 (by decide) (by decide) (by decide) (by decide)
      · exact rm 68 (by decide) (by decide) (by decide) (by decide)
      · by_cases c : r < Q
        · obtain ⟨m, y1, y2, y3, y4⟩ := hmd r c
          exact ⟨m, y1, y2, (u4 r c).trans y3, (v4 r c).trans ((congrFun (hf.2 69 (by decide)) r).trans y4)⟩
        · obtain ⟨q, rfl⟩ : ∃ q, r = Q + q := ⟨r - Q, by omega⟩
          obtain ⟨y1, y2⟩ := hnv q (by omega)
          exact ⟨_, y1, y2, (u6 q (by omega)).1, (v7 q (by omega)).1⟩
      · refine rS_admit (fv := vF L d P) hP (by omega) hS ?_ ?_ ?_ (fun q hq => (u6 q hq).2) (fun q hq => (v7 q hq).2) (fun q k hq hk => vF_le (hok q hq).1 hk)
        · exact fun z hz => u5 z hz
        · exact fun z hz => (v6 z hz).trans (congrFun (hf.2 66 (by decide)) z)
        · exact fun z hz => (v5 z hz).trans (congrFun (hf.2 70 (by decide)) z)
      · by_cases c : r < Q
        · have y1 : s'.2 13 r = σ.2 13 r := u5 r (fun q hq => by omega)
          have y2 : s'.2 6 r = σ.2 6 r := u4 r c
          show s'.2 13 r ≤ s'.2 6 r
          rw [y1, y2]; exact hcap r c
        · obtain ⟨q, rfl⟩ : ∃ q, r = Q + q := ⟨r - Q, by omega⟩
          obtain ⟨y1, y2, -⟩ := u6 q (by omega)
          obtain ⟨z1, z2⟩ := hnv q (by omega)
          show s'.2 13 (Q + q) ≤ s'.2 6 (Q + q)
          rw [y1, y2]
          exact (ja_le (a := 0) (by omega) (by omega)).2 (by omega)
      · exact rc 8 (by decide) (by decide)
      · exact gc 452 (by decide) (by decide) (by decide)
      · exact rm 77 (by decide) (by decide) (by decide) (by decide)
      · exact gm 4184 (by decide) (by decide) (by decide) (by decide)
      · exact (gc 898 (by decide) (by decide) (by decide)).trans h898
      · show τ'.1 4208 + 1 = nI (c0 + 1)
        rw [gm 4208 (by decide) (by decide) (by decide) (by decide), hcm, nS]
      · obtain ⟨⟨k, k1, k2, _⟩, k3, _⟩ := hk0 i hi
        have e94 : τ'.2 94 i = τ.2 94 i := congrFun (rm 94 (by decide) (by decide) (by decide) (by decide)) i
        have e93 : τ'.2 93 i = τ.2 93 i := congrFun (rm 93 (by decide) (by decide) (by decide) (by decide)) i
        refine ⟨⟨k, by omega, e94.trans k2, ?_⟩, ?_, fun q => ?_⟩
        · rw [Nat.zero_div, Nat.zero_mod]
          exact ⟨fun q => by omega, fun q => by have := q.2; omega⟩
        · show τ'.2 93 i = 0 ∨ τ'.2 93 i = 1
          rw [e93]; exact k3
        · rw [Nat.zero_div, Nat.zero_mod] at q; omega
      · exact (gc 3009 (by decide) (by decide) (by decide)).trans w1
      · exact (gm 4171 (by decide) (by decide) (by decide) (by decide)).trans w2
      · intro i hi
        have r1 : s'.2 48 i = σ.2 48 i := congrFun (rc 48 (by decide) (by decide)) i
        have r2 : τ'.2 72 i = τ.2 72 i := congrFun (rm 72 (by decide) (by decide) (by decide) (by decide)) i
        exact r1.trans ((w3 i hi).trans r2.symm)
      · exact gc 12 (by decide) (by decide) (by decide)
      · exact rc 62 (by decide) (by decide)
      · exact gm 4203 (by decide) (by decide) (by decide) (by decide)
      · exact rm 88 (by decide) (by decide) (by decide) (by decide)
