/-! ===== place, rider, row ===== -/
/-- a call that may throw: both answer alike, or both throw -/
def rTh (n : Nat) (good : Prop) (σ τ : jT) (fc fm : Option (Int32 × jT)) : Prop :=
  (good ∧ ∃ r, fc = some (r, σ) ∧ ∃ τ' P Q, fm = some (r, τ') ∧ τ'.1 4172 = 0 ∧ rAll (n + 1) P Q σ τ') ∨ (¬ good ∧ ∃ r τ' P Q, fm = some (r, τ') ∧ τ'.1 4172 = 1 ∧ rAll (n + 1) P Q σ τ')
theorem rTh_ok {n P Q : Nat} {good : Prop} {σ τ : jT} {fc fm : Option (Int32 × jT)} {r : Int32} (h : rAll n P Q σ τ) (hg : good) (h1 : fc = some (r, σ)) (h2 : fm = some (r, gs τ 4172 0)) : rTh n good σ τ fc fm := Or.inl ⟨hg, r, h1, gs τ 4172 0, P, Q, h2, rfl, rAll_core (rAll_step h) rfl rfl⟩
theorem rTh_no {n P Q : Nat} {good : Prop} {σ τ : jT} {fc fm : Option (Int32 × jT)} (h : rAll n P Q σ τ) (hg : ¬ good) (h2 : fm = some (0, gs (gs τ 4172 0) 4172 1)) : rTh n good σ τ fc fm := Or.inr ⟨hg, 0, _, P, Q, h2, rfl, rAll_core (rAll_step h) rfl rfl⟩
theorem bits_at {n P Q : Nat} {σ τ : jT} (h : rAll n P Q σ τ) (p : Nat) : ∀ (m k f : Nat) (b : Int32), k + m = Q → m < f → ∃ v, f_X10_ridersAt_b4 f (nI p) b (nI k) σ = some (v, σ) ∧ f_X11_place_b75 f (nI p) b (nI k) τ = some (v, τ) := by
  obtain ⟨-, -, ⟨hQ, q1, q2, -⟩, ⟨hS, -⟩, -⟩ := h
  intro m
  induction m with
  | zero =>
    intro k f b hk hf
    obtain ⟨f, rfl⟩ : ∃ g, f = g + 1 := ⟨f - 1, by omega⟩
    refine ⟨b, ?_, ?_⟩
    · rw [f_X10_ridersAt_b4]
      unfold f_X3_riderCount
      simp only [bnd]
      rw [q1, if_pos (nI_le (by omega) (by omega))]
    · rw [f_X11_place_b75, q2, if_pos (nI_le (by omega) (by omega))]
  | succ m ih =>
    intro k f b hk hf
    obtain ⟨f, rfl⟩ : ∃ g, f = g + 1 := ⟨f - 1, by omega⟩
    obtain ⟨-, ⟨q, -, h1, h2⟩, -⟩ := hS.2.2.2.2.2 k (by omega)
    have e1 : (10 : Int32) + nI k = nI (10 + k) := ja_add 10 k
    obtain ⟨v0, a0, b0⟩ := ih (k + 1) f b (by omega) (by omega)
    obtain ⟨v1, a1, b1⟩ := ih (k + 1) f (b ||| (1 <<< (nI k &&& 31))) (by omega) (by omega)
    by_cases hc : nI q = nI p
    · refine ⟨v1, ?_, ?_⟩
      · rw [f_X10_ridersAt_b4]
        unfold f_X3_riderCount
        simp only [bnd]
        rw [q1, if_neg (nI_ge (by omega) (by omega)), c_placeOf (by omega)]
        simp only [bnd]
        rw [h1, if_neg (fun w => w hc)]
        unfold f_X10_ridersAt_b33
        rw [nS]; exact a1
      · rw [f_X11_place_b75, q2, if_neg (nI_ge (by omega) (by omega)), e1, if_pos (ja_in (by omega) (by omega)), nI_clamp (by omega), h2, if_neg (fun w => w hc)]
        unfold f_X11_place_b107
        rw [nS]; exact b1
    · refine ⟨v0, ?_, ?_⟩
      · rw [f_X10_ridersAt_b4]
        unfold f_X3_riderCount
        simp only [bnd]
        rw [q1, if_neg (nI_ge (by omega) (by omega)), c_placeOf (by omega)]
        simp only [bnd]
        rw [h1, if_pos hc]
        unfold f_X10_ridersAt_b33
        rw [nS]; exact a0
      · rw [f_X11_place_b75, q2, if_neg (nI_ge (by omega) (by omega)), e1, if_pos (ja_in (by omega) (by omega)), nI_clamp (by omega), h2, if_pos hc]
        unfold f_X11_place_b107
        rw [nS, show b ||| 0 = b by simp]; exact b0
theorem in05 {y : Int32} (τ : jT) : (¬ y < 0 ∧ y ≤ 5 → f_X11_in y 0 5 τ = some (1, τ)) ∧ (¬ (¬ y < 0 ∧ y ≤ 5) → f_X11_in y 0 5 τ = some (0, τ)) := by
  unfold f_X11_in
  constructor
  · rintro ⟨a, b⟩
    rw [if_neg a, if_neg (Int32.not_lt.2 b)]
  · intro a
    by_cases c : y < 0
    · rw [if_pos c]
    · rw [if_neg c, if_pos (Int32.not_le.1 (fun b => a ⟨c, b⟩))]
theorem y05 {y : Int32} (h : ¬ y < 0 ∧ y ≤ 5) : y = 0 ∨ y = 1 ∨ y = 2 ∨ y = 3 ∨ y = 4 ∨ y = 5 := by
  obtain ⟨h1, h2⟩ := h
  rcases vd_cases y (n := 6) (by omega) with ⟨k, hk, rfl⟩ | hx
  · rcases (show k = 0 ∨ k = 1 ∨ k = 2 ∨ k = 3 ∨ k = 4 ∨ k = 5 by omega) with rfl | rfl | rfl | rfl | rfl | rfl
    · exact Or.inl rfl
    · exact Or.inr (Or.inl rfl)
    · exact Or.inr (Or.inr (Or.inl rfl))
    · exact Or.inr (Or.inr (Or.inr (Or.inl rfl)))
    · exact Or.inr (Or.inr (Or.inr (Or.inr (Or.inl rfl))))
    · exact Or.inr (Or.inr (Or.inr (Or.inr (Or.inr rfl))))
  · rcases hx with w | w
    · exact absurd w h1
    · have a1 : (6 : Int32).toInt = 6 := by decide
      have a2 : (5 : Int32).toInt = 5 := by decide
      have w' : (6 : Int32) ≤ y := w
      rw [Int32.le_iff_toInt_le] at w' h2
      omega
theorem pl_ways {n P Q p k : Nat} {σ τ : jT} (h : rAll n P Q σ τ) (hp : p < P) (hk : k < 3) : ∃ r, f_X3_leadsTo (nI p) (nI k) σ = some (r, σ) ∧ τ.2 68 (3 * p + k) = r := by
  obtain ⟨-, ⟨hP, p1, p2, -, hw, -⟩, -⟩ := h
  obtain ⟨w, hw3, w1, w2, w3, w4⟩ := hw p hp
  by_cases c : k < w
  · obtain ⟨q, hq, l1, l2⟩ := w3 k c
    exact ⟨_, c_leads_t p1 hP hp w1 hw3 c, by rw [l1, l2]⟩
  · exact ⟨_, c_leads_f p1 hP hp w1 (Or.inr (nI_le (by omega) (by omega))), w4 k (by omega) hk⟩
theorem x3p {p : Nat} (h : p < 10) : (3 : Int32) * nI p = nI (3 * p) := x3 (by omega)
theorem eq_place {n P Q : Nat} {σ τ : jT} (h : rAll n P Q σ τ) (x y : Int32) : rTh n ((∃ b, f_X3_hasPlace x σ = some (b, σ) ∧ ¬ b = 0) ∧ ¬ y < 0 ∧ y ≤ 5) σ τ (f_X10_placeGood x y σ) (f_X11_place x y τ) := by
  have h0 : rAll n P Q σ (gs τ 4172 0) := rAll_core h rfl rfl
  obtain ⟨-, ⟨hP, p1, p2, ⟨b, hb, i1, i2⟩, hw, -⟩, ⟨hQ, q1, q2, -⟩, -⟩ := id h
  have p2' : (gs τ 4172 0).1 4161 = nI P := p2
  rcases vd_cases x (n := P) (by omega) with ⟨p, hp, rfl⟩ | hx
  · have hm : f_X11_isPlace (nI p) (gs τ 4172 0) = some (1, gs τ 4172 0) := m_isPlace_t p2' hP hp
    by_cases hy : ¬ y < 0 ∧ y ≤ 5
    · have hin := (in05 (gs τ 4172 0)).1 hy
      have em : ∀ t, (if ¬ y = 0 then (if 4 ≤ y then (if ¬ y = 4 then f_X11_place_b75 1000 (nI p) 0 0 (gs τ 4172 0) else some ((((gs τ 4172 0).1 4164) >>> (nI p &&& 31)) &&& 1, gs τ 4172 0)) else (if jx_in (((3 * nI p) + y) - 1) 30 then some ((gs τ 4172 0).2 68 (((3 * nI p) + y) - 1).toNatClampNeg, gs τ 4172 0) else none)) else (if jx_in (nI p) 10 then some ((gs τ 4172 0).2 67 (nI p).toNatClampNeg, gs τ 4172 0) else none)) = t → f_X11_place (nI p) y τ = t := by
        intro t ht
        unfold f_X11_place
        rw [hm]
        simp only [bnd]
        rw [if_neg (show ¬ (1 : Int32) = 0 by decide), hin]
        simp only [bnd]
        rw [if_pos (show ¬ (1 : Int32) = 0 by decide)]
        exact ht
      have hg : (∃ b, f_X3_hasPlace (nI p) σ = some (b, σ) ∧ ¬ b = 0) ∧ ¬ y < 0 ∧ y ≤ 5 := ⟨⟨1, c_hp_t p1 hP hp, by decide⟩, hy⟩
      unfold f_X10_placeGood
      rcases y05 hy with rfl | rfl | rfl | rfl | rfl | rfl
      · obtain ⟨w, hw3, w1, w2, -, -⟩ := hw p hp
        refine rTh_ok (r := nI w) h hg ?_ (em _ ?_)
        · rw [if_pos rfl, c_ways_t p1 hP hp, w1]; rfl
        · rw [if_neg (fun q => q rfl), if_pos (ja_in (by omega) (by omega)), nI_clamp (by omega)]
          show some (τ.2 67 p, gs τ 4172 0) = _
          rw [w2]
      · obtain ⟨r, l1, l2⟩ := pl_ways (k := 0) h hp (by omega)
        refine rTh_ok (r := r) h hg ?_ (em _ ?_)
        · rw [if_neg (by decide), if_neg (by decide), if_neg (by decide), show (1 : Int32) - 1 = nI 0 from rfl, l1]; rfl
        · rw [if_pos (by decide), if_neg (by decide), x3p (by omega), show nI (3 * p) + 1 - 1 = nI (3 * p) by rw [nS]; exact nI_pred _, if_pos (ja_in (by omega) (by omega)), nI_clamp (by omega)]
          show some (τ.2 68 (3 * p), gs τ 4172 0) = _
          rw [← l2]; rfl
      · obtain ⟨r, l1, l2⟩ := pl_ways (k := 1) h hp (by omega)
        refine rTh_ok (r := r) h hg ?_ (em _ ?_)
        · rw [if_neg (by decide), if_neg (by decide), if_neg (by decide), show (2 : Int32) - 1 = nI 1 from rfl, l1]; rfl
        · rw [if_pos (by decide), if_neg (by decide), x3p (by omega), show nI (3 * p) + 2 = nI (3 * p + 1 + 1) from ja_add _ 2, nI_pred, if_pos (ja_in (by omega) (by omega)), nI_clamp (by omega)]
          show some (τ.2 68 (3 * p + 1), gs τ 4172 0) = _
          rw [← l2]
      · obtain ⟨r, l1, l2⟩ := pl_ways (k := 2) h hp (by omega)
        refine rTh_ok (r := r) h hg ?_ (em _ ?_)
        · rw [if_neg (by decide), if_neg (by decide), if_neg (by decide), show (3 : Int32) - 1 = nI 2 from rfl, l1]; rfl
        · rw [if_pos (by decide), if_neg (by decide), x3p (by omega), show nI (3 * p) + 3 = nI (3 * p + 2 + 1) from ja_add _ 3, nI_pred, if_pos (ja_in (by omega) (by omega)), nI_clamp (by omega)]
          show some (τ.2 68 (3 * p + 2), gs τ 4172 0) = _
          rw [← l2]
      · have hb2 : b < 2 ^ 31 := Nat.lt_of_lt_of_le hb (Nat.pow_le_pow_right (by omega) (by omega))
        have eb := j_bit (q := p) hb2 (by omega)
        refine rTh_ok (r := nI (b / 2 ^ p % 2)) h hg ?_ (em _ ?_)
        · rw [if_neg (by decide), if_pos rfl]
          unfold f_X3_isInn
          rw [c_hp_t p1 hP hp]
          simp only [bnd]
          rw [if_neg (show ¬ (1 : Int32) = 0 by decide), i1, eb]
          rcases (show b / 2 ^ p % 2 = 0 ∨ b / 2 ^ p % 2 = 1 by omega) with e | e
          · rw [e, if_pos (by decide)]; rfl
          · rw [e, if_neg (by decide)]; rfl
        · rw [if_pos (by decide), if_pos (by decide), if_neg (fun q => q rfl)]
          show some (((τ.1 4164) >>> (nI p &&& 31)) &&& 1, gs τ 4172 0) = _
          rw [i2, eb]
      · obtain ⟨v, v1, v2⟩ := bits_at h0 p Q 0 1000 0 (by omega) (by omega)
        refine rTh_ok (r := v) h hg ?_ (em _ ?_)
        · rw [if_neg (by decide), if_neg (by decide), if_pos rfl]
          unfold f_X10_ridersAt
          rw [show f_X10_ridersAt_b4 1000 (nI p) 0 0 σ = some (v, σ) from v1]; rfl
        · rw [if_pos (by decide), if_pos (by decide), if_pos (by decide)]
          exact v2
    · refine rTh_no h (fun q => hy q.2) ?_
      unfold f_X11_place
      rw [hm]
      simp only [bnd]
      rw [if_neg (show ¬ (1 : Int32) = 0 by decide), (in05 (gs τ 4172 0)).2 hy]
      simp only [bnd]
      rw [iNT]; rfl
  · refine rTh_no h (fun q => ?_) ?_
    · obtain ⟨⟨b, e1, e2⟩, -⟩ := q
      rw [c_hp_f p1 hx] at e1
      exact e2 (congrArg Prod.fst (Option.some.inj e1)).symm
    · unfold f_X11_place
      rw [m_isPlace_f p2' hP hx]
      simp only [bnd]
      rw [iT]; rfl
theorem eq_rider {n P Q : Nat} {σ τ : jT} (h : rAll n P Q σ τ) (x y : Int32) : rTh n ((∃ b, f_X3_hasRider x σ = some (b, σ) ∧ ¬ b = 0) ∧ ¬ y < 0 ∧ y ≤ 5) σ τ (f_X10_riderGood x y σ) (f_X11_rider x y τ) := by
  have h0 : rAll n P Q σ (gs τ 4172 0) := rAll_core h rfl rfl
  obtain ⟨-, ⟨hP, p1, p2, -, hw, hw0⟩, ⟨hQ, q1, q2, hmd⟩, ⟨hS, -⟩, -⟩ := id h
  have q2' : (gs τ 4172 0).1 4165 = nI Q := q2
  rcases vd_cases x (n := Q) (by omega) with ⟨r, hr, rfl⟩ | hx
  · have hm : f_X11_isRider (nI r) (gs τ 4172 0) = some (1, gs τ 4172 0) := m_isRider_t q2' hQ hr
    by_cases hy : ¬ y < 0 ∧ y ≤ 5
    · have hin := (in05 (gs τ 4172 0)).1 hy
      have hg : (∃ b, f_X3_hasRider (nI r) σ = some (b, σ) ∧ ¬ b = 0) ∧ ¬ y < 0 ∧ y ≤ 5 := ⟨⟨1, c_hr_t q1 hQ hr, by decide⟩, hy⟩
      obtain ⟨md, -, -, m1, m2⟩ := hmd r hr
      obtain ⟨⟨v, -, s1, s2⟩, ⟨q, hq, l1, l2⟩, ⟨c1, -⟩, -⟩ := hS.2.2.2.2.2 r hr
      unfold f_X10_riderGood f_X11_rider
      rw [hm]
      simp only [bnd]
      rw [if_neg (show ¬ (1 : Int32) = 0 by decide), hin]
      simp only [bnd]
      rw [if_pos (show ¬ (1 : Int32) = 0 by decide)]
      have e4 : (4 : Int32) + nI r = nI (4 + r) := ja_add 4 r
      have e10 : (10 : Int32) + nI r = nI (10 + r) := ja_add 10 r
      have e16 : (16 : Int32) + nI r = nI (16 + r) := ja_add 16 r
      rcases y05 hy with rfl | rfl | rfl | rfl | rfl | rfl
      · refine rTh_ok (r := nI md) h hg ?_ ?_
        · rw [if_pos rfl, c_mind_t q1 hQ hr, m1]; rfl
        · rw [if_pos rfl, if_pos (ja_in (by omega) (by omega)), nI_clamp (by omega)]
          show some (τ.2 69 r, gs τ 4172 0) = _
          rw [m2]
      · refine rTh_ok (r := nI v) h hg ?_ ?_
        · rw [if_neg (by decide), if_pos rfl, c_spentOf (by omega), s1]; rfl
        · rw [if_neg (by decide), if_pos rfl, e4, if_pos (ja_in (by omega) (by omega)), nI_clamp (by omega)]
          show some (τ.2 66 (4 + r), gs τ 4172 0) = _
          rw [s2]
      · refine rTh_ok (r := nI q) h hg ?_ ?_
        · rw [if_neg (by decide), if_neg (by decide), if_pos rfl, c_placeOf (by omega), l1]; rfl
        · rw [if_neg (by decide), if_neg (by decide), if_pos rfl, e10, if_pos (ja_in (by omega) (by omega)), nI_clamp (by omega)]
          show some (τ.2 66 (10 + r), gs τ 4172 0) = _
          rw [l2]
      · refine rTh_ok (r := σ.2 13 (12 + r)) h hg ?_ ?_
        · rw [if_neg (by decide), if_neg (by decide), if_neg (by decide), if_pos rfl, c_convOf (by omega)]; rfl
        · rw [if_neg (by decide), if_neg (by decide), if_neg (by decide), if_pos rfl, e16, if_pos (ja_in (by omega) (by omega)), nI_clamp (by omega)]
          show some (τ.2 66 (16 + r), gs τ 4172 0) = _
          rw [c1]
      · have hq10 : q < 10 := by rcases hq with w | w <;> omega
        have e66 : (gs τ 4172 0).2 66 (10 + r) = nI q := l2
        have main : ∃ z, f_X10_viewAt (nI r) (nI q) σ = some (z, σ) ∧ (if ¬ (gs τ 4172 0).2 67 q = 0 then (f_X11_viewOf_66 (nI r) (nI q) (gs τ 4172 0)).bind fun q17 => some (q17.1, q17.2) else some (-1, gs τ 4172 0)) = some (z, gs τ 4172 0) := by
          rcases hq with w | ⟨w1, w2⟩
          · obtain ⟨w, v, hw3, u1, u2, hv, u3, u4⟩ := v_both h0 hr w
            refine ⟨_, u3, ?_⟩
            rw [u2]
            by_cases c : w = 0
            · rw [if_pos c, if_neg (show ¬ ¬ nI w = 0 by rw [c]; decide)]
            · rw [if_neg c, if_pos (show ¬ nI w = 0 from nIne (b := 0) (by omega) (by omega) c), (u4 (by omega)).2]; rfl
          · obtain ⟨g, M, j, hg', -, -, hb, hMp, -, -⟩ := rS_guide hS hr
            refine ⟨-1, ?_, ?_⟩
            · unfold f_X10_viewAt
              rw [c_guide (g := g) (by omega) (by omega) (by rcases hb with z | z
                                                             · exact Or.inl ⟨z.1, z.2.2⟩
                                                             · exact Or.inr z.1)]
              simp only [bnd]
              rw [c_viewOf_f p1 (Or.inr (nI_le (by omega) (by omega)))]; rfl
            · rw [w1, show (gs τ 4172 0).2 67 0 = 0 from hw0 w2, if_neg (fun q => q rfl)]
        obtain ⟨z, z1, z2⟩ := main
        refine rTh_ok (r := z) h hg ?_ ?_
        · rw [if_neg (by decide), if_neg (by decide), if_neg (by decide), if_neg (by decide), if_pos rfl, c_placeOf (by omega)]
          simp only [bnd]
          rw [l1, z1]; rfl
        · rw [if_neg (by decide), if_neg (by decide), if_neg (by decide), if_neg (by decide), if_pos rfl, e10, if_pos (ja_in (by omega) (by omega)), nI_clamp (by omega), e66, if_pos (ja_in (by omega) (by omega)), nI_clamp (by omega)]
          exact z2
      · obtain ⟨b, hb, u1, u2⟩ := up_both h0 hr
        have hb2 : b = 0 ∨ b = 1 := by rcases hb with w | w
                                       · exact Or.inl w.1
                                       · exact Or.inr w
        refine rTh_ok (r := b) h hg ?_ ?_
        · rw [if_neg (by decide), if_neg (by decide), if_neg (by decide), if_neg (by decide), if_neg (by decide), u1]
          simp only [bnd]
          rcases hb2 with rfl | rfl <;> rfl
        · rw [if_neg (by decide), if_neg (by decide), if_neg (by decide), if_neg (by decide), if_neg (by decide), u2]
          simp only [bnd]
          rcases hb2 with rfl | rfl <;> rfl
    · refine rTh_no h (fun q => hy q.2) ?_
      unfold f_X11_rider
      rw [hm]
      simp only [bnd]
      rw [if_neg (show ¬ (1 : Int32) = 0 by decide), (in05 (gs τ 4172 0)).2 hy]
      simp only [bnd]
      rw [iNT]; rfl
  · refine rTh_no h (fun q => ?_) ?_
    · obtain ⟨⟨b, e1, e2⟩, -⟩ := q
      rw [c_hr_f q1 hx] at e1
      exact e2 (congrArg Prod.fst (Option.some.inj e1)).symm
    · unfold f_X11_rider
      rw [m_isRider_f q2' hQ hx]
      simp only [bnd]
      rw [iT]; rfl
theorem eq_row {n P Q : Nat} {σ τ : jT} (h : rAll n P Q σ τ) (x : Int32) : rTh n (¬ x < 0 ∧ x < σ.1 3009) σ τ (f_X10_rowGood x σ) (f_X11_row x τ) := by
  obtain ⟨-, -, -, -, -, -, -, ⟨s, hs, w1, w2, w3⟩, -⟩ := id h
  rcases vd_cases x (n := s) (by omega) with ⟨k, hk, rfl⟩ | hx
  · refine rTh_ok (r := σ.2 48 k) h ⟨nI_pos (by omega), by rw [w1]; exact nI_lt hk (by omega)⟩ ?_ ?_
    · unfold f_X10_rowGood f_X6_at
      rw [if_neg (nI_pos (by omega)), w1, if_neg (nI_ge hk (by omega)), if_pos (ja_in (by omega) (by omega)), nI_clamp (by omega)]; rfl
    · unfold f_X11_row
      rw [w2, m_inp hk (by omega)]
      simp only [bnd]
      rw [if_neg (show ¬ (1 : Int32) = 0 by decide), if_pos (ja_in (by omega) (by omega)), nI_clamp (by omega)]
      show some (τ.2 72 k, gs τ 4172 0) = _
      rw [w3 k hk]
  · refine rTh_no h (fun q => ?_) ?_
    · rcases hx with w | w
      · exact q.1 w
      · rw [w1] at q
        exact absurd q.2 (Int32.not_lt.2 w)
    · unfold f_X11_row
      rw [w2, m_pred hx (by omega)]
      simp only [bnd]
      rw [iT]; rfl
